/-! The words that every contract rests on: those of the tables that hold behind every call. -/
def TB : List Cond := lw_tbl.filter goodWord
theorem tb_t {w : Cond} (i : Nat) (h : tables_1[i]? = some w) (hg : goodWord w = true) : w ∈ TB := List.mem_filter.mpr ⟨List.mem_append_right _ (List.mem_of_getElem? h), hg⟩
theorem tb_p {w : Cond} (i : Nat) (h : (k2_sels lw_privs)[i]? = some w) (hg : goodWord w = true) : w ∈ TB := List.mem_filter.mpr ⟨List.mem_append_left _ (List.mem_of_getElem? h), hg⟩
theorem tb_good {w : Cond} (h : w ∈ TB) : (w.onTables && w.keeps) = true ∨ ∃ ty, w = .arrayClass ty := good_of_word (List.mem_filter.mp h).2
theorem tb_pay {args : Array Value} {s : State} (hts : ∀ w ∈ TB, w.before args s = true) {w0 : Cond} (hc : w0 ∈ TB) : ∀ w ∈ (w0 :: TB), ∀ (a' : Array Value) (U : State), s.WarmedH U.vm → w.before a' U = true := by
  intro w hw a' U hW
  have h : w ∈ TB := (List.mem_cons.mp hw).elim (fun e => by rw [e]; exact hc) id
  exact word_at hW (tb_good h) (hts w h)
abbrev classes : List vw_C := [(RX0, TX0, 6), (RX1, TX1, 7), (RX2, TX2, 5), (RX3, TX3, 5), (RX4, TX4, 4), (RX9, TX9, 2), (RX6, TX6, 7), (RX7, TX7, 9), (RX8, TX8, 8), (RX9, TX9, 2), (RX10, TX10, 13), (RX11, TX11, 19), (RX12, TX12, 50)]
/-! The pure heap: how many cells, how many slots, what each cell holds (names count from the law's start on; from 1000000 on they name statics). -/
abbrev AE : Type := (Nat × vp_A) ⊕ (Nat × List Value)
abbrev AH : Type := Nat × Nat × (Nat → Option AE)
/-- the classes' numbers, the array classes by kind, the addresses of statics, the first cell -/
abbrev GG : Type := va_G × (Nat → ClassId) × (Nat → Nat) × Nat
def rfG (g : GG) (k : Nat) : Nat := if k < 1000000 then g.2.2.2 + k else g.2.2.1 k
def vG (g : GG) (v : Value) : Value := match v with
  | .ref k => .ref (rfG g k)
  | v => v
def arG (g : GG) (a : vp_A) : vp_A := match a with
  | (n, .inr (.inr (.inr (.inr f)))) => (n, .inr (.inr (.inr (.inr (fun i => (f i).map (rfG g))))))
  | a => a
def cvG (g : GG) (e : AE) : va_E := match e with
  | .inl (t, a) => .inl (g.2.1 t, arG g a)
  | .inr (ci, fs) => .inr (ci, fs.map (vG g))
def tysG (g : GG) : List (ClassId × FieldType) := [(g.2.1 0, .int), (g.2.1 1, .byte), (g.2.1 2, .long), (g.2.1 3, .boolean), (g.2.1 4, .object "TrapCorner$State"), (g.2.1 5, .array .int)]
def AG (g : GG) : Nat → Prop := fun q => g.2.2.2 ≤ q
def PPg (g : GG) (h : AH) (H : Heap) : Prop := (∀ (k : Nat) (e : AE), h.2.2 k = some e → k < 1000000 ∧ va_at g.1 classes (g.2.2.2 + k, cvG g e) H) ∧ H.size = g.2.2.2 + h.1
/-- the heap's cells as a list -/
def wvG (g : GG) (h : AH) : va_W := (List.range h.1).filterMap (fun k => (h.2.2 k).map (fun e => (g.2.2.2 + k, cvG g e)))
theorem wv_mem {g : GG} {h : AH} {q : Nat × va_E} : q ∈ wvG g h ↔ ∃ k e, k < h.1 ∧ h.2.2 k = some e ∧ q = (g.2.2.2 + k, cvG g e) := by
  unfold wvG
  rw [List.mem_filterMap]
  constructor
  · rintro ⟨k, hk, he⟩
    cases hf : h.2.2 k with
    | none => rw [hf] at he; cases he
    | some e => rw [hf] at he; exact ⟨k, e, List.mem_range.mp hk, hf, (Option.some.inj he).symm⟩
  · rintro ⟨k, e, hk, he, rfl⟩
    exact ⟨k, List.mem_range.mpr hk, by rw [he]; rfl⟩
theorem wv_lt {g : GG} {h : AH} {H : Heap} (hP : PPg g h H) {k : Nat} {e : AE} (he : h.2.2 k = some e) : k < h.1 := by
  have h1 := (hP.1 k e he).2.lt
  have h2 := hP.2
  simp only at h1
  omega
theorem wv_P {g : GG} {h : AH} {H : Heap} (hP : PPg g h H) : va_P g.1 classes (wvG g h) H := by
  intro i q hq
  obtain ⟨k, e, hk, he, rfl⟩ := wv_mem.mp (List.mem_of_getElem? hq)
  exact (hP.1 k e he).2
theorem wv_get {g : GG} {h : AH} {H : Heap} (hP : PPg g h H) {k : Nat} {e : AE} (he : h.2.2 k = some e) : ∃ i : Nat, (wvG g h)[i]? = some (g.2.2.2 + k, cvG g e) := List.getElem?_of_mem (wv_mem.mpr ⟨k, e, wv_lt hP he, he, rfl⟩)
theorem wv_inj {g : GG} {f : Nat → Option AE} : ∀ (l : List Nat), l.Pairwise (· < ·) → ∀ (i j : Nat) (p q : Nat × va_E), (l.filterMap (fun k => (f k).map (fun e => (g.2.2.2 + k, cvG g e))))[i]? = some p → (l.filterMap (fun k => (f k).map (fun e => (g.2.2.2 + k, cvG g e))))[j]? = some q → p.1 = q.1 → i = j
  | [], _, i, j, p, q, h1, _, _ => by simp at h1
  | a :: l, hl, i, j, p, q, h1, h2, e => by
    have hl' := List.pairwise_cons.mp hl
    have big : ∀ (i : Nat) (p : Nat × va_E), (l.filterMap (fun k => (f k).map (fun e => (g.2.2.2 + k, cvG g e))))[i]? = some p → g.2.2.2 + a < p.1 := by
      intro i p hp
      obtain ⟨k, hk, he⟩ := List.mem_filterMap.mp (List.mem_of_getElem? hp)
      have := hl'.1 k hk
      cases hf : f k with
      | none => rw [hf] at he; cases he
      | some e =>
        rw [hf] at he
        have := (Option.some.inj he).symm
        subst this
        simp only
        omega
    cases hf : f a with
    | none =>
      rw [List.filterMap_cons_none (by rw [hf]; rfl)] at h1 h2
      exact wv_inj l hl'.2 i j p q h1 h2 e
    | some x =>
      rw [List.filterMap_cons_some (by rw [hf]; rfl)] at h1 h2
      match i, j with
      | 0, 0 => rfl
      | 0, j + 1 =>
        rw [List.getElem?_cons_zero] at h1
        rw [List.getElem?_cons_succ] at h2
        have b := big j q h2
        have := (Option.some.inj h1).symm
        subst this
        simp only at e
        omega
      | i + 1, 0 =>
        rw [List.getElem?_cons_zero] at h2
        rw [List.getElem?_cons_succ] at h1
        have b := big i p h1
        have := (Option.some.inj h2).symm
        subst this
        simp only at e
        omega
      | i + 1, j + 1 =>
        rw [List.getElem?_cons_succ] at h1 h2
        rw [wv_inj l hl'.2 i j p q h1 h2 e]
theorem wv_D {g : GG} {h : AH} : va_D (AG g) (wvG g h) := by
  refine ⟨fun i j p q h1 h2 e => wv_inj _ List.pairwise_lt_range i j p q h1 h2 e, fun k q hq => ?_⟩
  obtain ⟨k, e, hk, he, rfl⟩ := wv_mem.mp (List.mem_of_getElem? hq)
  exact Nat.le_add_right _ _
/-- a cell's new contents -/
def hset (h : AH) (k : Nat) (e : AE) : AH := (h.1, h.2.1, fun j => if j = k then some e else h.2.2 j)
theorem wv_set {g : GG} {h : AH} {H H1 : Heap} (hP : PPg g h H) {k i : Nat} {e0 e : AE} (he : h.2.2 k = some e0) (hi : (wvG g h)[i]? = some (g.2.2.2 + k, cvG g e0)) (h1 : va_P g.1 classes ((wvG g h).set i (g.2.2.2 + k, cvG g e)) H1) (hs : H1.size = H.size) : PPg g (hset h k e) H1 := by
  refine ⟨fun j x hx => ?_, by rw [hs]; exact hP.2⟩
  have hil := (List.getElem?_eq_some_iff.mp hi).1
  by_cases hj : j = k
  · subst hj
    have hx' : some e = some x := by simpa [hset] using hx
    cases hx'
    exact ⟨(hP.1 j e0 he).1, h1 i _ (List.getElem?_set_self hil)⟩
  · have hx' : h.2.2 j = some x := by simpa [hset, hj] using hx
    obtain ⟨i', hi'⟩ := wv_get hP hx'
    have hne : i ≠ i' := fun q => by
      subst q
      rw [hi] at hi'
      have := congrArg Prod.fst (Option.some.inj hi')
      simp only at this
      omega
    exact ⟨(hP.1 j x hx').1, h1 i' _ (by rw [List.getElem?_set_ne hne]; exact hi')⟩
