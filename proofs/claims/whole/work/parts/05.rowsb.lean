/-- the field that an instruction of 'own' writes at idx, of type ty, not final -/
def LKP (own : String) (idx : Nat) (cs : List Nat) (k : Nat) (ty : FieldType) : Prop := ∀ ci ∈ cs, ∃ (C : String) (T : u_T) (N : Nat) (ref : String), CK ci C T N ∧ k < N ∧ Cond.fieldLink own idx ref (T k).2.1 (T k).2.2.1 ∈ TB ∧ (ref = (T k).1 ∨ Cond.sameField ref (T k).1 (T k).2.1 (T k).2.2.1 ∈ TB) ∧ (T k).2.2.2 = false ∧ parseFieldDescriptor (T k).2.2.1 = some ty
def pZ (cs : List Nat) (h : AH) (o k : Nat) (x : Int32) : Option AH := if x = 0 ∨ x = 1 then pV cs h o k (.int x) else none
/-- a boolean answer -/
def rZ (x : Int32) (h : AH) : Option (Int32 × AH) := if x = 0 ∨ x = 1 then some (x, h) else none
/-- a call that makes nothing -/
def cN {α β : Type} (x : Option (α × AH)) (h : AH) (k : α → AH → Option β) : Option β := match x with
  | some (r, h1) => if h1.1 = h.1 ∧ h1.2.1 = h.2.1 then k r h1 else none
  | none => none
theorem cN_spec {α β : Type} {x : Option (α × AH)} {h : AH} {k : α → AH → Option β} {y : β} (hx : cN x h k = some y) : ∃ r h1, x = some (r, h1) ∧ (h1.1 = h.1 ∧ h1.2.1 = h.2.1) ∧ k r h1 = some y := by
  unfold cN at hx
  split at hx
  · rename_i r h1
    split at hx
    · exact ⟨r, h1, rfl, by assumption, hx⟩
    · cases hx
  · cases hx
theorem cN_eq {α β : Type} {x : Option (α × AH)} {h : AH} {k : α → AH → Option β} {r : α} {h1 : AH} (e : x = some (r, h1)) (hz : h1.1 = h.1 ∧ h1.2.1 = h.2.1) : cN x h k = k r h1 := by
  subst e
  unfold cN
  exact if_pos hz
theorem va_S.tr {A : Nat → Prop} {H0 H H1 : Heap} {l0 l1 : List Loc} (a : va_S A H0 H l0) (b : va_S A H H1 l1) : va_S A H0 H1 l1 := ⟨Nat.le_trans a.1 b.1, fun q h1 h2 => (b.2.1 q (Nat.lt_of_lt_of_le h1 a.1) h2).trans (a.2.1 q h1 h2), b.2.2⟩
theorem va_S.now {A : Nat → Prop} {H0 H : Heap} {l0 : List Loc} (a : va_S A H0 H l0) : va_S A H H l0 := ⟨Nat.le_refl _, fun _ _ _ => rfl, a.2.2⟩
section ROWS
variable {g : GG} {p : Program} {l : Launch} {e : Env} {R : Room} {s : State} {m : MethodId} {args : Array Value} {below : List Frame} {meth : Method} {c : Code} {H : Heap} {locs : List Loc} {cells slots : Nat} {Q : State → Prop}
variable {cc : ByteArray} {nL : Nat} {own : String} {pc : Nat} {ls : Array Slot} {rest : List Value} {n0 z0 : Nat} {h h' : AH}
theorem pV_spec {cs : List Nat} {o k : Nat} {v : Value} (h1 : pV cs h o k v = some h') : ∃ ci fs, h.2.2 o = some (.inr (ci, fs)) ∧ ci ∈ cs ∧ k < fs.length ∧ h' = hset h o (.inr (ci, fs.set k v)) := by
  unfold pV at h1
  split at h1
  · rename_i ci fs he
    split at h1
    · rename_i hc
      cases h1
      exact ⟨ci, fs, he, hc.1, hc.2, rfl⟩
    · cases h1
  · cases h1
/-- behind a write: the invariant again -/
theorem Iv.wr (I : Iv g s n0 z0 h H locs cells slots) {H1 : Heap} {locs1 : List Loc} {k i : Nat} {e0 e1 : AE} (he : h.2.2 k = some e0) (hi : (wvG g h)[i]? = some (g.2.2.2 + k, cvG g e0)) (h1 : va_P g.1 classes ((wvG g h).set i (g.2.2.2 + k, cvG g e1)) H1) (hS : va_S (AG g) H H1 locs1) (hz : H1.size ≤ s.heap.size + cells) : Iv g s n0 z0 (hset h k e1) H1 locs1 cells slots := by
  obtain ⟨hP, hS0, hn, hcl, hsl⟩ := I
  have hsz : H1.size = H.size := Nat.le_antisymm (by rw [hP.2]; omega) hS.1
  exact ⟨wv_set hP he hi h1 hsz, hS0.tr hS, hn, hcl, hsl⟩
theorem map_set {fs : List Value} {k : Nat} {v : Value} : (fs.map (vG g)).set k (vG g v) = (fs.set k v).map (vG g) := by rw [List.map_set]
theorem r_put (X : Cx g p s m args meth c cc nL own) (I : Iv g s n0 z0 h H locs cells slots) {cs : List Nat} {idx o k : Nat} {v : Value} {ty : FieldType} (e1 : pV cs h o k v = some h') (L : LKP own idx cs k ty) (hn : narrow ty (vG g v) = vG g v) (hf : fits ty (vG g v) = true) (hdg : decode cc pc = .ok (.putfield idx, 3))
    (kk : ∀ (H : Heap) (locs : List Loc), Iv g s n0 z0 h' H locs cells slots → W p l e R s m args below meth c H locs cells slots Q (F0 m (pc + 3) ls rest)) : W p l e R s m args below meth c H locs cells slots Q (F0 m pc ls (vG g v :: .ref (rfG g o) :: rest)) := by
  obtain ⟨ci, fs, he, hci, hkl, rfl⟩ := pV_spec e1
  obtain ⟨C, T, N, ref, ⟨hc, hin, ⟨ty0, hty⟩, hnm⟩, hk, hl, hs, hfin, hd⟩ := L ci hci
  obtain ⟨hx, hb, hml, hown, hT, hSF, -⟩ := X
  obtain ⟨i, hi⟩ := wv_get I.1 he
  rw [rf_lt (I.1.1 o _ he).1]
  refine va_put (Ts := TB) (H0 := H) hx hb hT hin ty0 hty hnm hown hSF.1 (wv_P I.1) wv_D I.2.1.now i hi hc k hk (hT _ hl) (sf_same hT hs) hfin hd hn hf (by rw [List.length_map]; exact hkl) hdg (fun H1 locs1 h1 _ hS => W.sz fun hz => kk H1 locs1 (I.wr he hi ?_ hS hz))
  rw [map_set] at h1
  exact h1
theorem r_pI (X : Cx g p s m args meth c cc nL own) (I : Iv g s n0 z0 h H locs cells slots) {cs : List Nat} {idx o k : Nat} {x : Int32} (e1 : pV cs h o k (.int x) = some h') (L : LKP own idx cs k .int) (hdg : decode cc pc = .ok (.putfield idx, 3))
    (kk : ∀ (H : Heap) (locs : List Loc), Iv g s n0 z0 h' H locs cells slots → W p l e R s m args below meth c H locs cells slots Q (F0 m (pc + 3) ls rest)) : W p l e R s m args below meth c H locs cells slots Q (F0 m pc ls (.int x :: .ref (rfG g o) :: rest)) := r_put (v := .int x) X I e1 L rfl rfl hdg kk
theorem r_pJ (X : Cx g p s m args meth c cc nL own) (I : Iv g s n0 z0 h H locs cells slots) {cs : List Nat} {idx o k : Nat} {x : Int64} (e1 : pV cs h o k (.long x) = some h') (L : LKP own idx cs k .long) (hdg : decode cc pc = .ok (.putfield idx, 3))
    (kk : ∀ (H : Heap) (locs : List Loc), Iv g s n0 z0 h' H locs cells slots → W p l e R s m args below meth c H locs cells slots Q (F0 m (pc + 3) ls rest)) : W p l e R s m args below meth c H locs cells slots Q (F0 m pc ls (.long x :: .ref (rfG g o) :: rest)) := r_put (v := .long x) X I e1 L rfl rfl hdg kk
theorem r_pZ (X : Cx g p s m args meth c cc nL own) (I : Iv g s n0 z0 h H locs cells slots) {cs : List Nat} {idx o k : Nat} {x : Int32} (e1 : pZ cs h o k x = some h') (L : LKP own idx cs k .boolean) (hdg : decode cc pc = .ok (.putfield idx, 3))
    (kk : ∀ (H : Heap) (locs : List Loc), Iv g s n0 z0 h' H locs cells slots → W p l e R s m args below meth c H locs cells slots Q (F0 m (pc + 3) ls rest)) : W p l e R s m args below meth c H locs cells slots Q (F0 m pc ls (.int x :: .ref (rfG g o) :: rest)) := by
  unfold pZ at e1
  split at e1
  · rename_i hx
    refine r_put (v := .int x) X I e1 L ?_ ?_ hdg kk
    · rcases hx with rfl | rfl <;> rfl
    · rcases hx with rfl | rfl <;> rfl
  · cases e1
theorem r_pR (X : Cx g p s m args meth c cc nL own) (I : Iv g s n0 z0 h H locs cells slots) {cs : List Nat} {idx o k x : Nat} {ty : FieldType} (e1 : pV cs h o k (.ref x) = some h') (L : LKP own idx cs k ty) (hty : ty.isReference = true) (hdg : decode cc pc = .ok (.putfield idx, 3))
    (kk : ∀ (H : Heap) (locs : List Loc), Iv g s n0 z0 h' H locs cells slots → W p l e R s m args below meth c H locs cells slots Q (F0 m (pc + 3) ls rest)) : W p l e R s m args below meth c H locs cells slots Q (F0 m pc ls (.ref (rfG g x) :: .ref (rfG g o) :: rest)) := by
  refine r_put (v := .ref x) X I e1 L ?_ ?_ hdg kk
  · cases ty <;> first | rfl | cases hty
  · cases ty <;> first | rfl | cases hty
theorem r_pN (X : Cx g p s m args meth c cc nL own) (I : Iv g s n0 z0 h H locs cells slots) {cs : List Nat} {idx o k : Nat} {ty : FieldType} (e1 : pV cs h o k .null = some h') (L : LKP own idx cs k ty) (hty : ty.isReference = true) (hdg : decode cc pc = .ok (.putfield idx, 3))
    (kk : ∀ (H : Heap) (locs : List Loc), Iv g s n0 z0 h' H locs cells slots → W p l e R s m args below meth c H locs cells slots Q (F0 m (pc + 3) ls rest)) : W p l e R s m args below meth c H locs cells slots Q (F0 m pc ls (.null :: .ref (rfG g o) :: rest)) := by
  refine r_put (v := .null) X I e1 L ?_ ?_ hdg kk
  · cases ty <;> first | rfl | cases hty
  · cases ty <;> first | rfl | cases hty
/-! arrays -/
theorem aI_spec {t a : Nat} {i x : Int32} (h1 : aI t h a i = some x) : (∃ n f, h.2.2 a = some (.inl (t, n, .inl f)) ∧ vp_in i n ∧ f i.toNatClampNeg = x) ∨ (∃ xs, sarr a = some (t, xs) ∧ vp_in i xs.length ∧ xs.getD i.toNatClampNeg 0 = x) := by
  unfold aI at h1
  split at h1
  · rename_i t' n f he
    split at h1
    · rename_i hc
      obtain ⟨rfl, hc⟩ := hc
      exact Or.inl ⟨n, f, he, hc, Option.some.inj h1⟩
    · cases h1
  · cases h1
  · split at h1
    · rename_i k xs hxs
      split at h1
      · rename_i hc
        obtain ⟨rfl, hc⟩ := hc
        exact Or.inr ⟨xs, hxs, hc, Option.some.inj h1⟩
      · cases h1
    · cases h1
theorem sarr_ne3 (a : Nat) (xs : List Int32) : ¬ sarr a = some (3, xs) := by
  intro h1
  unfold sarr at h1
  split at h1
  · cases h1
  · split at h1
    · obtain ⟨q, hq, hp⟩ := Option.map_eq_some_iff.mp h1
      cases hp
    · split at h1
      · cases h1
      · obtain ⟨q, hq, hp⟩ := Option.map_eq_some_iff.mp h1
        cases hp
def sty (t : Nat) : FieldType := if t = 0 then .int else .byte
theorem sarr_spec {U : State} {H : Heap} (hs : SF g U H) {a t : Nat} {xs : List Int32} (h1 : sarr a = some (t, xs)) : va_T (sty t) (rfG g a) xs.length (fun i => .int (xs.getD i 0)) (AG g) U H := by
  unfold sarr at h1
  split at h1
  · cases h1
  · rename_i ha
    have e0 : rfG g a = g.2.2.1 a := if_neg ha
    split at h1
    · obtain ⟨q, hq, hp⟩ := Option.map_eq_some_iff.mp h1
      cases hp
      have h2 := (hs.2.1 _ q hq).2
      rw [e0, show a = 1000000 + (a - 1000000) by omega]
      exact h2
    · split at h1
      · cases h1
      · obtain ⟨q, hq, hp⟩ := Option.map_eq_some_iff.mp h1
        cases hp
        have hi : a - 3000000 < 7 := (List.getElem?_eq_some_iff.mp hq).1
        have h2 := (hs.2.2.2.1.1 (a - 3000000) hi).2.2.2
        rw [List.getD_eq_getElem?_getD, List.getElem?_map, hq] at h2
        rw [List.getD_eq_getElem?_getD, hq] at h2
        rw [e0, show a = 3000000 + (a - 3000000) by omega]
        exact h2
theorem r_aI0 (X : Cx g p s m args meth c cc nL own) (I : Iv g s n0 z0 h H locs cells slots) {a : Nat} {i x : Int32} (e1 : aI 0 h a i = some x) (hdg : decode cc pc = .ok (.iaload, 1))
    (kk : W p l e R s m args below meth c H locs cells slots Q (F0 m (pc + 1) ls (.int x :: rest))) : W p l e R s m args below meth c H locs cells slots Q (F0 m pc ls (.int i :: .ref (rfG g a) :: rest)) := by
  obtain ⟨hx, hb, hml, hown, hT, hSF, -⟩ := X
  rcases aI_spec e1 with ⟨n, f, he, hin, rfl⟩ | ⟨xs, hxs, hin, rfl⟩
  · obtain ⟨q, hq⟩ := wv_get I.1 he
    rw [rf_lt (I.1.1 a _ he).1]
    exact va_iald hx hb hSF.1 (wv_P I.1) q 0 hq rfl hin hdg kk
  · exact va_ti hx hb (sarr_spec hSF hxs) I.2.1 hin rfl hdg kk
theorem r_aI1 (X : Cx g p s m args meth c cc nL own) (I : Iv g s n0 z0 h H locs cells slots) {a : Nat} {i x : Int32} (e1 : aI 1 h a i = some x) (hdg : decode cc pc = .ok (.baload, 1))
    (kk : W p l e R s m args below meth c H locs cells slots Q (F0 m (pc + 1) ls (.int x :: rest))) : W p l e R s m args below meth c H locs cells slots Q (F0 m pc ls (.int i :: .ref (rfG g a) :: rest)) := by
  obtain ⟨hx, hb, hml, hown, hT, hSF, -⟩ := X
  rcases aI_spec e1 with ⟨n, f, he, hin, rfl⟩ | ⟨xs, hxs, hin, rfl⟩
  · obtain ⟨q, hq⟩ := wv_get I.1 he
    rw [rf_lt (I.1.1 a _ he).1]
    exact va_bald hx hb hSF.1 (wv_P I.1) q 1 hq rfl hin hdg kk
  · exact va_tb hx hb (sarr_spec hSF hxs) I.2.1 hin rfl hdg kk
theorem r_aI3 (X : Cx g p s m args meth c cc nL own) (I : Iv g s n0 z0 h H locs cells slots) {a : Nat} {i x : Int32} (e1 : aI 3 h a i = some x) (hdg : decode cc pc = .ok (.baload, 1))
    (kk : W p l e R s m args below meth c H locs cells slots Q (F0 m (pc + 1) ls (.int x :: rest))) : W p l e R s m args below meth c H locs cells slots Q (F0 m pc ls (.int i :: .ref (rfG g a) :: rest)) := by
  obtain ⟨hx, hb, hml, hown, hT, hSF, -⟩ := X
  rcases aI_spec e1 with ⟨n, f, he, hin, rfl⟩ | ⟨xs, hxs, hin, rfl⟩
  · obtain ⟨q, hq⟩ := wv_get I.1 he
    rw [rf_lt (I.1.1 a _ he).1]
    exact va_zald hx hb hSF.1 (wv_P I.1) q 3 hq rfl hin hdg kk
  · exact absurd hxs (sarr_ne3 _ _)
theorem r_aJ (X : Cx g p s m args meth c cc nL own) (I : Iv g s n0 z0 h H locs cells slots) {a : Nat} {i : Int32} {x : Int64} (e1 : aJ h a i = some x) (hdg : decode cc pc = .ok (.laload, 1))
    (kk : W p l e R s m args below meth c H locs cells slots Q (F0 m (pc + 1) ls (.long x :: rest))) : W p l e R s m args below meth c H locs cells slots Q (F0 m pc ls (.int i :: .ref (rfG g a) :: rest)) := by
  obtain ⟨hx, hb, hml, hown, hT, hSF, -⟩ := X
  unfold aJ at e1
  split at e1
  · rename_i t' n f he
    split at e1
    · rename_i hc
      obtain ⟨rfl, hin⟩ := hc
      cases e1
      obtain ⟨q, hq⟩ := wv_get I.1 he
      rw [rf_lt (I.1.1 a _ he).1]
      exact va_lald hx hb hSF.1 (wv_P I.1) q 2 hq rfl hin hdg kk
    · cases e1
  · cases e1
theorem r_aQ4 (X : Cx g p s m args meth c cc nL own) (I : Iv g s n0 z0 h H locs cells slots) {a : Nat} {i : Int32} {x : Option Nat} (e1 : aQ 4 h a i = some x) (hdg : decode cc pc = .ok (.aaload, 1))
    (kk : W p l e R s m args below meth c H locs cells slots Q (F0 m (pc + 1) ls (va_rf (x.map (rfG g)) :: rest))) : W p l e R s m args below meth c H locs cells slots Q (F0 m pc ls (.int i :: .ref (rfG g a) :: rest)) := by
  obtain ⟨hx, hb, hml, hown, hT, hSF, -⟩ := X
  unfold aQ at e1
  split at e1
  · rename_i t' n f he
    split at e1
    · rename_i hc
      obtain ⟨rfl, hin⟩ := hc
      cases e1
      obtain ⟨q, hq⟩ := wv_get I.1 he
      rw [rf_lt (I.1.1 a _ he).1]
      exact va_aldq hx hb hSF.1 (wv_P I.1) q 4 hq rfl hin hdg kk
    · cases e1
  · cases e1
theorem uI_spec {t a : Nat} {i x : Int32} (h1 : uI t h a i x = some h') : ∃ n f, h.2.2 a = some (.inl (t, n, .inl f)) ∧ vp_in i n ∧ h' = hset h a (.inl (t, n, .inl (upd f i.toNatClampNeg (nar t x)))) := by
  unfold uI at h1
  split at h1
  · rename_i t' n f he
    split at h1
    · rename_i hc
      obtain ⟨rfl, hc⟩ := hc
      cases h1
      exact ⟨n, f, he, hc, rfl⟩
    · cases h1
  · cases h1
theorem r_uI0 (X : Cx g p s m args meth c cc nL own) (I : Iv g s n0 z0 h H locs cells slots) {a : Nat} {i x : Int32} (e1 : uI 0 h a i x = some h') (hdg : decode cc pc = .ok (.iastore, 1))
    (kk : ∀ (H : Heap) (locs : List Loc), Iv g s n0 z0 h' H locs cells slots → W p l e R s m args below meth c H locs cells slots Q (F0 m (pc + 1) ls rest)) : W p l e R s m args below meth c H locs cells slots Q (F0 m pc ls (.int x :: .int i :: .ref (rfG g a) :: rest)) := by
  obtain ⟨hx, hb, hml, hown, hT, hSF, -⟩ := X
  obtain ⟨n, f, he, hin, rfl⟩ := uI_spec e1
  obtain ⟨q, hq⟩ := wv_get I.1 he
  rw [rf_lt (I.1.1 a _ he).1]
  exact va_iast hx hb hSF.1 (wv_P I.1) wv_D I.2.1.now q 0 hq rfl hin hdg (fun H1 locs1 h1 _ hS => W.sz fun hz => kk H1 locs1 (I.wr he hq h1 hS hz))
theorem r_uI1 (X : Cx g p s m args meth c cc nL own) (I : Iv g s n0 z0 h H locs cells slots) {a : Nat} {i x : Int32} (e1 : uI 1 h a i x = some h') (hdg : decode cc pc = .ok (.bastore, 1))
    (kk : ∀ (H : Heap) (locs : List Loc), Iv g s n0 z0 h' H locs cells slots → W p l e R s m args below meth c H locs cells slots Q (F0 m (pc + 1) ls rest)) : W p l e R s m args below meth c H locs cells slots Q (F0 m pc ls (.int x :: .int i :: .ref (rfG g a) :: rest)) := by
  obtain ⟨hx, hb, hml, hown, hT, hSF, -⟩ := X
  obtain ⟨n, f, he, hin, rfl⟩ := uI_spec e1
  obtain ⟨q, hq⟩ := wv_get I.1 he
  rw [rf_lt (I.1.1 a _ he).1]
  exact va_bast hx hb hSF.1 (wv_P I.1) wv_D I.2.1.now q 1 hq rfl hin hdg (fun H1 locs1 h1 _ hS => W.sz fun hz => kk H1 locs1 (I.wr he hq h1 hS hz))
theorem r_uI3 (X : Cx g p s m args meth c cc nL own) (I : Iv g s n0 z0 h H locs cells slots) {a : Nat} {i x : Int32} (e1 : uI 3 h a i x = some h') (hdg : decode cc pc = .ok (.bastore, 1))
    (kk : ∀ (H : Heap) (locs : List Loc), Iv g s n0 z0 h' H locs cells slots → W p l e R s m args below meth c H locs cells slots Q (F0 m (pc + 1) ls rest)) : W p l e R s m args below meth c H locs cells slots Q (F0 m pc ls (.int x :: .int i :: .ref (rfG g a) :: rest)) := by
  obtain ⟨hx, hb, hml, hown, hT, hSF, -⟩ := X
  obtain ⟨n, f, he, hin, rfl⟩ := uI_spec e1
  obtain ⟨q, hq⟩ := wv_get I.1 he
  rw [rf_lt (I.1.1 a _ he).1]
  exact va_zast hx hb hSF.1 (wv_P I.1) wv_D I.2.1.now q 3 hq rfl hin hdg (fun H1 locs1 h1 _ hS => W.sz fun hz => kk H1 locs1 (I.wr he hq h1 hS hz))
theorem r_uJ (X : Cx g p s m args meth c cc nL own) (I : Iv g s n0 z0 h H locs cells slots) {a : Nat} {i : Int32} {x : Int64} (e1 : uJ h a i x = some h') (hdg : decode cc pc = .ok (.lastore, 1))
    (kk : ∀ (H : Heap) (locs : List Loc), Iv g s n0 z0 h' H locs cells slots → W p l e R s m args below meth c H locs cells slots Q (F0 m (pc + 1) ls rest)) : W p l e R s m args below meth c H locs cells slots Q (F0 m pc ls (.long x :: .int i :: .ref (rfG g a) :: rest)) := by
  obtain ⟨hx, hb, hml, hown, hT, hSF, -⟩ := X
  unfold uJ at e1
  split at e1
  · rename_i t' n f he
    split at e1
    · rename_i hc
      obtain ⟨rfl, hin⟩ := hc
      cases e1
      obtain ⟨q, hq⟩ := wv_get I.1 he
      rw [rf_lt (I.1.1 a _ he).1]
      exact va_last hx hb hSF.1 (wv_P I.1) wv_D I.2.1.now q 2 hq rfl hin hdg (fun H1 locs1 h1 _ hS => W.sz fun hz => kk H1 locs1 (I.wr he hq h1 hS hz))
    · cases e1
  · cases e1
theorem r_len (X : Cx g p s m args meth c cc nL own) (I : Iv g s n0 z0 h H locs cells slots) {a : Nat} {x : Int32} (e1 : aLen h a = some x) (hdg : decode cc pc = .ok (.arraylength, 1))
    (kk : W p l e R s m args below meth c H locs cells slots Q (F0 m (pc + 1) ls (.int x :: rest))) : W p l e R s m args below meth c H locs cells slots Q (F0 m pc ls (.ref (rfG g a) :: rest)) := by
  obtain ⟨hx, hb, hml, hown, hT, hSF, -⟩ := X
  unfold aLen at e1
  split at e1
  · rename_i t' y he
    split at e1
    · rename_i ht
      cases e1
      obtain ⟨q, hq⟩ := wv_get I.1 he
      rw [rf_lt (I.1.1 a _ he).1]
      have ht' : ∃ ty, (tysG g)[t']? = some (g.2.1 t', ty) := by
        rcases (show t' = 0 ∨ t' = 1 ∨ t' = 2 ∨ t' = 3 ∨ t' = 4 ∨ t' = 5 by omega) with rfl | rfl | rfl | rfl | rfl | rfl <;> exact ⟨_, rfl⟩
      obtain ⟨ty, hty⟩ := ht'
      refine va_alen hx hb hSF.1 (wv_P I.1) q t' hq hty ?_ hdg kk
      obtain ⟨n, f | f | f | f | f⟩ := y <;> rfl
    · cases e1
  · cases e1
  · obtain ⟨⟨t, xs⟩, hxs, rfl⟩ := Option.map_eq_some_iff.mp e1
    exact va_tlen hx hb (sarr_spec hSF hxs) I.2.1 rfl hdg kk
end ROWS
