/-! Faults of the text on the tape. -/
def fv0 (t : Nat → Nat) (N : Nat) : Int32 := match pCy t N 300 cy0 0 with
  | .inl e => Int32.ofNat e
  | .inr _ => no1
def fv1 (t : Nat → Nat) (N : Nat) : Int32 := match pLw t N 300 0 with
  | .inl e => Int32.ofNat e
  | .inr _ => no1
def fv2 (t : Nat → Nat) (N : Nat) : Int32 := match pPl t N 16 0 with
  | .inl e => Int32.ofNat e
  | .inr _ => no1
def FZ (m m' : MI) : Prop := ∀ a, ¬ (3 ≤ a ∧ a ≤ 17) → m' a = m a
def GZ (m m' : MI) (j : MJ) (r r' : MR) : Prop := FQm m m' j j r r' ∧ m' 76 = m 76 ∧ m' 88 = m 88
section FAULT
variable {n z : Nat} {D : Dyn} {m m1 m' : MI} {j : MJ} {r : MR} {t : Nat → Nat} {N : Nat}
theorem wR_ne {a b i : Nat} {v : Option Nat} (h : b ≠ a) : wR r a i v b = r b := by
  unfold wR
  simp [h]
theorem isC_no {cs : List Nat} {k ci : Nat} {ps : List FK} (hs : SHP D k = some (.inr (ci, ps))) (hc : ¬ ci ∈ cs) : ¬ (isC cs (mkH n z D m j r) k = some ()) := by
  unfold isC
  rw [mk_at hs]
  show ¬ ((if ci ∈ cs then some () else none) = some ())
  rw [if_neg hc]
  exact fun h => by cases h
theorem C_fl0 (hD : ∀ a, 1000000 ≤ a → D a = none) (hT : TC m t N) : ∃ m', f_X11_fault 0 (Int32.ofNat 0) (mkH n z D m j r) = some (fv0 t N, mkH n z D m' j r) ∧ FZ m m' ∧ (∀ c, pCy t N 300 cy0 0 = .inr c → CCY m' c) := by
  obtain ⟨m', e, f, v⟩ := C_readsC (n := n) (z := z) (j := j) (r := r) hD hT
  have e0 : f_X11_readerOf 0 (Int32.ofNat 0) (mkH n z D m j r) = some (some 3, (mkH n z D m j r)) := by
    unfold f_X11_readerOf f_X11_readerOf_0
    rw [if_pos (by decide), q0.2.2.1, obs]
  refine ⟨m', ?_, fun a ha => f a (by omega), ?_⟩
  · unfold f_X11_fault f_X11_fault_0 fv0
    rw [q0.1, obs, e0, cN_mk]
    dsimp only
    rw [if_pos c3, e, cN_mk]
    cases h : pCy t N 300 cy0 0 with
    | inl k =>
      simp only [h] at v
      dsimp only
      rw [if_pos (by decide), gI_mk (i := 2) rfl (by decide) rfl, obs, v]
    | inr c =>
      dsimp only
      rw [if_neg (by decide)]
      rfl
  · intro c h
    simp only [h] at v
    exact v
theorem C_fl1 (hD : ∀ a, 1000000 ≤ a → D a = none) (hT : TC m t N) : ∃ m', f_X11_fault 0 (Int32.ofNat 1) (mkH n z D m j r) = some (fv1 t N, mkH n z D m' j r) ∧ FZ m m' ∧ (∀ cl, pLw t N 300 0 = .inr cl → (cdP cl).length ≤ 240 ∧ m' 14 4 = Int32.ofNat (cdP cl).length ∧ (∀ q, q < (cdP cl).length → m' 15 q = Int32.ofNat ((cdP cl).getD q 0))) := by
  obtain ⟨m', e, f, v⟩ := C_reads (n := n) (z := z) (j := j) (r := r) hD hT
  have e0 : f_X11_readerOf 0 (Int32.ofNat 1) (mkH n z D m j r) = some (some 14, (mkH n z D m j r)) := by
    unfold f_X11_readerOf f_X11_readerOf_0
    rw [if_neg (by decide), if_pos (by decide), q0.2.2.2.1, obs]
  refine ⟨m', ?_, fun a ha => f a (by omega) (by omega), ?_⟩
  · unfold f_X11_fault f_X11_fault_0 fv1
    rw [q0.1, obs, e0, cN_mk]
    dsimp only
    rw [if_neg (isC_no rfl (by decide)), if_pos c14, e, cN_mk]
    cases h : pLw t N 300 0 with
    | inl k =>
      simp only [h] at v
      dsimp only
      rw [if_pos (by decide), gI_mk (i := 2) rfl (by decide) rfl, obs, v]
    | inr c =>
      dsimp only
      rw [if_neg (by decide)]
      rfl
  · intro c h
    simp only [h] at v
    exact v
theorem C_fl2 (hD : ∀ a, 1000000 ≤ a → D a = none) (hT : TC m t N) : ∃ m', f_X11_fault 0 (Int32.ofNat 2) (mkH n z D m j r) = some (fv2 t N, mkH n z D m' j r) ∧ FZ m m' ∧ (∀ l, pPl t N 16 0 = .inr l → m' 16 4 = Int32.ofNat l.length ∧ (∀ q, q < l.length → m' 17 q = Int32.ofNat ((l.map cdS).getD q 0))) := by
  obtain ⟨m', e, f, v⟩ := C_readsP (n := n) (z := z) (j := j) (r := r) hD hT
  have e0 : f_X11_readerOf 0 (Int32.ofNat 2) (mkH n z D m j r) = some (some 16, (mkH n z D m j r)) := by
    unfold f_X11_readerOf f_X11_readerOf_0
    rw [if_neg (by decide), if_neg (by decide), if_pos (by decide), q0.2.2.2.2.1, obs]
  refine ⟨m', ?_, fun a ha => f a (by omega) (by omega), ?_⟩
  · unfold f_X11_fault f_X11_fault_0 fv2
    rw [q0.1, obs, e0, cN_mk]
    dsimp only
    rw [if_neg (isC_no rfl (by decide)), if_neg (isC_no rfl (by decide)), if_pos c16, e, cN_mk]
    cases h : pPl t N 16 0 with
    | inl k =>
      simp only [h] at v
      dsimp only
      rw [if_pos (by decide), gI_mk (i := 2) rfl (by decide) rfl, obs, v]
    | inr c =>
      dsimp only
      rw [if_neg (by decide)]
      rfl
  · intro c h
    simp only [h] at v
    exact v
theorem FZ_q (h : FZ m m') : FQc m m' := ⟨fun a h1 _ _ _ _ => h a h1, fun i _ => by rw [h 55 (by omega)]⟩
theorem M_fin {x : Int32} {k : Nat} {kk : Int32 → AH → Option (Int32 × AH)} (hk : k ≤ 2) : cN (f_X12_isIn (Int32.ofNat k).toInt64 0 2 (mkH n z D m j r)) (mkH n z D m j r) kk = kk (bI true) (mkH n z D m j r) := by
  rw [i64_0, i64_2, M_inK (by omega), im_k (by omega), cN_mk]
theorem TMd_0 {tp : TP} {x : Int32} (h : TMd m tp) : TMd (wI m 72 0 x) tp := TMd_w h (wI_sn (by omega)) (wI_ne (by omega))
theorem M_fl0 {tp : TP} (hD : ∀ a, 1000000 ≤ a → D a = none) (hT : TMd m tp) (hN : tp.2 ≤ 240) (hb : ∀ q, q < tp.2 → 1 ≤ tp.1 q ∧ tp.1 q < 256) : ∃ m', f_X12_fault 72 (Int32.ofNat 0) (mkH n z D m j r) = some (fv0 tp.1 tp.2, mkH n z D m' j (wR r 72 5 (some 73))) ∧ GZ m m' j r (wR r 72 5 (some 73)) ∧ (∀ c, pCy tp.1 tp.2 300 cy0 0 = .inr c → MCY m' c ∧ okC c ∧ whole c = true) := by
  obtain ⟨m', e, f1, f2, v⟩ := M_readCity (n := n) (z := z) (j := j) (r := r) hD (TMd_0 (x := 0) hT) hN hb
  refine ⟨m', ?_, ⟨⟨fun a ha => ?_, fun q _ => ?_, fun q _ => ?_, fun i h1 h2 h3 h4 h5 h6 => ?_, fun _ _ => rfl, fun a ha => wR_ne ha⟩, ?_, ?_⟩, ?_⟩
  · unfold f_X12_fault f_X12_fault_0
    rw [thr0, M_fin (x := 0) (by omega), if_neg (by decide), if_pos (by decide), q72.1, obs, e, cN_mk]
    unfold f_X12_fault_28
    rw [if_neg (by decide)]
    unfold f_X12_fault_46
    rw [if_neg (by decide)]
    unfold f_X12_fault_55 fv0
    rw [gI_mk (i := 11) rfl (by decide) rfl, obs]
    cases h : pCy tp.1 tp.2 300 cy0 0 with
    | inl k =>
      simp only [h] at v
      dsimp only
      rw [v.2]
    | inr c =>
      simp only [h] at v
      dsimp only
      rw [v.1]
  · rw [f1 a (by omega) (by omega) (by omega) (by omega), wI_ne (by omega)]
  · rw [f1 83 (by omega) (by omega) (by omega) (by omega), wI_ne (by omega)]
  · rw [f1 84 (by omega) (by omega) (by omega) (by omega), wI_ne (by omega)]
  · rw [f2 i (by omega) h3 h4 h5, wI_sn h1]
  · rw [f1 76 (by omega) (by omega) (by omega) (by omega), wI_ne (by omega)]
  · rw [f1 88 (by omega) (by omega) (by omega) (by omega), wI_ne (by omega)]
  · intro c h
    simp only [h] at v
    exact v.2
theorem M_fl1 {tp : TP} {L : Nat → Int} (hD : ∀ a, 1000000 ≤ a → D a = none) (hL : LT m L) (hT : TMd m tp) (hN : tp.2 ≤ 240) (hb : ∀ q, q < tp.2 → 1 ≤ tp.1 q ∧ tp.1 q < 256) : ∃ m', f_X12_fault 72 (Int32.ofNat 1) (mkH n z D m j r) = some (fv1 tp.1 tp.2, mkH n z D m' j (wR r 72 5 (some 73))) ∧ GZ m m' j r (wR r 72 5 (some 73)) ∧ (∀ a, a ≠ 72 → m' a = m a) := by
  have hT0 := TMd_0 (x := 0) hT
  have hL0 : LT (wI m 72 0 0) L := by
    unfold LT
    rw [wI_ne (by omega)]
    exact hL
  obtain ⟨m', e, f1, f2, v⟩ := M_go (n := n) (z := z) (j := j) (r := r) (a := 73) (b := 0) (t := tp.1) hD hL0 hN (Or.inl ⟨rfl, rfl⟩) (fun q hq => by rw [Nat.zero_add]; exact ⟨hT0.2 q hq, hb q hq⟩)
  have g1 : ∀ a, a ≠ 72 → m' a = m a := fun a ha => by rw [f1 a ha, wI_ne ha]
  refine ⟨m', ?_, ⟨⟨fun a ha => g1 a (by omega), fun q _ => by rw [g1 83 (by omega)], fun q _ => by rw [g1 84 (by omega)], fun i h1 h2 h3 h4 h5 h6 => by rw [f2 i h2, wI_sn h1], fun _ _ => rfl, fun a ha => wR_ne ha⟩, g1 76 (by omega), g1 88 (by omega)⟩, g1⟩
  unfold f_X12_fault f_X12_fault_0
  rw [thr0, M_fin (x := 0) (by omega), if_neg (by decide), if_neg (by decide)]
  unfold f_X12_fault_28
  rw [if_pos (by decide), q72.2.2.2.2.2.1, obs, gI_mk (i := 6) rfl (by decide) rfl, obs, q72.1, obs, hT0.1, show (0 : Int32) = Int32.ofNat 0 from rfl]
  rw [show (0 : Int32) = Int32.ofNat 0 from rfl] at e
  rw [e, cN_mk]
  unfold f_X12_fault_46
  rw [if_neg (by decide)]
  unfold f_X12_fault_55 fv1
  rw [gI_mk (i := 11) rfl (by decide) rfl, obs]
  cases h : pLw tp.1 tp.2 300 0 with
  | inl k =>
    simp only [h] at v
    dsimp only
    rw [v.2]
  | inr c =>
    simp only [h] at v
    dsimp only
    rw [v.1]
theorem M_fl2 {tp : TP} (hD : ∀ a, 1000000 ≤ a → D a = none) (hT : TMd m tp) (hN : tp.2 ≤ 240) (hb : ∀ q, q < tp.2 → 1 ≤ tp.1 q ∧ tp.1 q < 256) : ∃ m', f_X12_fault 72 (Int32.ofNat 2) (mkH n z D m j r) = some (fv2 tp.1 tp.2, mkH n z D m' j (wR r 72 5 (some 73))) ∧ GZ m m' j r (wR r 72 5 (some 73)) ∧ (∀ l, pPl tp.1 tp.2 16 0 = .inr l → l.length ≤ 16 ∧ 1 ≤ l.length ∧ m' 84 4 = Int32.ofNat l.length ∧ (∀ q c, q < l.length → c < 3 → m' 83 (192 + 3 * q + c) = sv c (l.getD q (0, 0, 0))) ∧ (∀ s ∈ l, okS s)) := by
  obtain ⟨m', e, f1, f2, f3, f4, v⟩ := M_readPlan (n := n) (z := z) (j := j) (r := r) hD (TMd_0 (x := 0) hT) hN hb
  refine ⟨m', ?_, ⟨⟨fun a ha => ?_, fun q hq => ?_, fun q hq => ?_, fun i h1 h2 h3 h4 h5 h6 => ?_, fun _ _ => rfl, fun a ha => wR_ne ha⟩, ?_, ?_⟩, ?_⟩
  · unfold f_X12_fault f_X12_fault_0
    rw [thr0, M_fin (x := 0) (by omega), if_neg (by decide), if_neg (by decide)]
    unfold f_X12_fault_28
    rw [if_neg (by decide)]
    unfold f_X12_fault_46
    rw [if_pos (by decide), q72.1, obs, e, cN_mk]
    unfold f_X12_fault_55 fv2
    rw [gI_mk (i := 11) rfl (by decide) rfl, obs]
    cases h : pPl tp.1 tp.2 16 0 with
    | inl k =>
      simp only [h] at v
      dsimp only
      rw [v.2]
    | inr c =>
      simp only [h] at v
      dsimp only
      rw [v.1]
  · rw [f1 a (by omega) (by omega) (by omega), wI_ne (by omega)]
  · rw [f3 q hq, wI_ne (by omega)]
  · rw [f4 q hq, wI_ne (by omega)]
  · rw [f2 i (by omega), wI_sn h1]
  · rw [f1 76 (by omega) (by omega) (by omega), wI_ne (by omega)]
  · rw [f1 88 (by omega) (by omega) (by omega), wI_ne (by omega)]
  · intro c h
    simp only [h] at v
    exact v.2
end FAULT
