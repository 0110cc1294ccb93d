/-! A law or a plan is kept. -/
section KEEPS
variable {n z : Nat} {D : Dyn} {m m' : MI} {j : MJ} {r r' : MR} {A A' B B' K : Nat}
theorem uD_n {s : Shp} {a : Nat} (h : a ≠ n) : uD D n s a = D a := if_neg h
theorem uM_n {f : Nat → Int32} {a : Nat} (h : a ≠ n) : uM m n f a = m a := if_neg h
theorem uM_s {f : Nat → Int32} : uM m n f n = f := if_pos rfl
theorem SHP_uD {s : Shp} {a : Nat} (h : a < n) : SHP (uD D n s) a = SHP D a := SHP_lt (fun _ => uD_n (by omega))
theorem SHP_uDn {s : Shp} (h : 95 ≤ n) : SHP (uD D n s) n = some s := by
  unfold SHP
  rw [if_neg (by omega)]
  exact if_pos rfl
theorem isI_mk {a N : Nat} (hs : SHP D a = some (aT N)) : isI (mkH n z D m j r) a = some () := by
  unfold isI
  rw [mk_at hs]
  exact if_pos rfl
theorem nC_mk {ρ : Type} {a k : Nat} {kk : Nat → AH → Option (ρ × AH)} (hn : 95 ≤ n) (hn2 : n < 1000000) (hs : SHP D a = some (aT k)) : nC a (mkH n z D m j r) kk = ck (mkH (n + 1) (z + k) (uD D n (aT k)) (uM m n (m a)) j (uR r n (r n))) (kk n (mkH (n + 1) (z + k) (uD D n (aT k)) (uM m n (m a)) j (uR r n (r n)))) := by
  unfold nC
  rw [mk_at hs]
  refine Eq.trans (if_pos (show 0 = 0 ∧ n < 1000000 from ⟨rfl, hn2⟩)) ?_
  show ck (hpush (mkH n z D m j r) k (.inl (0, k, .inl (m a)))) (kk n (hpush (mkH n z D m j r) k (.inl (0, k, .inl (m a))))) = _
  rw [push_mk (s := aT k) (x := m a) (q := r n) hn (by simp [cellOf, aT])]
theorem C_cOf {a L k : Nat} (hn : 95 ≤ n) (hn2 : n < 1000000) (hs : SHP D a = some (aT L)) (ha : a < n) (hk : k ≤ L) (hL : L ≤ 1000) : ∃ f : Nat → Int32, (∀ q, q < k → f q = m a q) ∧ f_J7_copyOf_59c91 a (Int32.ofNat k) (mkH n z D m j r) = some (n, mkH (n + 1) (z + k) (uD D n (aT k)) (uM m n f) j r) := by
  unfold f_J7_copyOf_59c91 f_J7_copyOf_59c91_0
  by_cases h : k = L
  · subst h
    refine ⟨m a, fun _ _ => rfl, ck_ok ?_ (by omega) (by omega)⟩
    rw [aLen_mk hs (by decide), obs, if_pos rfl]
    rw [nC_mk hn hn2 hs]
    refine ck_ok ?_ (Nat.le_refl _) (Nat.le_refl _)
    show (isI _ n).bind _ = _
    rw [isI_mk (SHP_uDn hn), obs, uR_id]
  · have hne : ¬ Int32.ofNat k = Int32.ofNat L := fun e => h ((i_inj (by omega) (by omega)).mp e)
    refine ⟨fun q => if q < k then m a q else 0, fun q hq => if_pos hq, ck_ok ?_ (by omega) (by omega)⟩
    rw [aLen_mk hs (by decide), obs, if_neg hne, nA_mk hn hn2 (by omega)]
    refine ck_ok ?_ (Nat.le_refl _) (Nat.le_refl _)
    have hs' : SHP (uD D n (aT k)) a = some (aT L) := by rw [SHP_uD ha]; exact hs
    rw [aLen_mk hs' (by decide), obs, J_min (by omega) (by omega), cN_mk, Nat.min_eq_right hk, aCpy_mk (SHP_uDn hn) (aSrc_mk hs') hk (Nat.le_refl _) (by omega), obs, uR_id]
    refine congrArg (fun mm => some (n, mkH (n + 1) (z + k) (uD D n (aT k)) mm j r)) ?_
    funext b q
    by_cases hb : b = n
    · subst hb
      rw [cpR_s, uM_s, uM_s, uM_n (by omega)]
    · rw [cpR_n hb, uM_n hb, uM_n hb]
theorem uQ5_mk {a N i v : Nat} (hs : SHP D a = some (.inl (5, N))) (hi : i < N) (hN : N ≤ 100000) (hv : SHP D v = some (aT K)) : uQ 5 (mkH n z D m j r) a (Int32.ofNat i) v = some (mkH n z D m j (wR r a i (some v))) := by
  unfold uQ
  rw [mk_at hs, mk_at hv]
  have e : (Int32.ofNat i).toNatClampNeg = i := i_toNat (by omega)
  have key : hset (mkH n z D m j r) a (.inl (5, N, .inr (.inr (.inr (.inr (va_up (r a) i (some v))))))) = mkH n z D m j (wR r a i (some v)) := mk_set hs (fun b hb => ⟨rfl, rfl, if_neg hb⟩) (by simp [cellOf, wR])
  show (if 5 = 5 ∧ ¬ (Int32.ofNat i < 0 ∨ N ≤ (Int32.ofNat i).toNatClampNeg) then _ else none) = _
  rw [if_pos ⟨rfl, i_ix hi hN⟩, e]
  show (if 5 = 5 ∧ 0 = 0 then _ else none) = _
  rw [if_pos ⟨rfl, rfl⟩, key]
theorem C_kLaw (hn : 95 ≤ n) (hn2 : n < 1000000) (hA : A < 4) (h14 : m 0 14 = Int32.ofNat A) (hK : K ≤ 240) (h4 : m 14 4 = Int32.ofNat K) : ∃ f : Nat → Int32, (∀ q, q < K → f q = m 15 q) ∧ f_X11_keepLaw 0 (mkH n z D m j r) = some (Int32.ofNat A, mkH (n + 1) (z + K) (uD D n (aT K)) (wI (wI (uM m n f) 1 1 (Int32.ofNat 0)) 0 14 (Int32.ofNat (A + 1))) j (wR r 61 A (some n))) := by
  obtain ⟨f, hf, e⟩ := C_cOf (z := z) (D := D) (m := m) (j := j) (r := r) (a := 15) (L := 240) hn hn2 rfl (by omega) hK (by omega)
  have e1 : f_X2_program 14 (mkH n z D m j r) = some (n, mkH (n + 1) (z + K) (uD D n (aT K)) (uM m n f) j r) := by
    unfold f_X2_program f_X2_program_0
    refine ck_ok ?_ (by omega) (by omega)
    simp only [q14, obs, h4]
    rw [e, cA_mk (by omega) (by omega)]
    exact ck_ok rfl (Nat.le_refl _) (Nat.le_refl _)
  refine ⟨f, hf, ?_⟩
  unfold f_X11_keepLaw f_X11_keepLaw_0
  refine ck_ok ?_ (by omega) (by omega)
  simp (disch := omega) only [obs, cN_mk, ite_true, ite_false, if_true, if_false, q0, h14, l4, ilt_t, q14]
  rw [e1, cA_mk (by omega) (by omega)]
  refine ck_ok ?_ (by omega) (by omega)
  rw [uQ5_mk (N := 4) rfl hA (by omega) (SHP_uDn hn), obs]
  simp (disch := omega) only [obs, cN_mk, ite_true, ite_false, if_true, if_false, q0, q1, wI_ne, wI_se, uM_n, h14, l1, i_add, i_sub, Nat.add_sub_cancel, l0]
theorem C_kPlan (hn : 95 ≤ n) (hn2 : n < 1000000) (hA : A < 4) (h14 : m 0 15 = Int32.ofNat A) (hK : K ≤ 16) (h4 : m 16 4 = Int32.ofNat K) : ∃ f : Nat → Int32, (∀ q, q < K → f q = m 17 q) ∧ f_X11_keepPlan 0 (mkH n z D m j r) = some (Int32.ofNat A, mkH (n + 1) (z + K) (uD D n (aT K)) (wI (wI (uM m n f) 1 1 (Int32.ofNat 0)) 0 15 (Int32.ofNat (A + 1))) j (wR r 66 A (some n))) := by
  obtain ⟨f, hf, e⟩ := C_cOf (z := z) (D := D) (m := m) (j := j) (r := r) (a := 17) (L := 16) hn hn2 rfl (by omega) hK (by omega)
  have e1 : f_X3_steps 16 (mkH n z D m j r) = some (n, mkH (n + 1) (z + K) (uD D n (aT K)) (uM m n f) j r) := by
    unfold f_X3_steps f_X3_steps_0
    refine ck_ok ?_ (by omega) (by omega)
    simp only [q16, obs, h4]
    rw [e, cA_mk (by omega) (by omega)]
    exact ck_ok rfl (Nat.le_refl _) (Nat.le_refl _)
  refine ⟨f, hf, ?_⟩
  unfold f_X11_keepPlan f_X11_keepPlan_0
  refine ck_ok ?_ (by omega) (by omega)
  simp (disch := omega) only [obs, cN_mk, ite_true, ite_false, if_true, if_false, q0, h14, l4, ilt_t, q16]
  rw [e1, cA_mk (by omega) (by omega)]
  refine ck_ok ?_ (by omega) (by omega)
  rw [uQ5_mk (N := 4) rfl hA (by omega) (SHP_uDn hn), obs]
  simp (disch := omega) only [obs, cN_mk, ite_true, ite_false, if_true, if_false, q0, q1, wI_ne, wI_se, uM_n, h14, l1, i_add, i_sub, Nat.add_sub_cancel, l0]
theorem C_kLaw4 (h14 : m 0 14 = Int32.ofNat 4) : f_X11_keepLaw 0 (mkH n z D m j r) = some (no1, (mkH n z D m j r)) := by
  unfold f_X11_keepLaw f_X11_keepLaw_0
  refine ck_ok ?_ (Nat.le_refl _) (Nat.le_refl _)
  simp (disch := omega) only [obs, cN_mk, ite_true, ite_false, if_true, if_false, q0, h14, l4, ilt_f]
  rfl
theorem C_kPlan4 (h14 : m 0 15 = Int32.ofNat 4) : f_X11_keepPlan 0 (mkH n z D m j r) = some (no1, (mkH n z D m j r)) := by
  unfold f_X11_keepPlan f_X11_keepPlan_0
  refine ck_ok ?_ (Nat.le_refl _) (Nat.le_refl _)
  simp (disch := omega) only [obs, cN_mk, ite_true, ite_false, if_true, if_false, q0, h14, l4, ilt_f]
  rfl
theorem half {s : Nat} (d1 : 95 ≤ n) (d7 : ∀ s, D s = some (oState s) → 95 ≤ s → s + 5 < n) (hs : isSt (uD D n (aT K)) s) (h : s < n) : s + 5 < n := by
  have h0 := hs.1
  rw [SHP_uD h] at h0
  by_cases h95 : s < 95
  · by_cases h90 : s < 90
    · omega
    · exfalso
      have e : ∃ x, SHP D s = some (.inl x) := by
        rcases (show s = 90 ∨ s = 91 ∨ s = 92 ∨ s = 93 ∨ s = 94 by omega) with rfl | rfl | rfl | rfl | rfl
        · exact ⟨_, rfl⟩
        · exact ⟨_, rfl⟩
        · exact ⟨_, rfl⟩
        · exact ⟨_, rfl⟩
        · exact ⟨_, rfl⟩
      obtain ⟨x, e⟩ := e
      rw [e] at h0
      cases h0
  · unfold SHP at h0
    rw [if_neg h95] at h0
    exact d7 s h0 (by omega)
theorem NS_n (d1 : 95 ≤ n) (d7 : ∀ s, D s = some (oState s) → 95 ≤ s → s + 5 < n) : NS (uD D n (aT K)) n := by
  intro s hs hso
  by_cases e : s = n
  · subst e
    have h0 := hs.1
    rw [SHP_uDn d1] at h0
    cases h0
  · have := half d1 d7 hs (by omega)
    omega
theorem isSt_u {s : Nat} (h : s + 5 < n) : isSt (uD D n (aT K)) s ↔ isSt D s := by
  unfold isSt
  rw [SHP_uD (by omega : s < n), SHP_uD (by omega : s + 1 < n), SHP_uD (by omega : s + 2 < n), SHP_uD (by omega : s + 3 < n), SHP_uD (by omega : s + 4 < n), SHP_uD (by omega : s + 5 < n)]
theorem NS_u {o : Nat} (d1 : 95 ≤ n) (d7 : ∀ s, D s = some (oState s) → 95 ≤ s → s + 5 < n) (ho : o < n) (h : NS D o) : NS (uD D n (aT K)) o := by
  intro s hs hso
  have := half d1 d7 hs (by omega)
  exact h s ((isSt_u this).mp hs) hso
theorem DW_a (h : DW n D r A B) (h40 : r' 40 = r 40) (h61 : ∀ l, l < A' → ∀ o, r' 61 l = some o → o = n ∨ (l < A ∧ r 61 l = some o)) (h66 : ∀ l, l < B' → ∀ o, r' 66 l = some o → o = n ∨ (l < B ∧ r 66 l = some o)) : DW (n + 1) (uD D n (aT K)) r' A' B' := by
  obtain ⟨d1, d2, d3, d4, d5, d6, d7⟩ := h
  refine ⟨by omega, fun a ha => by rw [uD_n (by omega)]; exact d2 a (by omega), fun i hi s hs => ?_, ?_, fun l hl o ho => ?_, fun l hl o ho => ?_, fun s hs h95 => ?_⟩
  · rw [h40] at hs
    have := d3 i hi s hs
    exact ⟨(isSt_u this.2.2).mpr this.1, this.2.1, by omega⟩
  · rw [h40]
    exact d4
  · rcases h61 l hl o ho with e | ⟨e1, e2⟩
    · subst e
      exact ⟨by omega, d1, NS_n d1 d7⟩
    · have := d5 l e1 o e2
      exact ⟨by omega, this.2.1, NS_u d1 d7 this.1 this.2.2⟩
  · rcases h66 l hl o ho with e | ⟨e1, e2⟩
    · subst e
      exact ⟨by omega, d1, NS_n d1 d7⟩
    · have := d6 l e1 o e2
      exact ⟨by omega, this.2.1, NS_u d1 d7 this.1 this.2.2⟩
  · by_cases e : s = n
    · subst e
      unfold uD at hs
      rw [if_pos rfl] at hs
      cases hs
    · rw [uD_n e] at hs
      have := d7 s hs h95
      omega
end KEEPS
