/-! An act is kept. -/
section KEEP
variable {n z : Nat} {D : Dyn} {m m' : MI} {j : MJ} {r : MR} {C P A B acts lt : Nat} {hs : Nat → Sg} {σ : Sg} {lg : LG} {s : Nat}
theorem uQ_mk {a N i v : Nat} {ps : List FK} (hs : SHP D a = some (.inl (4, N))) (hi : i < N) (hN : N ≤ 100000) (hv : SHP D v = some (.inr (8, ps))) : uQ 4 (mkH n z D m j r) a (Int32.ofNat i) v = some (mkH n z D m j (wR r a i (some v))) := by
  unfold uQ
  rw [mk_at hs, mk_at hv]
  have e : (Int32.ofNat i).toNatClampNeg = i := i_toNat (by omega)
  have key : hset (mkH n z D m j r) a (.inl (4, N, .inr (.inr (.inr (.inr (va_up (r a) i (some v))))))) = mkH n z D m j (wR r a i (some v)) := mk_set hs (fun b hb => ⟨rfl, rfl, if_neg hb⟩) (by simp [cellOf, wR])
  show (if 4 = 4 ∧ ¬ (Int32.ofNat i < 0 ∨ N ≤ (Int32.ofNat i).toNatClampNeg) then _ else none) = _
  rw [if_pos ⟨rfl, i_ix hi hN⟩, e]
  show (if 4 = 4 ∧ 8 = 8 then _ else none) = _
  rw [if_pos ⟨rfl, rfl⟩, key]
theorem isSt_old (hs : s + 5 < n) : isSt (nD D n) s ↔ isSt D s := by
  have e : ∀ a, a < n → SHP (nD D n) a = SHP D a := fun a ha => SHP_lt (fun _ => nD_lt ha)
  unfold isSt
  rw [e s (by omega), e (s + 1) (by omega), e (s + 2) (by omega), e (s + 3) (by omega), e (s + 4) (by omega), e (s + 5) (by omega)]
theorem NS_new {o : Nat} (hn : 95 ≤ n) (ho : o < n) (h : NS D o) : NS (nD D n) o := by
  intro s hs hso
  by_cases h1 : s + 5 < n
  · exact h s ((isSt_old h1).mp hs) hso
  · have hN := (isSt_n (D := D) hn).1
    obtain ⟨-, a1, a2, a3, a4, a5⟩ := hs
    rcases (show n = s + 1 ∨ n = s + 2 ∨ n = s + 3 ∨ n = s + 4 ∨ n = s + 5 by omega) with e | e | e | e | e
    · rw [← e, hN] at a1; cases a1
    · rw [← e, hN] at a2; cases a2
    · rw [← e, hN] at a3; cases a3
    · rw [← e, hN] at a4; cases a4
    · rw [← e, hN] at a5; cases a5
theorem C_keep57 (hC : C ≤ 5) (hP : P ≤ 6) (hs : isSt D s) (h95 : 95 ≤ s) (ha : m 39 2 = Int32.ofNat acts) (hle : acts ≤ 40) (hM : CS m 27 σ C P) : ∃ m', f_X1_keep_57 39 27 s (mkH n z D m j r) = some ((), mkH n z D m' j r) ∧ CS m' s σ C P ∧ m' 39 2 = Int32.ofNat (min 40 (acts + 1)) ∧ (∀ i, i ≠ 2 → m' 39 i = m 39 i) ∧ (∀ a, ¬ (s ≤ a ∧ a ≤ s + 5) → a ≠ 39 → m' a = m a) := by
  obtain ⟨m1, e1, h1, f1⟩ := C_copyFrom (n := n) (z := z) (m := m) (j := j) (r := r) (s := s) (s' := 27) hs isSt27 (by omega) hC hP hM
  have g2 : m1 39 2 = Int32.ofNat acts := by rw [f1 39 (by omega)]; exact ha
  refine ⟨wI m1 39 2 (Int32.ofNat (min 40 (acts + 1))), ?_, CS_fr h1 (fun a ha => wI_ne (by omega)), wI_se, fun i hi => by rw [wI_sn hi, f1 39 (by omega)], fun a ha hb => by rw [wI_ne hb, f1 a ha]⟩
  unfold f_X1_keep_57
  refine ck_ok ?_ (Nat.le_refl _) (Nat.le_refl _)
  simp (disch := omega) only [obs, cN_mk, ite_true, ite_false, if_true, if_false, stg hs, e1, q39, g2, l1, l40, i_add, J_min]
theorem C_keep (hC : C ≤ 5) (hP : P ≤ 6) (hD : DW n D r A B) (hH : HC m r C P acts lt hs lg) (hM : CS m 27 σ C P) (hR : RW (m 41) (σ 7 0) lg) (hn2 : n + 6 < 1000000) : ∃ n' z' D' m' r', f_X1_keep 39 27 (mkH n z D m j r) = some ((), mkH n' z' D' m' j r') ∧ n ≤ n' ∧ n' ≤ n + 6 ∧ z ≤ z' ∧ z' ≤ z + 36 ∧ DW n' D' r' A B ∧ HC m' r' C P (min 40 (acts + 1)) ((lt + 1) % 40) (kp acts hs σ) lg ∧ (∀ a, a < 95 → a ≠ 39 → m' a = m a) ∧ (∀ i, i ≠ 1 → i ≠ 2 → m' 39 i = m 39 i) ∧ (∀ a, a ≠ 40 → r' a = r a) ∧ (∀ o, o < n → 95 ≤ o → NS D o → m' o = m o) ∧ (∀ a, a < n → D' a = D a) := by
  obtain ⟨d1, d2, d3, d4, d5, d6, d7⟩ := hD
  obtain ⟨h1, h2, h3, h4, h5⟩ := hH
  -- what the class writes first
  have step : f_X1_keep 39 27 (mkH n z D m j r) = ck (mkH n z D m j r) (f_X1_keep_22 39 27 39 (Int32.ofNat ((lt + 1) % 40)) (mkH n z D m j r)) := by
    unfold f_X1_keep f_X1_keep_0
    congr 1
    by_cases hl : 40 ≤ lt + 1
    · have : (lt + 1) % 40 = 0 := by omega
      rw [this]
      simp (disch := omega) only [obs, cN_mk, ite_true, ite_false, if_true, if_false, q39, h2, l1, l40, l0, i_add, ile_t]
    · have : (lt + 1) % 40 = lt + 1 := by omega
      rw [this]
      simp (disch := omega) only [obs, cN_mk, ite_true, ite_false, if_true, if_false, q39, h2, l1, l40, i_add, ile_f]
  have hl' : (lt + 1) % 40 < 40 := by omega
  generalize hlt : (lt + 1) % 40 = lt' at *
  have m1s : wI m 39 1 (Int32.ofNat lt') 39 1 = Int32.ofNat lt' := wI_se
  have m1a : wI m 39 1 (Int32.ofNat lt') 39 2 = Int32.ofNat acts := by rw [wI_sn (by omega)]; exact h1
  have m1f : ∀ a, a ≠ 39 → wI m 39 1 (Int32.ofNat lt') a = m a := fun a ha => wI_ne ha
  have m1i : ∀ i, i ≠ 1 → wI m 39 1 (Int32.ofNat lt') 39 i = m 39 i := fun i hi => wI_sn hi
  have hM1 : CS (wI m 39 1 (Int32.ofNat lt')) 27 σ C P := CS_fr hM (fun a ha => m1f a (by omega))
  generalize hm1 : wI m 39 1 (Int32.ofNat lt') = m1 at *
  -- the new history, once the State stands
  have fin : ∀ (m' : MI) (r' : MR) (s : Nat), r' 40 lt' = some s → (∀ i, i ≠ lt' → r' 40 i = r 40 i) → (∀ i s', i < 40 → i ≠ lt' → r 40 i = some s' → s' + 5 < s ∨ s + 5 < s') → CS m' s σ C P → m' 39 2 = Int32.ofNat (min 40 (acts + 1)) → m' 39 1 = Int32.ofNat lt' → m' 41 = m 41 → (∀ a, ¬ (s ≤ a ∧ a ≤ s + 5) → a < n → a ≠ 39 → m' a = m a) → HC m' r' C P (min 40 (acts + 1)) lt' (kp acts hs σ) lg := by
    intro m' r' s e1 e2 e3 e4 e5 e6 e7 e8
    refine ⟨e5, e6, hl', by omega, fun k hk => ?_⟩
    unfold kp
    by_cases hk1 : k + 1 = min 40 (acts + 1)
    · rw [if_pos hk1]
      refine ⟨⟨s, ?_, e4⟩, by rw [e7]; exact hR⟩
      rw [show slt lt' (min 40 (acts + 1)) k = lt' by unfold slt; omega]
      exact e1
    · rw [if_neg hk1]
      have go : ∀ k', k' < acts → slt lt' (min 40 (acts + 1)) k = slt lt acts k' → slt lt acts k' ≠ lt' → (∃ s, r' 40 (slt lt' (min 40 (acts + 1)) k) = some s ∧ CS m' s (hs k') C P) ∧ RW (m' 41) (hs k' 7 0) lg := by
        intro k' hk' es ne
        obtain ⟨⟨s', a1, a2⟩, a3⟩ := h5 k' hk'
        have hsl : slt lt acts k' < 40 := by unfold slt; omega
        have d3' := d3 _ hsl s' a1
        have dj := e3 _ s' hsl ne a1
        refine ⟨⟨s', by rw [es, e2 _ ne]; exact a1, CS_fr a2 (fun a ha => e8 a (by omega) (by omega) (by omega))⟩, by rw [e7]; exact a3⟩
      by_cases h40 : acts = 40
      · rw [if_pos h40]
        exact go (k + 1) (by omega) (by unfold slt; omega) (by unfold slt; omega)
      · rw [if_neg h40]
        exact go k (by omega) (by unfold slt; omega) (by unfold slt; omega)
  rw [step]
  cases hr : r 40 lt' with
  | some s =>
    obtain ⟨s1, s2, s3⟩ := d3 lt' hl' s hr
    obtain ⟨m', e, b1, b2, b3, b4⟩ := C_keep57 (n := n) (z := z) (j := j) (r := r) hC hP s1 s2 m1a h4 hM1
    refine ⟨n, z, D, m', r, ?_, by omega, by omega, by omega, by omega, ⟨d1, d2, d3, d4, d5, d6, d7⟩, ?_, fun a ha hb => by rw [b4 a (by omega) hb, m1f a hb], fun i hi hj => by rw [b3 i hj, m1i i hi], fun a _ => rfl, fun o ho1 ho2 ho3 => by rw [b4 o (ho3 s s1) (by omega), m1f o (by omega)], fun a _ => rfl⟩
    · refine ck_ok ?_ (Nat.le_refl _) (Nat.le_refl _)
      unfold f_X1_keep_22
      refine ck_ok ?_ (Nat.le_refl _) (Nat.le_refl _)
      simp (disch := omega) only [obs, cN_mk, ite_true, ite_false, if_true, if_false, q39, hm1, m1s, p40, hr, e]
    · exact fin m' r s hr (fun i _ => rfl) (fun i s' hi hne hs' => isSt_d (d3 i hi s' hs').1 s1 (fun e => hne (d4 i lt' s' hi hl' hs' (by rw [e]; exact hr)))) b1 b2 (by rw [b3 1 (by omega)]; exact m1s) (by rw [b4 41 (by omega) (by omega), m1f 41 (by omega)]) (fun a ha hb hc => by rw [b4 a ha hc, m1f a hc])
  | none =>
    obtain ⟨m2, e2, f2⟩ := C_newSt (n := n) (z := z) (D := D) (m := m1) (j := j) (r := r) d1 hn2
    have hSn : isSt (nD D n) n := isSt_n d1
    have hM2 : CS m2 27 σ C P := CS_fr hM1 (fun a ha => f2 a (by omega))
    obtain ⟨m', e, b1, b2, b3, b4⟩ := C_keep57 (n := n + 6) (z := z + 36) (D := nD D n) (m := m2) (j := j) (r := wR r 40 lt' (some n)) (acts := acts) hC hP hSn d1 (by rw [f2 39 (by omega)]; exact m1a) h4 hM2
    have rn : ∀ i, i ≠ lt' → wR r 40 lt' (some n) 40 i = r 40 i := fun i hi => by simp [wR, va_up, hi]
    have rs : wR r 40 lt' (some n) 40 lt' = some n := by simp [wR, va_up]
    have ro : ∀ a, a ≠ 40 → wR r 40 lt' (some n) a = r a := fun a ha => if_neg ha
    refine ⟨n + 6, z + 36, nD D n, m', wR r 40 lt' (some n), ?_, by omega, by omega, by omega, by omega, ⟨by omega, fun a ha => by rw [nD_gt ha]; exact d2 a (by omega), fun i hi s hs => ?_, fun i i' s hi hi' hs hs' => ?_, fun l hl o ho => ?_, fun p hp o ho => ?_, fun s hs h95 => ?_⟩, ?_, fun a ha hb => by rw [b4 a (by omega) hb, f2 a (by omega), m1f a hb], fun i hi hj => by rw [b3 i hj, f2 39 (by omega), m1i i hi], ro, fun o ho1 ho2 ho3 => by rw [b4 o (by omega) (by omega), f2 o ho1, m1f o (by omega)], fun a ha => nD_lt ha⟩
    · refine ck_ok ?_ (by omega) (by omega)
      unfold f_X1_keep_22
      refine ck_ok ?_ (by omega) (by omega)
      have g1 : m2 39 1 = Int32.ofNat lt' := by rw [f2 39 (by omega)]; exact m1s
      simp (disch := omega) only [obs, cN_mk, ite_true, ite_false, if_true, if_false, q39, hm1, m1s, p40, hr]
      rw [nO_mk (s := shQ) (x := fun _ => 0) (q := fun _ => none) d1 (by omega) (by simp [cellOf, shQ, fsOf, fvOf, fQ, fI, qV])]
      refine ck_ok ?_ (by omega) (by omega)
      rw [e2, cA_mk (by omega) (by omega)]
      refine ck_ok ?_ (by omega) (by omega)
      simp (disch := omega) only [obs, cN_mk, ite_true, ite_false, if_true, if_false, q39, g1]
      rw [uQ_mk (N := 40) rfl hl' (by omega) hSn.1, obs, e]
    · by_cases hil : i = lt'
      · subst hil
        rw [rs] at hs
        cases hs
        exact ⟨hSn, d1, by omega⟩
      · rw [rn i hil] at hs
        have := d3 i hi s hs
        exact ⟨(isSt_old this.2.2).mpr this.1, this.2.1, by omega⟩
    · by_cases hil : i = lt'
      · by_cases hil' : i' = lt'
        · omega
        · subst hil
          rw [rs] at hs
          cases hs
          rw [rn i' hil'] at hs'
          have := d3 i' hi' n hs'
          omega
      · by_cases hil' : i' = lt'
        · subst hil'
          rw [rs] at hs'
          cases hs'
          rw [rn i hil] at hs
          have := d3 i hi n hs
          omega
        · rw [rn i hil] at hs
          rw [rn i' hil'] at hs'
          exact d4 i i' s hi hi' hs hs'
    · rw [ro 61 (by omega)] at ho
      have := d5 l hl o ho
      exact ⟨by omega, this.2.1, NS_new d1 this.1 this.2.2⟩
    · rw [ro 66 (by omega)] at ho
      have := d6 p hp o ho
      exact ⟨by omega, this.2.1, NS_new d1 this.1 this.2.2⟩
    · by_cases h0 : s = n
      · omega
      · unfold nD at hs
        rw [if_neg h0] at hs
        by_cases h1 : s = n + 1 ∨ s = n + 2
        · rw [if_pos h1] at hs
          cases hs
        · rw [if_neg h1] at hs
          by_cases h2 : s = n + 3 ∨ s = n + 4 ∨ s = n + 5
          · rw [if_pos h2] at hs
            cases hs
          · rw [if_neg h2] at hs
            have := d7 s hs h95
            omega
    · exact fin m' _ n rs rn (fun i s' hi hne hs' => by have := d3 i hi s' hs'; omega) b1 b2 (by rw [b3 1 (by omega), f2 39 (by omega)]; exact m1s) (by rw [b4 41 (by omega) (by omega), f2 41 (by omega), m1f 41 (by omega)]) (fun a ha hb hc => by rw [b4 a ha hc, f2 a hb, m1f a hc])
end KEEP
