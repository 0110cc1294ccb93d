/-! The model reads the city. -/
section MCI
variable {n z : Nat} {D : Dyn} {m : MI} {j : MJ} {r : MR} {t : Nat → Nat} {N a b i K : Nat} {d x e : Int32}
theorem M_least {k : Nat} {h : AH} (hK : K < 3) (hk : k < kl K) : f_X12_leastOf (Int32.ofNat (chK K)) (Int32.ofNat k) h = some (Int32.ofNat (lo K k), h) ∧ f_X12_mostOf (Int32.ofNat (chK K)) (Int32.ofNat k) h = some (Int32.ofNat (hi K k), h) ∧ f_X12_usual (Int32.ofNat (chK K)) (Int32.ofNat k) h = some (Int32.ofNat (us K k), h) := by
  have h3 : K = 0 ∨ K = 1 ∨ K = 2 := by omega
  rcases h3 with rfl | rfl | rfl
  · have hk' : k < 3 := hk
    have : k = 0 ∨ k = 1 ∨ k = 2 := by omega
    rcases this with rfl | rfl | rfl <;> exact ⟨rfl, rfl, rfl⟩
  · have hk' : k < 2 := hk
    have : k = 0 ∨ k = 1 := by omega
    rcases this with rfl | rfl <;> exact ⟨rfl, rfl, rfl⟩
  · have hk' : k < 6 := hk
    have : k = 0 ∨ k = 1 ∨ k = 2 ∨ k = 3 ∨ k = 4 ∨ k = 5 := by omega
    rcases this with rfl | rfl | rfl | rfl | rfl | rfl <;> exact ⟨rfl, rfl, rfl⟩
def FI (m m' : MI) (aK R K : Nat) : Prop := (∀ a, a ≠ aK → m' a = m a) ∧ (∀ q, ¬ (R ≤ q ∧ q < R + kl K) → m' aK q = m aK q)
theorem FI_tr {m m' m'' : MI} {aK R K : Nat} (h : FI m m' aK R K) (h' : FI m' m'' aK R K) : FI m m'' aK R K := ⟨fun a ha => (h'.1 a ha).trans (h.1 a ha), fun q hq => (h'.2 q hq).trans (h.2 q hq)⟩
def IO (n z : Nat) (D : Dyn) (m : MI) (j : MJ) (r : MR) (d : Int32) (t : Nat → Nat) (N aK R K : Nat) (res : Option (Unit × AH)) (p : Nat ⊕ (VS × Nat)) : Prop := match p with
  | .inl e => ∃ m', FI m m' aK R K ∧ ((∃ x, res = some ((), mkH n z D (s3 m' x (Int32.ofNat e) d) j r)) ∨ (res = some ((), mkH n z D (s3 m' (Int32.ofNat e) no1 d) j r) ∧ sk t N e = e ∧ sg t N e ≠ 0 ∧ sg t N e ≠ 59))
  | .inr q => ∃ m', FI m m' aK R K ∧ res = some ((), mkH n z D (s3 m' (Int32.ofNat q.2) no1 d) j r) ∧ (∀ k, k < kl K → m' aK (R + k) = Int32.ofNat (q.1 k))
theorem M_items45 {aK R Z : Nat} (hD : ∀ a, 1000000 ≤ a → D a = none) (hK : K < 3) (hs : SHP D aK = some (aT Z)) (hZ : R + kl K ≤ Z) (hZ2 : Z ≤ 100) (ha72 : aK ≠ 72) (haa : aK ≠ a) : ∀ (g i met fuel : Nat) (vs : VS) (m : MI), N - i < g → N - i < fuel → i ≤ N → met < 64 → TX m r t N a b → (∀ k, k < kl K → m aK (R + k) = Int32.ofNat (vs k)) →
    IO n z D m j r d t N aK R K (f_X12_readItems_45 fuel 72 (Int32.ofNat (chK K)) aK (Int32.ofNat R) (2000000 + K) (Int32.ofNat met) (pr (sp K (sg t N i))) (mkH n z D (s3 m (Int32.ofNat (sk t N i)) no1 d) j r)) (pIt t N K g met vs i) := by
  have g10 : ∀ mm y, gI [12] (mkH n z D (s3 mm y no1 d) j r) 72 10 = some y := fun mm y => by rw [q72_10, s3_10]
  have p10 : ∀ mm y v, pV [12] (mkH n z D (s3 mm y no1 d) j r) 72 10 (.int v) = some (mkH n z D (s3 mm v no1 d) j r) := fun mm y v => by rw [q72_p10, w10]
  have g11 : ∀ mm y e, gI [12] (mkH n z D (s3 mm y e d) j r) 72 11 = some e := fun mm y e => by rw [q72_11, s3_11]
  have uK : ∀ mm y e k v, k < Z → uI 0 (mkH n z D (s3 mm y e d) j r) aK (Int32.ofNat k) v = some (mkH n z D (s3 (wI mm aK k v) y e d) j r) := fun mm y e k v hk => by rw [uIk hs (by decide) hk (by omega), nar0, s3_w ha72]
  have em1 : (-1 : Int32) = no1 := rfl
  have hkl := kl_all K hK
  intro g
  induction g with
  | zero => intro i met fuel vs m h; omega
  | succ g ih =>
    intro i met fuel vs m hg hf hi0 hmet hT hv
    obtain ⟨f, rfl⟩ : ∃ f, fuel = f + 1 := ⟨fuel - 1, by omega⟩
    have hsg := sg_lt hT hi0
    have hk := sk_le (t := t) hi0
    have hsp := (sp_all K hK _ hsg).2
    have hN := hT.2.2.2.1
    rw [f_X12_readItems_45.eq_2, pIt]
    have sp0 : sp K 0 = 0 ∧ sp K 59 = 0 := by
      have h3 : K = 0 ∨ K = 1 ∨ K = 2 := by omega
      rcases h3 with rfl | rfl | rfl <;> decide
    by_cases h0 : sg t N i = 0 ∨ sg t N i = 59
    · have hz : sp K (sg t N i) = 0 := by
        rcases h0 with h | h
        · rw [h]; exact sp0.1
        · rw [h]; exact sp0.2
      rw [if_pos (show pr (sp K (sg t N i)) = -1 by rw [hz]; rfl), if_pos h0]
      exact ⟨m, ⟨fun _ _ => rfl, fun _ _ => rfl⟩, rfl, hv⟩
    rw [if_neg h0]
    have hp := sg_pos (t := t) (N := N) (i := i) (by omega)
    by_cases h1 : sp K (sg t N i) = 0
    · rw [if_pos (show pr (sp K (sg t N i)) = -1 by rw [h1]; rfl), if_pos h1]
      exact ⟨m, ⟨fun _ _ => rfl, fun _ _ => rfl⟩, Or.inr ⟨rfl, sk_sk hi0, by rw [sg_sk hi0]; omega, by rw [sg_sk hi0]; omega⟩⟩
    obtain ⟨k, hkk⟩ : ∃ k, sp K (sg t N i) = k + 1 := ⟨sp K (sg t N i) - 1, by omega⟩
    rw [if_neg (show ¬ pr (sp K (sg t N i)) = -1 from fun h => h1 ((pr_no (by omega)).mp h)), if_neg h1, g11, obs, if_pos em1.symm, hkk, pr_s, M_has hmet (by omega), cN_mk, Nat.add_sub_cancel]
    by_cases h2 : met.testBit k = true
    · rw [if_neg (by simp [h2, bI]), if_pos h2, q72_c, obs, M_fails0, cN_mk]
      exact ⟨m, ⟨fun _ _ => rfl, fun _ _ => rfl⟩, Or.inl ⟨_, rfl⟩⟩
    · have hkK : k < kl K := by omega
      have hb3 := hkl.2.2.2 k hkK
      obtain ⟨e1, e2, e3⟩ := M_least (h := mkH n z D (s3 m (Int32.ofNat (sk t N i + 1)) no1 d) j r) hK hkK
      rw [if_pos (by simp [h2, bI]), if_neg h2, g10, obs, p10, obs, l1, i_add, e1, cN_mk, e2, cN_mk, q72_c, obs]
      have hnum := M_number (n := n) (z := z) (D := D) (m := m) (j := j) (r := r) (d := d) (K := K) (k := k) hT (show sk t N i + 1 ≤ N by omega) (by omega) (by omega)
      have ebit : Int32.ofNat met ||| (Int32.ofNat 1 <<< (Int32.ofNat k &&& 31)) = Int32.ofNat (met ||| 1 <<< k) := by
        rw [l31, i_bit (by omega), i_or]
      cases hn : pNb t N K k (sk t N i + 1) with
      | inl e =>
        have he := pNb_e hn (by omega)
        rw [hn] at hnum
        obtain ⟨v, ev⟩ := hnum
        rw [ev, cN_mk, i_add, uK _ _ _ _ _ (by omega), obs, g11, obs, no1_e, if_neg (show ¬ Int32.ofNat e = no1 from fun h => (no1_ne (by omega)).mp h)]
        refine ⟨wI m aK (R + k) v, ⟨fun a ha => wI_ne ha, fun q hq => wI_sn (by omega)⟩, Or.inl ⟨Int32.ofNat e, ?_⟩⟩
        obtain ⟨f', hf'⟩ : ∃ f', f = f' + 1 := ⟨f - 1, by omega⟩
        rw [hf', f_X12_readItems_45.eq_2, if_neg (show ¬ Int32.ofNat k = -1 from fun h => (no1_ne (by omega)).mp h), g11, obs, if_neg (show ¬ Int32.ofNat e = -1 from fun h => (no1_ne (by omega)).mp h)]
      | inr q =>
        obtain ⟨v, j1⟩ := q
        have hb := pNb_b hn (by omega)
        rw [hn] at hnum
        dsimp only at hnum
        have hT1 : TX (wI m aK (R + k) (Int32.ofNat v)) r t N a b := TX_fr hT (by rw [wI_ne (Ne.symm ha72)]) (by rw [wI_ne (Ne.symm ha72)]) (wI_ne (Ne.symm haa))
        have hsg1 := sg_lt hT1 hb.2.2.2
        have esp : ∀ mm, f_X12_spotOf (2000000 + K) (sgI (sg t N j1)) (mkH n z D mm j r) = some (pr (sp K (sg t N j1)), mkH n z D mm j r) := fun mm => by
          rw [M_spot hD (by omega), (sp_all K hK _ hsg1).1]
        rw [hnum, cN_mk, i_add, uK _ _ _ _ _ (by omega), obs, g11, obs, no1_e, if_pos (show no1 = no1 from rfl), q72_c, obs, M_look hT1 hb.2.2.2, cN_mk, esp, cN_mk, ebit]
        dsimp only
        have hih := ih j1 (met ||| 1 <<< k) f (uV vs k v) (wI m aK (R + k) (Int32.ofNat v)) (by omega) (by omega) hb.2.2.2 (show met ||| 1 <<< k < 2 ^ 6 from bit_lt hmet (by omega)) hT1 (fun k' hk' => by
          unfold uV
          by_cases hkk' : k' = k
          · subst hkk'; rw [wI_se, if_pos rfl]
          · rw [wI_sn (by omega), if_neg hkk']; exact hv k' hk')
        have fr1 : FI m (wI m aK (R + k) (Int32.ofNat v)) aK R K := ⟨fun a ha => wI_ne ha, fun q hq => wI_sn (by omega)⟩
        cases hr : pIt t N K g (met ||| 1 <<< k) (uV vs k v) j1 with
        | inl e =>
          rw [hr] at hih
          obtain ⟨m', f', h⟩ := hih
          exact ⟨m', FI_tr fr1 f', h⟩
        | inr q =>
          rw [hr] at hih
          obtain ⟨m', f', h⟩ := hih
          exact ⟨m', FI_tr fr1 f', h⟩
theorem M_items {aK R Z : Nat} (hD : ∀ a, 1000000 ≤ a → D a = none) (hK : K < 3) (hs : SHP D aK = some (aT Z)) (hZ : R + kl K ≤ Z) (hZ2 : Z ≤ 100) (ha72 : aK ≠ 72) (haa : aK ≠ a) (hT : TX m r t N a b) (hi0 : i ≤ N) :
    IO n z D m j r d t N aK R K (f_X12_readItems 72 (Int32.ofNat (chK K)) aK (Int32.ofNat R) (2000000 + K) (mkH n z D (s3 m (Int32.ofNat i) no1 d) j r)) (pIt t N K 300 0 (us K) i) := by
  have uK : ∀ mm y e k v, k < Z → uI 0 (mkH n z D (s3 mm y e d) j r) aK (Int32.ofNat k) v = some (mkH n z D (s3 (wI mm aK k v) y e d) j r) := fun mm y e k v hk => by rw [uIk hs (by decide) hk (by omega), nar0, s3_w ha72]
  have hkl := kl_all K hK
  have hN := hT.2.2.2.1
  have lp : ∀ (rem k fuel : Nat) (m : MI), k + rem = kl K → rem < fuel → TX m r t N a b → (∀ q, q < k → m aK (R + q) = Int32.ofNat (us K q)) → IO n z D m j r d t N aK R K (f_X12_readItems_3 fuel 72 (Int32.ofNat (chK K)) aK (Int32.ofNat R) (2000000 + K) (Int32.ofNat k) (mkH n z D (s3 m (Int32.ofNat i) no1 d) j r)) (pIt t N K 300 0 (us K) i) := by
    intro rem
    induction rem with
    | zero =>
      intro k fuel m hk hf hT hv
      obtain ⟨f, rfl⟩ : ∃ f, fuel = f + 1 := ⟨fuel - 1, by omega⟩
      have hsg := sg_lt hT hi0
      have esp : ∀ mm, f_X12_spotOf (2000000 + K) (sgI (sg t N i)) (mkH n z D mm j r) = some (pr (sp K (sg t N i)), mkH n z D mm j r) := fun mm => by
        rw [M_spot hD (by omega), (sp_all K hK _ hsg).1]
      rw [f_X12_readItems_3.eq_2, sStr_s (by omega), obs, S_len hD (by omega), cN_mk, ← hkl.1, if_pos ((i_le (by omega) (by omega)).mpr (by omega)), q72_c, obs, M_look hT hi0, cN_mk, esp, cN_mk, l0]
      exact M_items45 hD hK hs hZ hZ2 ha72 haa 300 i 0 fu (us K) m (by omega) (by unfold fu; omega) hi0 (by omega) hT (fun q hq => hv q (by omega))
    | succ rem ih =>
      intro k fuel m hk hf hT hv
      obtain ⟨f, rfl⟩ : ∃ f, fuel = f + 1 := ⟨fuel - 1, by omega⟩
      obtain ⟨e1, e2, e3⟩ := M_least (h := mkH n z D (s3 m (Int32.ofNat i) no1 d) j r) hK (show k < kl K by omega)
      rw [f_X12_readItems_3.eq_2, sStr_s (by omega), obs, S_len hD (by omega), cN_mk, ← hkl.1, if_neg (fun h => by have := (i_le (by omega) (by omega)).mp h; omega), e3, cN_mk, i_add, uK _ _ _ _ _ (by omega), obs, l1, i_add]
      have hih := ih (k + 1) f (wI m aK (R + k) (Int32.ofNat (us K k))) (by omega) (by omega) (TX_fr hT (by rw [wI_ne (Ne.symm ha72)]) (by rw [wI_ne (Ne.symm ha72)]) (wI_ne (Ne.symm haa))) (fun q hq => by
        by_cases hqk : q = k
        · subst hqk; rw [wI_se]
        · rw [wI_sn (by omega)]; exact hv q (by omega))
      have fr1 : FI m (wI m aK (R + k) (Int32.ofNat (us K k))) aK R K := ⟨fun a ha => wI_ne ha, fun q hq => wI_sn (by omega)⟩
      cases hr : pIt t N K 300 0 (us K) i with
      | inl e =>
        rw [hr] at hih
        obtain ⟨m', f', h⟩ := hih
        exact ⟨m', FI_tr fr1 f', h⟩
      | inr q =>
        rw [hr] at hih
        obtain ⟨m', f', h⟩ := hih
        exact ⟨m', FI_tr fr1 f', h⟩
  unfold f_X12_readItems f_X12_readItems_0
  rw [l0]
  exact lp (kl K) 0 fu m (by omega) (by unfold fu; omega) hT (fun q hq => absurd hq (Nat.not_lt_zero _))
end MCI
