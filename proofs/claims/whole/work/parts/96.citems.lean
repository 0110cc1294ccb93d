/-! The class reads the city: items. -/
theorem cpyE {f g : Nat → Int32} {len q : Nat} : va_cpy f g 0 0 len q = if q < len then f q else g q := by
  simp [va_cpy]
/-- the row b begins as f -/
def cpR (m : MI) (b : Nat) (f : Nat → Int32) (len : Nat) : MI := fun a => if a = b then (fun q => if q < len then f q else m b q) else m a
theorem cpR_s {m : MI} {b len q : Nat} {f : Nat → Int32} : cpR m b f len b q = if q < len then f q else m b q := by simp [cpR]
theorem cpR_n {m : MI} {a b len : Nat} {f : Nat → Int32} (h : a ≠ b) : cpR m b f len a = m a := by simp [cpR, h]
section CIT
variable {n z : Nat} {D : Dyn} {m : MI} {j : MJ} {r : MR} {t : Nat → Nat} {N i K : Nat} {x w : Int32}
theorem aCpy_mk {src b Ns Nb len : Nat} {f : Nat → Int32} (hb : SHP D b = some (aT Nb)) (hs : aSrc (mkH n z D m j r) src = some (Ns, f)) (h1 : len ≤ Ns) (h2 : len ≤ Nb) (h3 : len ≤ 1000) : aCpy (mkH n z D m j r) src 0 b 0 (Int32.ofNat len) = some (mkH n z D (cpR m b f len) j r) := by
  unfold aCpy
  rw [hs, mk_at hb]
  have e0 : (0 : Int32).toNatClampNeg = 0 := rfl
  have hc : (0 = 0 ∧ ¬ (0 : Int32) < 0 ∧ ¬ (0 : Int32) < 0 ∧ ¬ Int32.ofNat len < 0 ∧ (0 : Int32).toNatClampNeg + (Int32.ofNat len).toNatClampNeg ≤ Ns ∧ (0 : Int32).toNatClampNeg + (Int32.ofNat len).toNatClampNeg ≤ Nb) := by
    rw [e0, i_toNat (by omega)]
    exact ⟨rfl, by decide, by decide, i_nn (by omega), by omega, by omega⟩
  show (if (0 = 0 ∧ ¬ (0 : Int32) < 0 ∧ ¬ (0 : Int32) < 0 ∧ ¬ Int32.ofNat len < 0 ∧ (0 : Int32).toNatClampNeg + (Int32.ofNat len).toNatClampNeg ≤ Ns ∧ (0 : Int32).toNatClampNeg + (Int32.ofNat len).toNatClampNeg ≤ Nb) then some (hset (mkH n z D m j r) b (.inl (0, Nb, .inl (va_cpy f (m b) (0 : Int32).toNatClampNeg (0 : Int32).toNatClampNeg (Int32.ofNat len).toNatClampNeg)))) else none) = _
  rw [if_pos hc, e0, i_toNat (by omega)]
  refine congrArg some (mk_set hb (fun a ha => ⟨cpR_n ha, rfl, rfl⟩) ?_)
  show Sum.inl (0, Nb, Sum.inl (va_cpy f (m b) 0 0 len)) = Sum.inl (0, Nb, Sum.inl (cpR m b f len b))
  have e : va_cpy f (m b) 0 0 len = cpR m b f len b := funext fun q => by rw [cpyE, cpR_s]
  rw [e]
theorem aSrc_mk {a N : Nat} (hs : SHP D a = some (aT N)) : aSrc (mkH n z D m j r) a = some (N, m a) := by
  unfold aSrc
  rw [mk_at hs]
  rfl
theorem st_a {s : Nat} (hD : ∀ a, 1000000 ≤ a → D a = none) (hs : s < 9) : aLen (mkH n z D m j r) (1000000 + s) = some (Int32.ofNat ((sarrT.map Prod.snd).getD s []).length) ∧ aSrc (mkH n z D m j r) (1000000 + s) = some (((sarrT.map Prod.snd).getD s []).length, fun i => ((sarrT.map Prod.snd).getD s []).getD i 0) ∧ (∀ k, k < ((sarrT.map Prod.snd).getD s []).length → aI 0 (mkH n z D m j r) (1000000 + s) (Int32.ofNat k) = some (((sarrT.map Prod.snd).getD s []).getD k 0)) := by
  have h0 : (mkH n z D m j r).2.2 (1000000 + s) = none := by
    show (SHP D (1000000 + s)).map _ = none
    unfold SHP
    rw [if_neg (by omega), hD _ (by omega)]
    rfl
  have h1 : sarr (1000000 + s) = some (0, (sarrT.map Prod.snd).getD s []) := by
    have h9 : s = 0 ∨ s = 1 ∨ s = 2 ∨ s = 3 ∨ s = 4 ∨ s = 5 ∨ s = 6 ∨ s = 7 ∨ s = 8 := by omega
    unfold sarr
    rw [if_neg (by omega), if_pos (by omega), Nat.add_sub_cancel_left]
    rcases h9 with rfl | rfl | rfl | rfl | rfl | rfl | rfl | rfl | rfl <;> rfl
  have hl : ((sarrT.map Prod.snd).getD s []).length ≤ 6 := by
    have : ∀ s, s < 9 → ((sarrT.map Prod.snd).getD s []).length ≤ 6 := by decide
    exact this s hs
  refine ⟨?_, ?_, fun k hk => ?_⟩
  · unfold aLen
    rw [h0, h1]
    rfl
  · unfold aSrc
    rw [h0, h1]
    rfl
  · unfold aI
    rw [h0, h1]
    show (if 0 = 0 ∧ ¬ (Int32.ofNat k < 0 ∨ ((sarrT.map Prod.snd).getD s []).length ≤ (Int32.ofNat k).toNatClampNeg) then some (((sarrT.map Prod.snd).getD s []).getD (Int32.ofNat k).toNatClampNeg 0) else none) = _
    rw [if_pos ⟨rfl, i_ix hk (by omega)⟩, i_toNat (by omega)]
theorem st_v : ∀ K, K < 3 → ((sarrT.map Prod.snd).getD (3 * K) []).length = kl K ∧ ((sarrT.map Prod.snd).getD (3 * K + 1) []).length = kl K ∧ ((sarrT.map Prod.snd).getD (3 * K + 2) []).length = kl K ∧ (∀ k, k < kl K → ((sarrT.map Prod.snd).getD (3 * K) []).getD k 0 = Int32.ofNat (lo K k) ∧ ((sarrT.map Prod.snd).getD (3 * K + 1) []).getD k 0 = Int32.ofNat (hi K k) ∧ ((sarrT.map Prod.snd).getD (3 * K + 2) []).getD k 0 = Int32.ofNat (us K k)) := by decide +kernel
/-- how many bits of a set -/
def cb (met : Nat) : Nat → Nat
  | 0 => 0
  | k + 1 => cb met k + (if met.testBit k = true then 1 else 0)
theorem cb_all : ∀ met, met < 64 → ∀ n, n < 7 → ∀ k, k < n → met.testBit k = false → cb met n < n ∧ cb (met ||| 1 <<< k) n = cb met n + 1 := by decide +kernel
theorem rs_w {o a q : Nat} {y : Int32} (h : a ≠ o) : wI (rs m o x w) a q y = rs (wI m a q y) o x w := by
  funext b k
  by_cases hb : b = o
  · subst hb
    rw [wI_ne (Ne.symm h)]
    unfold rs
    rw [if_pos rfl, if_pos rfl, wI_ne (Ne.symm h)]
  · rw [rs_a hb]
    by_cases hba : b = a
    · subst hba
      by_cases hk : k = q
      · subst hk; rw [wI_se, wI_se]
      · rw [wI_sn hk, wI_sn hk, rs_a hb]
    · rw [wI_ne hba, wI_ne hba, rs_a hb]
theorem o3 : 3 = 3 ∨ 3 = 14 ∨ 3 = 16 := Or.inl rfl
theorem c3 : isC [0] (mkH n z D m j r) 3 = some () := isC_mk rfl (by decide)
theorem Q_pos {y : Int32} : gI [0] (mkH n z D (rs m 3 y w) j r) 3 1 = some y ∧ (∀ v, pV [0] (mkH n z D (rs m 3 y w) j r) 3 1 (.int v) = some (mkH n z D (rs m 3 v w) j r)) := by
  refine ⟨?_, fun v => ?_⟩
  · rw [gI_mk (ci := 0) rfl (by decide) rfl, rs_1]
  · rw [pI_mk (ci := 0) rfl (by decide) rfl, v1]
theorem TC_13 {q : Nat} {y : Int32} (hT : TC m t N) : TC (wI m 13 q y) t N := by
  unfold TC
  rw [wI_ne (by omega), wI_ne (by omega)]
  exact hT
def IC (n z : Nat) (D : Dyn) (m : MI) (j : MJ) (r : MR) (w : Int32) (K : Nat) (res : Option (Int32 × AH)) (p : Nat ⊕ (VS × Nat)) : Prop := match p with
  | .inl e => ∃ m' x, (∀ a, a ≠ 13 → m' a = m a) ∧ res = some (Int32.ofNat 0, mkH n z D (rs m' 3 x (Int32.ofNat e)) j r)
  | .inr q => ∃ m', (∀ a, a ≠ 13 → m' a = m a) ∧ res = some (Int32.ofNat 1, mkH n z D (rs m' 3 (Int32.ofNat q.2) w) j r) ∧ (∀ k, k < kl K → m' 13 k = Int32.ofNat (q.1 k))
theorem C_items20 (hD : ∀ a, 1000000 ≤ a → D a = none) (hK : K < 3) : ∀ (g i met fuel : Nat) (vs : VS) (m : MI), N - i < g → N - i < fuel → i ≤ N → met < 64 → cb met (kl K) ≤ kl K → TC m t N → (∀ k, k < kl K → m 13 k = Int32.ofNat (vs k)) →
    IC n z D m j r w K (f_X0_readsItems_20 fuel 3 (2000000 + K) (1000000 + 3 * K) (1000000 + (3 * K + 1)) (Int32.ofNat met) (Int32.ofNat (cb met (kl K))) (mkH n z D (rs m 3 (Int32.ofNat i) w) j r)) (pIt t N K g met vs i) := by
  have hkl := kl_all K hK
  have hsv := st_v K hK
  intro g
  induction g with
  | zero => intro i met fuel vs m h; omega
  | succ g ih =>
    intro i met fuel vs m hg hf hi0 hmet hcb hT hv
    obtain ⟨f, rfl⟩ : ∃ f, fuel = f + 1 := ⟨fuel - 1, by omega⟩
    have hN := hT.2.1
    have hs := sg_ltC (i := i) hT
    have hk := sk_le (t := t) hi0
    have hsp := (sp_all K hK _ hs).2
    have sp0 : sp K 0 = 0 ∧ sp K 59 = 0 := by
      have h3 : K = 0 ∨ K = 1 ∨ K = 2 := by omega
      rcases h3 with rfl | rfl | rfl <;> decide
    rw [f_X0_readsItems_20.eq_2, sStr_s (by omega), obs, S_len hD (by omega), cN_mk, ← hkl.1, if_neg (fun h => by have := (i_lt (by omega) (by omega)).mp h; omega), c3, obs, C_sign o3 hT hi0, cN_mk, pIt]
    by_cases hz : sg t N i = 0
    · rw [if_pos (show sgI (sg t N i) = -1 from (sgI_n hs).mpr hz), if_pos (Or.inl hz)]
      exact ⟨m, fun _ _ => rfl, rfl, hv⟩
    rw [if_neg (show ¬ sgI (sg t N i) = -1 from fun h => hz ((sgI_n hs).mp h))]
    by_cases h59 : sg t N i = 59
    · rw [if_pos (show sgI (sg t N i) = 59 by rw [l59]; exact (sgI_c hs (by omega) (by omega)).mpr h59), if_pos (Or.inr h59)]
      exact ⟨m, fun _ _ => rfl, rfl, hv⟩
    have hp := sg_pos (t := t) (N := N) (i := i) hz
    have es : sgI (sg t N i) = Int32.ofNat (sg t N i) := if_neg hz
    rw [if_neg (show ¬ sgI (sg t N i) = 59 by rw [l59]; exact fun h => h59 ((sgI_c hs (by omega) (by omega)).mp h)), if_neg (by omega), obs, es, ch_16 hs, S_index hD (by omega) hs, cN_mk]
    have espK : sptL (strT.getD K []) (Int32.ofNat (sg t N i)) 0 = sp K (sg t N i) := rfl
    rw [espK]
    have h75 : f_X0_readsItems_75 3 (mkH n z D (rs m 3 (Int32.ofNat (sk t N i)) w) j r) = some (Int32.ofNat 0, mkH n z D (rs m 3 (Int32.ofNat (sk t N i)) (Int32.ofNat (sk t N i))) j r) := by
      unfold f_X0_readsItems_75
      rw [Q_pos.1, obs, c3, obs, C_fails o3, cN_mk, rZ0]
    by_cases h1 : sp K (sg t N i) = 0
    · rw [h1, pr_0, if_pos (show no1 < 0 by decide), h75, if_pos rfl]
      exact ⟨m, _, fun _ _ => rfl, rfl⟩
    obtain ⟨k, hkk⟩ : ∃ k, sp K (sg t N i) = k + 1 := ⟨sp K (sg t N i) - 1, by omega⟩
    have hkK : k < kl K := by omega
    rw [hkk, pr_s, if_neg (i_nn (by omega)), if_neg (Nat.succ_ne_zero k), Nat.add_sub_cancel]
    by_cases h2 : met.testBit k = true
    · rw [if_pos (show ((Int32.ofNat met >>> (Int32.ofNat k &&& 31)) &&& 1) = 1 by rw [l31, l1]; exact (i_has hmet (by omega)).mpr h2), h75, if_pos h2]
      exact ⟨m, _, fun _ _ => rfl, rfl⟩
    · have hbf : met.testBit k = false := by simpa using h2
      have hcb2 := cb_all met hmet (kl K) (by omega) k hkK hbf
      have hb3 := hkl.2.2.2 k hkK
      have hv3 := hsv.2.2.2 k hkK
      rw [if_neg (show ¬ ((Int32.ofNat met >>> (Int32.ofNat k &&& 31)) &&& 1) = 1 by rw [l31, l1]; exact fun h => h2 ((i_has hmet (by omega)).mp h)), if_neg h2, Q_pos.1, obs, show Int32.ofNat (sk t N i) + 1 = Int32.ofNat (sk t N i + 1) by rw [l1, i_add], Q_pos.2, obs, c3, obs, l2, C_number o3 hT (by omega) (show sk t N i + 1 ≤ N by omega)]
      have hk2 := sk_le (t := t) (N := N) (i := sk t N i + 1) (by omega)
      have b256 : ∀ p, p < N → t p < 256 := fun p hp => (hT.2.2 p hp).2.2
      have hval := nm_val (t := t) (N := N) 2 (sk t N (sk t N i + 1)) 0 b256
      have rlo : ∀ mm : MI, aI 0 (mkH n z D mm j r) (1000000 + 3 * K) (Int32.ofNat k) = some (Int32.ofNat (lo K k)) := fun mm => by rw [(st_a hD (by omega)).2.2 k (by omega), hv3.1]
      have rhi : ∀ mm : MI, aI 0 (mkH n z D mm j r) (1000000 + (3 * K + 1)) (Int32.ofNat k) = some (Int32.ofNat (hi K k)) := fun mm => by rw [(st_a hD (by omega)).2.2 k (by omega), hv3.2.1]
      have ebit : Int32.ofNat met ||| ((1 : Int32) <<< (Int32.ofNat k &&& 31)) = Int32.ofNat (met ||| 1 <<< k) := by
        rw [l31, l1, i_bit (by omega), i_or]
      have ecb : Int32.ofNat (cb met (kl K)) + (1 : Int32) = Int32.ofNat (cb (met ||| 1 <<< k) (kl K)) := by rw [l1, i_add, hcb2.2]
      unfold pNb
      cases hn : pNum t N 2 (sk t N (sk t N i + 1)) with
      | inl e =>
        dsimp only [pNb2]
        rw [cN_mk, if_pos (show no1 = -1 from rfl)]
        exact ⟨m, _, fun _ _ => rfl, rfl⟩
      | inr q =>
        obtain ⟨c, j1⟩ := q
        have hpa := PA_num (t := t) (q := 2) hk2.2 c j1 hn
        dsimp only [pNb2]
        generalize hvv : (nm t N 2 (sk t N (sk t N i + 1)) 0).1 = v at *
        have h136 : f_X0_readsItems_136 3 (mkH n z D (rs m 3 (Int32.ofNat j1) w) j r) = some (Int32.ofNat 0, mkH n z D (rs m 3 (Int32.ofNat j1) (Int32.ofNat (j1 - 1))) j r) := by
          unfold f_X0_readsItems_136
          rw [Q_pos.1, obs, c3, obs, l1, i_sub (by omega), C_fails o3, cN_mk, rZ0]
        rw [cN_mk, if_neg (show ¬ Int32.ofNat v = -1 from fun h => (no1_ne (by omega)).mp h), rlo, obs]
        by_cases h4 : v < lo K k
        · rw [if_pos ((i_lt (by omega) (by omega)).mpr h4), h136, if_pos (Or.inl h4)]
          exact ⟨m, _, fun _ _ => rfl, rfl⟩
        rw [if_neg (fun h => h4 ((i_lt (by omega) (by omega)).mp h)), rhi, obs]
        by_cases h5 : v ≤ hi K k
        · have g4 : gR [0] (mkH n z D (rs m 3 (Int32.ofNat j1) w) j r) 3 4 = some 13 := gR_mk rfl (by decide) rfl
          rw [if_pos ((i_le (by omega) (by omega)).mpr h5), if_neg (by omega), g4, obs, p13.2 k _ (by omega), obs, rs_w (by omega), ebit, ecb]
          dsimp only
          have hih := ih j1 (met ||| 1 <<< k) f (uV vs k v) (wI m 13 k (Int32.ofNat v)) (by omega) (by omega) hpa.2.1 (show met ||| 1 <<< k < 2 ^ 6 from bit_lt hmet (by omega)) (by omega) (TC_13 hT) (fun k' hk' => by
            unfold uV
            by_cases hkk' : k' = k
            · subst hkk'; rw [wI_se, if_pos rfl]
            · rw [wI_sn hkk', if_neg hkk']; exact hv k' hk')
          cases hr : pIt t N K g (met ||| 1 <<< k) (uV vs k v) j1 with
          | inl e =>
            rw [hr] at hih
            obtain ⟨m', x', hf', hx⟩ := hih
            exact ⟨m', x', fun a ha => by rw [hf' a ha, wI_ne ha], hx⟩
          | inr q =>
            rw [hr] at hih
            obtain ⟨m', hf', hx, hv'⟩ := hih
            exact ⟨m', fun a ha => by rw [hf' a ha, wI_ne ha], hx, hv'⟩
        · rw [if_neg (fun h => h5 ((i_le (by omega) (by omega)).mp h)), h136, if_pos (Or.inr (by omega))]
          exact ⟨m, _, fun _ _ => rfl, rfl⟩
theorem C_items (hD : ∀ a, 1000000 ≤ a → D a = none) (hK : K < 3) (hT : TC m t N) (hi0 : i ≤ N) : IC n z D m j r w K (f_X0_readsItems 3 (2000000 + K) (1000000 + 3 * K) (1000000 + (3 * K + 1)) (1000000 + (3 * K + 2)) (mkH n z D (rs m 3 (Int32.ofNat i) w) j r)) (pIt t N K 300 0 (us K) i) := by
  have hkl := kl_all K hK
  have hsv := st_v K hK
  have hN := hT.2.1
  have g4 : gR [0] (mkH n z D (rs m 3 (Int32.ofNat i) w) j r) 3 4 = some 13 := gR_mk rfl (by decide) rfl
  have hst := st_a (n := n) (z := z) (m := rs m 3 (Int32.ofNat i) w) (j := j) (r := r) hD (show 3 * K + 2 < 9 by omega)
  have hcp := aCpy_mk (n := n) (z := z) (D := D) (m := rs m 3 (Int32.ofNat i) w) (j := j) (r := r) (b := 13) (Nb := 6) (len := kl K) rfl hst.2.1 (by omega) (by omega) (by omega)
  have hmem : cpR (rs m 3 (Int32.ofNat i) w) 13 (fun i => ((sarrT.map Prod.snd).getD (3 * K + 2) []).getD i 0) (kl K) = rs (cpR m 13 (fun i => ((sarrT.map Prod.snd).getD (3 * K + 2) []).getD i 0) (kl K)) 3 (Int32.ofNat i) w := by
    funext a q
    by_cases h13 : a = 13
    · subst h13
      rw [cpR_s, rs_a (by omega), rs_a (by omega), cpR_s]
    · rw [cpR_n h13]
      by_cases h3 : a = 3
      · subst h3
        unfold rs
        rw [if_pos rfl, if_pos rfl, cpR_n (by omega)]
      · rw [rs_a h3, rs_a h3, cpR_n h13]
  unfold f_X0_readsItems f_X0_readsItems_0
  rw [g4, obs, hst.1, obs, hsv.2.2.1, hcp, obs, hmem]
  have e0 : cb 0 (kl K) = 0 := by
    have : ∀ n, n < 7 → cb 0 n = 0 := by decide
    exact this _ (by omega)
  have h := C_items20 (n := n) (z := z) (D := D) (j := j) (r := r) (w := w) (t := t) (N := N) hD hK 300 i 0 fu (us K) (cpR m 13 (fun i => ((sarrT.map Prod.snd).getD (3 * K + 2) []).getD i 0) (kl K)) (by omega) (by unfold fu; omega) hi0 (by omega) (by rw [e0]; omega) (by unfold TC; rw [cpR_n (by omega), cpR_n (by omega)]; exact hT) (fun k hk => by rw [cpR_s, if_pos hk, (hsv.2.2.2 k hk).2.2])
  rw [e0] at h
  cases hr : pIt t N K 300 0 (us K) i with
  | inl e =>
    rw [hr] at h
    obtain ⟨m', x', hf', hx⟩ := h
    exact ⟨m', x', fun a ha => by rw [hf' a ha, cpR_n ha], hx⟩
  | inr q =>
    rw [hr] at h
    obtain ⟨m', hf', hx, hv'⟩ := h
    exact ⟨m', fun a ha => by rw [hf' a ha, cpR_n ha], hx, hv'⟩
end CIT
