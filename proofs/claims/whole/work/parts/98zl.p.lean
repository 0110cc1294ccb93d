/-! The law: its cases. -/
def RES (n z bN bZ : Nat) (res : Option (Int32 × AH)) : Prop := ∃ h1, res = some (1, h1) ∧ (n ≤ h1.1 ∧ h1.1 ≤ bN) ∧ (z ≤ h1.2.1 ∧ h1.2.1 ≤ bZ)
def CONT (n z bN bZ : Nat) (f : AH → Option (Int32 × AH)) : Prop := ∀ n' z' D' m' j' r', INV n' D' m' j' r' → n ≤ n' → n' ≤ n + 181 → z ≤ z' → z' ≤ z + 1086 → RES n' z' bN bZ (f (mkH n' z' D' m' j' r'))
section LAW
variable {n z : Nat} {D : Dyn} {m m1 m' : MI} {j : MJ} {r r' : MR} {tp : TP} {C P : Nat} {τ σ : Sg} {lg : LG} {acts lt : Nat} {hs : Nat → Sg} {img : Bool} {σI : Sg} {lgI : LG} {A held : Nat} {tx : Nat → Nat → Nat} {ln : Nat → Nat} {cls : CLS} {B : Nat} {pls : Nat → List ST} {dg sn : Nat} {sw : Nat → Nat → Nat} {xs : Nat → Int32} {L i bN bZ : Nat} {k23 : Nat → Nat → Nat → Int32 → AH → Option (Int32 × AH)}
theorem ck_res {x : Option (Int32 × AH)} (h : RES n z bN bZ x) : RES n z bN bZ (ck (mkH n z D m j r) x) := by
  obtain ⟨h1, e, a, b⟩ := h
  exact ⟨h1, ck_eq e ⟨a.1, b.1⟩, a, b⟩
theorem RES_le {n' z' : Nat} {x : Option (Int32 × AH)} (h : RES n' z' bN bZ x) (hn : n ≤ n') (hz : z ≤ z') : RES n z bN bZ x := by
  obtain ⟨h1, e, a, b⟩ := h
  exact ⟨h1, e, ⟨by omega, a.2⟩, ⟨by omega, b.2⟩⟩
theorem sxk {k : Nat} (hi : i + 6 ≤ L) (hL : L ≤ 3072) (hk : k < 6) : sx xs L (Int32.ofNat i + Int32.ofNat k) = some (xs (i + k)) := by
  unfold sx
  rw [i_add, i_toNat (by omega), if_neg (fun h => h.elim (fun h => i_nn (by omega) h) (fun h => by omega))]
theorem L1641 {x4 : Int32} (hk : CONT n z bN bZ (k23 0 72 94 (x4 + 6))) {n' z' : Nat} {D' : Dyn} {m' : MI} {j' : MJ} {r' : MR} (hI : INV n' D' m' j' r') (a1 : n ≤ n') (a2 : n' ≤ n + 181) (b1 : z ≤ z') (b2 : z' ≤ z + 1086) : RES n' z' bN bZ (f_L_law_1641 xs L k23 0 72 94 x4 (mkH n' z' D' m' j' r')) := by
  unfold f_L_law_1641
  exact ck_res (hk n' z' D' m' j' r' hI a1 a2 b1 b2)
theorem L_N {x4 : Int32} {cf mf : AH → Option (Int32 × AH)} (hK : CALX 0 0 n z D m j r cf mf) (hk : CONT n z bN bZ (k23 0 72 94 (x4 + 6))) : RES n z bN bZ ((isC [11] (mkH n z D m j r) 0).bind fun _ => cN (cf (mkH n z D m j r)) (mkH n z D m j r) fun v h4 => (isC [12] h4 72).bind fun _ => cN (mf h4) h4 fun v2 h5 => if v = v2 then f_L_law_1641 xs L k23 0 72 94 x4 h5 else some (0, h5)) := by
  obtain ⟨v, n', z', D', m', j', r', m'', j'', r'', e1, e2, ⟨a1, a2⟩, ⟨b1, b2⟩, hI⟩ := hK
  have en : n' = n := by omega
  have ez : z' = z := by omega
  subst en ez
  have cc : ∀ {α β : Type} (v : α) (D1 D2 : Dyn) (m1 m2 : MI) (j1 j2 : MJ) (r1 r2 : MR) (k : α → AH → Option β), cN (some (v, mkH n' z' D1 m1 j1 r1)) (mkH n' z' D2 m2 j2 r2) k = k v (mkH n' z' D1 m1 j1 r1) := fun v D1 D2 m1 m2 j1 j2 r1 r2 k => by
    unfold cN
    exact if_pos ⟨rfl, rfl⟩
  rw [q0.1, obs, e1, cc, q72.1, obs, e2, cc, if_pos rfl]
  exact L1641 hk hI (by omega) (by omega) (by omega) (by omega)
theorem L_A {x4 : Int32} {cf mf : AH → Option (Int32 × AH)} (hK : CALL n z D m j r cf mf) (hk : CONT n z bN bZ (k23 0 72 94 (x4 + 6))) : RES n z bN bZ ((isC [11] (mkH n z D m j r) 0).bind fun _ => cA (cf (mkH n z D m j r)) (mkH n z D m j r) fun v h4 => (isC [12] h4 72).bind fun _ => cN (mf h4) h4 fun v2 h5 => if v = v2 then f_L_law_1641 xs L k23 0 72 94 x4 h5 else some (0, h5)) := by
  obtain ⟨v, n', z', D', m', j', r', m'', j'', r'', e1, e2, ⟨a1, a2⟩, ⟨b1, b2⟩, hI⟩ := hK
  rw [q0.1, obs, e1, cA_mk a1 b1]
  refine RES_le (n' := n') (z' := z') (ck_res ?_) a1 b1
  rw [q72.1, obs, e2, cN_mk, if_pos rfl]
  exact L1641 hk hI (by omega) (by omega) (by omega) (by omega)
theorem G224 (hw : WIv C P τ σ lg acts hs img σI lgI A held tx ln cls B pls dg sn sw) (hc : CIv n D m r tp C P τ σ lg acts lt hs img σI lgI A held cls B pls dg sn sw) (hv : MIv m j tp C P τ σ lg acts hs img σI lgI A held tx ln cls B pls dg sn sw) (hn : n + 200 ≤ 1000000) (hi : i + 6 ≤ L) (hL : L ≤ 3072) (hk : CONT n z bN bZ (k23 0 72 94 (Int32.ofNat i + 6))) : RES n z bN bZ (f_L_law_224 xs L k23 0 72 94 (Int32.ofNat i) (mkH n z D m j r)) := by
  have s1 : sx xs L (Int32.ofNat i + 1) = some (xs (i + 1)) := sxk (k := 1) hi hL (by omega)
  have s2 : sx xs L (Int32.ofNat i + 2) = some (xs (i + 2)) := sxk (k := 2) hi hL (by omega)
  have s3 : sx xs L (Int32.ofNat i + 3) = some (xs (i + 3)) := sxk (k := 3) hi hL (by omega)
  have s4 : sx xs L (Int32.ofNat i + 4) = some (xs (i + 4)) := sxk (k := 4) hi hL (by omega)
  have s5 : sx xs L (Int32.ofNat i + 5) = some (xs (i + 5)) := sxk (k := 5) hi hL (by omega)
  unfold f_L_law_224
  refine ck_res ?_
  simp only [s1, s2, s3, s4, s5, obs]
  exact L_N (K_feed hw hc hv _ _ _ _ _) hk
theorem G297 (hw : WIv C P τ σ lg acts hs img σI lgI A held tx ln cls B pls dg sn sw) (hc : CIv n D m r tp C P τ σ lg acts lt hs img σI lgI A held cls B pls dg sn sw) (hv : MIv m j tp C P τ σ lg acts hs img σI lgI A held tx ln cls B pls dg sn sw) (hn : n + 200 ≤ 1000000) (hi : i + 6 ≤ L) (hL : L ≤ 3072) (hk : CONT n z bN bZ (k23 0 72 94 (Int32.ofNat i + 6))) : RES n z bN bZ (f_L_law_297 xs L k23 0 72 94 (Int32.ofNat i) (mkH n z D m j r)) := by
  have s1 : sx xs L (Int32.ofNat i + 1) = some (xs (i + 1)) := sxk (k := 1) hi hL (by omega)
  unfold f_L_law_297
  refine ck_res ?_
  simp only [s1, obs]
  exact L_N (K_end hw hc hv _) hk
theorem G322 (hw : WIv C P τ σ lg acts hs img σI lgI A held tx ln cls B pls dg sn sw) (hc : CIv n D m r tp C P τ σ lg acts lt hs img σI lgI A held cls B pls dg sn sw) (hv : MIv m j tp C P τ σ lg acts hs img σI lgI A held tx ln cls B pls dg sn sw) (hn : n + 200 ≤ 1000000) (hi : i + 6 ≤ L) (hL : L ≤ 3072) (hk : CONT n z bN bZ (k23 0 72 94 (Int32.ofNat i + 6))) : RES n z bN bZ (f_L_law_322 xs L k23 0 72 94 (Int32.ofNat i) (mkH n z D m j r)) := by
  have s1 : sx xs L (Int32.ofNat i + 1) = some (xs (i + 1)) := sxk (k := 1) hi hL (by omega)
  unfold f_L_law_322
  refine ck_res ?_
  simp only [s1, obs]
  exact L_N (CALL_q hw hc hv (fun m1 hm1 hv1 => Q_fault hw hc hm1 hv1 (by omega) _) (by omega)) hk
theorem G347 (hw : WIv C P τ σ lg acts hs img σI lgI A held tx ln cls B pls dg sn sw) (hc : CIv n D m r tp C P τ σ lg acts lt hs img σI lgI A held cls B pls dg sn sw) (hv : MIv m j tp C P τ σ lg acts hs img σI lgI A held tx ln cls B pls dg sn sw) (hn : n + 200 ≤ 1000000) (hi : i + 6 ≤ L) (hL : L ≤ 3072) (hk : CONT n z bN bZ (k23 0 72 94 (Int32.ofNat i + 6))) : RES n z bN bZ (f_L_law_347 xs L k23 0 72 94 (Int32.ofNat i) (mkH n z D m j r)) := by
  have s1 : sx xs L (Int32.ofNat i + 1) = some (xs (i + 1)) := sxk (k := 1) hi hL (by omega)
  unfold f_L_law_347
  refine ck_res ?_
  simp only [s1, obs]
  exact L_A (K_text hw hc hv hn _) hk
theorem G372 (hw : WIv C P τ σ lg acts hs img σI lgI A held tx ln cls B pls dg sn sw) (hc : CIv n D m r tp C P τ σ lg acts lt hs img σI lgI A held cls B pls dg sn sw) (hv : MIv m j tp C P τ σ lg acts hs img σI lgI A held tx ln cls B pls dg sn sw) (hn : n + 200 ≤ 1000000) (hi : i + 6 ≤ L) (hL : L ≤ 3072) (hk : CONT n z bN bZ (k23 0 72 94 (Int32.ofNat i + 6))) : RES n z bN bZ (f_L_law_372 xs L k23 0 72 94 (Int32.ofNat i) (mkH n z D m j r)) := by
  have s1 : sx xs L (Int32.ofNat i + 1) = some (xs (i + 1)) := sxk (k := 1) hi hL (by omega)
  unfold f_L_law_372
  refine ck_res ?_
  simp only [s1, obs]
  exact L_N (CALL_q hw hc hv (fun m1 hm1 hv1 => Q_rule (EC_of hw hc) hm1 _) (by omega)) hk
theorem G397 (hw : WIv C P τ σ lg acts hs img σI lgI A held tx ln cls B pls dg sn sw) (hc : CIv n D m r tp C P τ σ lg acts lt hs img σI lgI A held cls B pls dg sn sw) (hv : MIv m j tp C P τ σ lg acts hs img σI lgI A held tx ln cls B pls dg sn sw) (hn : n + 200 ≤ 1000000) (hi : i + 6 ≤ L) (hL : L ≤ 3072) (hk : CONT n z bN bZ (k23 0 72 94 (Int32.ofNat i + 6))) : RES n z bN bZ (f_L_law_397 xs L k23 0 72 94 (Int32.ofNat i) (mkH n z D m j r)) := by
  have s1 : sx xs L (Int32.ofNat i + 1) = some (xs (i + 1)) := sxk (k := 1) hi hL (by omega)
  have s2 : sx xs L (Int32.ofNat i + 2) = some (xs (i + 2)) := sxk (k := 2) hi hL (by omega)
  unfold f_L_law_397
  refine ck_res ?_
  simp only [s1, s2, obs]
  exact L_N (CALL_q hw hc hv (fun m1 hm1 hv1 => Q_corner (EC_of hw hc) hm1 _ _) (by omega)) hk
theorem G502 (hw : WIv C P τ σ lg acts hs img σI lgI A held tx ln cls B pls dg sn sw) (hc : CIv n D m r tp C P τ σ lg acts lt hs img σI lgI A held cls B pls dg sn sw) (hv : MIv m j tp C P τ σ lg acts hs img σI lgI A held tx ln cls B pls dg sn sw) (hn : n + 200 ≤ 1000000) (hi : i + 6 ≤ L) (hL : L ≤ 3072) (hk : CONT n z bN bZ (k23 0 72 94 (Int32.ofNat i + 6))) : RES n z bN bZ (f_L_law_502 xs L k23 0 72 94 (Int32.ofNat i) (mkH n z D m j r)) := by
  have s1 : sx xs L (Int32.ofNat i + 1) = some (xs (i + 1)) := sxk (k := 1) hi hL (by omega)
  unfold f_L_law_502
  refine ck_res ?_
  simp only [s1, obs]
  exact L_N (K_law hw hc hv (by omega) _) hk
theorem G527 (hw : WIv C P τ σ lg acts hs img σI lgI A held tx ln cls B pls dg sn sw) (hc : CIv n D m r tp C P τ σ lg acts lt hs img σI lgI A held cls B pls dg sn sw) (hv : MIv m j tp C P τ σ lg acts hs img σI lgI A held tx ln cls B pls dg sn sw) (hn : n + 200 ≤ 1000000) (hi : i + 6 ≤ L) (hL : L ≤ 3072) (hk : CONT n z bN bZ (k23 0 72 94 (Int32.ofNat i + 6))) : RES n z bN bZ (f_L_law_527 xs L k23 0 72 94 (Int32.ofNat i) (mkH n z D m j r)) := by
  have s1 : sx xs L (Int32.ofNat i + 1) = some (xs (i + 1)) := sxk (k := 1) hi hL (by omega)
  unfold f_L_law_527
  refine ck_res ?_
  simp only [s1, obs]
  exact L_N (K_dogs hw hc hv (by omega) _) hk
theorem G552 (hw : WIv C P τ σ lg acts hs img σI lgI A held tx ln cls B pls dg sn sw) (hc : CIv n D m r tp C P τ σ lg acts lt hs img σI lgI A held cls B pls dg sn sw) (hv : MIv m j tp C P τ σ lg acts hs img σI lgI A held tx ln cls B pls dg sn sw) (hn : n + 200 ≤ 1000000) (hi : i + 6 ≤ L) (hL : L ≤ 3072) (hk : CONT n z bN bZ (k23 0 72 94 (Int32.ofNat i + 6))) : RES n z bN bZ (f_L_law_552 xs L k23 0 72 94 (Int32.ofNat i) (mkH n z D m j r)) := by
  unfold f_L_law_552
  refine ck_res ?_
  exact L_A (K_day hw hc hv hn ) hk
theorem G565 (hw : WIv C P τ σ lg acts hs img σI lgI A held tx ln cls B pls dg sn sw) (hc : CIv n D m r tp C P τ σ lg acts lt hs img σI lgI A held cls B pls dg sn sw) (hv : MIv m j tp C P τ σ lg acts hs img σI lgI A held tx ln cls B pls dg sn sw) (hn : n + 200 ≤ 1000000) (hi : i + 6 ≤ L) (hL : L ≤ 3072) (hk : CONT n z bN bZ (k23 0 72 94 (Int32.ofNat i + 6))) : RES n z bN bZ (f_L_law_565 xs L k23 0 72 94 (Int32.ofNat i) (mkH n z D m j r)) := by
  have s1 : sx xs L (Int32.ofNat i + 1) = some (xs (i + 1)) := sxk (k := 1) hi hL (by omega)
  have s2 : sx xs L (Int32.ofNat i + 2) = some (xs (i + 2)) := sxk (k := 2) hi hL (by omega)
  unfold f_L_law_565
  refine ck_res ?_
  simp only [s1, s2, obs]
  exact L_A (K_crumb hw hc hv hn _ _) hk
theorem G602 (hw : WIv C P τ σ lg acts hs img σI lgI A held tx ln cls B pls dg sn sw) (hc : CIv n D m r tp C P τ σ lg acts lt hs img σI lgI A held cls B pls dg sn sw) (hv : MIv m j tp C P τ σ lg acts hs img σI lgI A held tx ln cls B pls dg sn sw) (hn : n + 200 ≤ 1000000) (hi : i + 6 ≤ L) (hL : L ≤ 3072) (hk : CONT n z bN bZ (k23 0 72 94 (Int32.ofNat i + 6))) : RES n z bN bZ (f_L_law_602 xs L k23 0 72 94 (Int32.ofNat i) (mkH n z D m j r)) := by
  have s1 : sx xs L (Int32.ofNat i + 1) = some (xs (i + 1)) := sxk (k := 1) hi hL (by omega)
  unfold f_L_law_602
  refine ck_res ?_
  simp only [s1, obs]
  exact L_A (K_renew hw hc hv hn _) hk
theorem G627 (hw : WIv C P τ σ lg acts hs img σI lgI A held tx ln cls B pls dg sn sw) (hc : CIv n D m r tp C P τ σ lg acts lt hs img σI lgI A held cls B pls dg sn sw) (hv : MIv m j tp C P τ σ lg acts hs img σI lgI A held tx ln cls B pls dg sn sw) (hn : n + 200 ≤ 1000000) (hi : i + 6 ≤ L) (hL : L ≤ 3072) (hk : CONT n z bN bZ (k23 0 72 94 (Int32.ofNat i + 6))) : RES n z bN bZ (f_L_law_627 xs L k23 0 72 94 (Int32.ofNat i) (mkH n z D m j r)) := by
  have s1 : sx xs L (Int32.ofNat i + 1) = some (xs (i + 1)) := sxk (k := 1) hi hL (by omega)
  unfold f_L_law_627
  refine ck_res ?_
  simp only [s1, obs]
  exact L_A (K_constable hw hc hv hn _) hk
theorem G652 (hw : WIv C P τ σ lg acts hs img σI lgI A held tx ln cls B pls dg sn sw) (hc : CIv n D m r tp C P τ σ lg acts lt hs img σI lgI A held cls B pls dg sn sw) (hv : MIv m j tp C P τ σ lg acts hs img σI lgI A held tx ln cls B pls dg sn sw) (hn : n + 200 ≤ 1000000) (hi : i + 6 ≤ L) (hL : L ≤ 3072) (hk : CONT n z bN bZ (k23 0 72 94 (Int32.ofNat i + 6))) : RES n z bN bZ (f_L_law_652 xs L k23 0 72 94 (Int32.ofNat i) (mkH n z D m j r)) := by
  have s1 : sx xs L (Int32.ofNat i + 1) = some (xs (i + 1)) := sxk (k := 1) hi hL (by omega)
  unfold f_L_law_652
  refine ck_res ?_
  simp only [s1, obs]
  exact L_A (K_about hw hc hv hn _) hk
theorem G677 (hw : WIv C P τ σ lg acts hs img σI lgI A held tx ln cls B pls dg sn sw) (hc : CIv n D m r tp C P τ σ lg acts lt hs img σI lgI A held cls B pls dg sn sw) (hv : MIv m j tp C P τ σ lg acts hs img σI lgI A held tx ln cls B pls dg sn sw) (hn : n + 200 ≤ 1000000) (hi : i + 6 ≤ L) (hL : L ≤ 3072) (hk : CONT n z bN bZ (k23 0 72 94 (Int32.ofNat i + 6))) : RES n z bN bZ (f_L_law_677 xs L k23 0 72 94 (Int32.ofNat i) (mkH n z D m j r)) := by
  have s1 : sx xs L (Int32.ofNat i + 1) = some (xs (i + 1)) := sxk (k := 1) hi hL (by omega)
  unfold f_L_law_677
  refine ck_res ?_
  simp only [s1, obs]
  exact L_A (K_give hw hc hv hn _) hk
theorem G702 (hw : WIv C P τ σ lg acts hs img σI lgI A held tx ln cls B pls dg sn sw) (hc : CIv n D m r tp C P τ σ lg acts lt hs img σI lgI A held cls B pls dg sn sw) (hv : MIv m j tp C P τ σ lg acts hs img σI lgI A held tx ln cls B pls dg sn sw) (hn : n + 200 ≤ 1000000) (hi : i + 6 ≤ L) (hL : L ≤ 3072) (hk : CONT n z bN bZ (k23 0 72 94 (Int32.ofNat i + 6))) : RES n z bN bZ (f_L_law_702 xs L k23 0 72 94 (Int32.ofNat i) (mkH n z D m j r)) := by
  have s1 : sx xs L (Int32.ofNat i + 1) = some (xs (i + 1)) := sxk (k := 1) hi hL (by omega)
  have s2 : sx xs L (Int32.ofNat i + 2) = some (xs (i + 2)) := sxk (k := 2) hi hL (by omega)
  have s3 : sx xs L (Int32.ofNat i + 3) = some (xs (i + 3)) := sxk (k := 3) hi hL (by omega)
  unfold f_L_law_702
  refine ck_res ?_
  simp only [s1, s2, s3, obs]
  exact L_A (K_years hw hc hv hn _ _) hk
theorem G771 (hw : WIv C P τ σ lg acts hs img σI lgI A held tx ln cls B pls dg sn sw) (hc : CIv n D m r tp C P τ σ lg acts lt hs img σI lgI A held cls B pls dg sn sw) (hv : MIv m j tp C P τ σ lg acts hs img σI lgI A held tx ln cls B pls dg sn sw) (hn : n + 200 ≤ 1000000) (hi : i + 6 ≤ L) (hL : L ≤ 3072) (hk : CONT n z bN bZ (k23 0 72 94 (Int32.ofNat i + 6))) : RES n z bN bZ (f_L_law_771 xs L k23 0 72 94 (Int32.ofNat i) (mkH n z D m j r)) := by
  unfold f_L_law_771
  refine ck_res ?_
  exact L_N (K_undo hw hc hv (by omega) ) hk
theorem G784 (hw : WIv C P τ σ lg acts hs img σI lgI A held tx ln cls B pls dg sn sw) (hc : CIv n D m r tp C P τ σ lg acts lt hs img σI lgI A held cls B pls dg sn sw) (hv : MIv m j tp C P τ σ lg acts hs img σI lgI A held tx ln cls B pls dg sn sw) (hn : n + 200 ≤ 1000000) (hi : i + 6 ≤ L) (hL : L ≤ 3072) (hk : CONT n z bN bZ (k23 0 72 94 (Int32.ofNat i + 6))) : RES n z bN bZ (f_L_law_784 xs L k23 0 72 94 (Int32.ofNat i) (mkH n z D m j r)) := by
  have s1 : sx xs L (Int32.ofNat i + 1) = some (xs (i + 1)) := sxk (k := 1) hi hL (by omega)
  have s2 : sx xs L (Int32.ofNat i + 2) = some (xs (i + 2)) := sxk (k := 2) hi hL (by omega)
  unfold f_L_law_784
  refine ck_res ?_
  simp only [s1, s2, obs]
  exact L_N (CALL_q hw hc hv (fun m1 hm1 hv1 => Q_log hw hc hm1 hv1 _ _) (by omega)) hk
theorem G821 (hw : WIv C P τ σ lg acts hs img σI lgI A held tx ln cls B pls dg sn sw) (hc : CIv n D m r tp C P τ σ lg acts lt hs img σI lgI A held cls B pls dg sn sw) (hv : MIv m j tp C P τ σ lg acts hs img σI lgI A held tx ln cls B pls dg sn sw) (hn : n + 200 ≤ 1000000) (hi : i + 6 ≤ L) (hL : L ≤ 3072) (hk : CONT n z bN bZ (k23 0 72 94 (Int32.ofNat i + 6))) : RES n z bN bZ (f_L_law_821 xs L k23 0 72 94 (Int32.ofNat i) (mkH n z D m j r)) := by
  have s1 : sx xs L (Int32.ofNat i + 1) = some (xs (i + 1)) := sxk (k := 1) hi hL (by omega)
  have s2 : sx xs L (Int32.ofNat i + 2) = some (xs (i + 2)) := sxk (k := 2) hi hL (by omega)
  have s3 : sx xs L (Int32.ofNat i + 3) = some (xs (i + 3)) := sxk (k := 3) hi hL (by omega)
  unfold f_L_law_821
  refine ck_res ?_
  simp only [s1, s2, s3, obs]
  exact L_N (CALL_q hw hc hv (fun m1 hm1 hv1 => Q_step hw hc hm1 hv1 _ _ _) (by omega)) hk
theorem G870 (hw : WIv C P τ σ lg acts hs img σI lgI A held tx ln cls B pls dg sn sw) (hc : CIv n D m r tp C P τ σ lg acts lt hs img σI lgI A held cls B pls dg sn sw) (hv : MIv m j tp C P τ σ lg acts hs img σI lgI A held tx ln cls B pls dg sn sw) (hn : n + 200 ≤ 1000000) (hi : i + 6 ≤ L) (hL : L ≤ 3072) (hk : CONT n z bN bZ (k23 0 72 94 (Int32.ofNat i + 6))) : RES n z bN bZ (f_L_law_870 xs L k23 0 72 94 (Int32.ofNat i) (mkH n z D m j r)) := by
  have s1 : sx xs L (Int32.ofNat i + 1) = some (xs (i + 1)) := sxk (k := 1) hi hL (by omega)
  have s2 : sx xs L (Int32.ofNat i + 2) = some (xs (i + 2)) := sxk (k := 2) hi hL (by omega)
  unfold f_L_law_870
  refine ck_res ?_
  simp only [s1, s2, obs]
  exact L_N (CALL_q hw hc hv (fun m1 hm1 hv1 => Q_run hw hc hm1 hv1 _ _) (by omega)) hk
theorem G907 (hw : WIv C P τ σ lg acts hs img σI lgI A held tx ln cls B pls dg sn sw) (hc : CIv n D m r tp C P τ σ lg acts lt hs img σI lgI A held cls B pls dg sn sw) (hv : MIv m j tp C P τ σ lg acts hs img σI lgI A held tx ln cls B pls dg sn sw) (hn : n + 200 ≤ 1000000) (hi : i + 6 ≤ L) (hL : L ≤ 3072) (hk : CONT n z bN bZ (k23 0 72 94 (Int32.ofNat i + 6))) : RES n z bN bZ (f_L_law_907 xs L k23 0 72 94 (Int32.ofNat i) (mkH n z D m j r)) := by
  have s1 : sx xs L (Int32.ofNat i + 1) = some (xs (i + 1)) := sxk (k := 1) hi hL (by omega)
  unfold f_L_law_907
  refine ck_res ?_
  simp only [s1, obs]
  exact L_A (K_perform hw hc hv hn _) hk
theorem G932 (hw : WIv C P τ σ lg acts hs img σI lgI A held tx ln cls B pls dg sn sw) (hc : CIv n D m r tp C P τ σ lg acts lt hs img σI lgI A held cls B pls dg sn sw) (hv : MIv m j tp C P τ σ lg acts hs img σI lgI A held tx ln cls B pls dg sn sw) (hn : n + 200 ≤ 1000000) (hi : i + 6 ≤ L) (hL : L ≤ 3072) (hk : CONT n z bN bZ (k23 0 72 94 (Int32.ofNat i + 6))) : RES n z bN bZ (f_L_law_932 xs L k23 0 72 94 (Int32.ofNat i) (mkH n z D m j r)) := by
  have s1 : sx xs L (Int32.ofNat i + 1) = some (xs (i + 1)) := sxk (k := 1) hi hL (by omega)
  have s2 : sx xs L (Int32.ofNat i + 2) = some (xs (i + 2)) := sxk (k := 2) hi hL (by omega)
  unfold f_L_law_932
  refine ck_res ?_
  simp only [s1, s2, obs]
  exact L_N (CALL_q hw hc hv (fun m1 hm1 hv1 => Q_pulled (EC_of hw hc) hm1 _ _) (by omega)) hk
theorem G969 (hw : WIv C P τ σ lg acts hs img σI lgI A held tx ln cls B pls dg sn sw) (hc : CIv n D m r tp C P τ σ lg acts lt hs img σI lgI A held cls B pls dg sn sw) (hv : MIv m j tp C P τ σ lg acts hs img σI lgI A held tx ln cls B pls dg sn sw) (hn : n + 200 ≤ 1000000) (hi : i + 6 ≤ L) (hL : L ≤ 3072) (hk : CONT n z bN bZ (k23 0 72 94 (Int32.ofNat i + 6))) : RES n z bN bZ (f_L_law_969 xs L k23 0 72 94 (Int32.ofNat i) (mkH n z D m j r)) := by
  have s1 : sx xs L (Int32.ofNat i + 1) = some (xs (i + 1)) := sxk (k := 1) hi hL (by omega)
  unfold f_L_law_969
  refine ck_res ?_
  simp only [s1, obs]
  exact L_N (CALL_q hw hc hv (fun m1 hm1 hv1 => Q_caught (EC_of hw hc) hm1 _) (by omega)) hk
theorem G994 (hw : WIv C P τ σ lg acts hs img σI lgI A held tx ln cls B pls dg sn sw) (hc : CIv n D m r tp C P τ σ lg acts lt hs img σI lgI A held cls B pls dg sn sw) (hv : MIv m j tp C P τ σ lg acts hs img σI lgI A held tx ln cls B pls dg sn sw) (hn : n + 200 ≤ 1000000) (hi : i + 6 ≤ L) (hL : L ≤ 3072) (hk : CONT n z bN bZ (k23 0 72 94 (Int32.ofNat i + 6))) : RES n z bN bZ (f_L_law_994 xs L k23 0 72 94 (Int32.ofNat i) (mkH n z D m j r)) := by
  have s1 : sx xs L (Int32.ofNat i + 1) = some (xs (i + 1)) := sxk (k := 1) hi hL (by omega)
  have s2 : sx xs L (Int32.ofNat i + 2) = some (xs (i + 2)) := sxk (k := 2) hi hL (by omega)
  unfold f_L_law_994
  refine ck_res ?_
  simp only [s1, s2, obs]
  exact L_N (CALL_q hw hc hv (fun m1 hm1 hv1 => Q_baits (EC_of hw hc) hm1 _ _) (by omega)) hk
theorem G1108 (hw : WIv C P τ σ lg acts hs img σI lgI A held tx ln cls B pls dg sn sw) (hc : CIv n D m r tp C P τ σ lg acts lt hs img σI lgI A held cls B pls dg sn sw) (hv : MIv m j tp C P τ σ lg acts hs img σI lgI A held tx ln cls B pls dg sn sw) (hn : n + 200 ≤ 1000000) (hi : i + 6 ≤ L) (hL : L ≤ 3072) (hk : CONT n z bN bZ (k23 0 72 94 (Int32.ofNat i + 6))) : RES n z bN bZ (f_L_law_1108 xs L k23 0 72 94 (Int32.ofNat i) (mkH n z D m j r)) := by
  have s1 : sx xs L (Int32.ofNat i + 1) = some (xs (i + 1)) := sxk (k := 1) hi hL (by omega)
  have s2 : sx xs L (Int32.ofNat i + 2) = some (xs (i + 2)) := sxk (k := 2) hi hL (by omega)
  unfold f_L_law_1108
  refine ck_res ?_
  simp only [s1, s2, obs]
  exact L_N (CALL_q hw hc hv (fun m1 hm1 hv1 => Q_moves (EC_of hw hc) hm1 hw.2.2.2.2.2.2.2.2 hc.1.2.2.2.2.2.2 hv1.1.2.2.2.2.2.2 _ _) (by omega)) hk
theorem G1145 (hw : WIv C P τ σ lg acts hs img σI lgI A held tx ln cls B pls dg sn sw) (hc : CIv n D m r tp C P τ σ lg acts lt hs img σI lgI A held cls B pls dg sn sw) (hv : MIv m j tp C P τ σ lg acts hs img σI lgI A held tx ln cls B pls dg sn sw) (hn : n + 200 ≤ 1000000) (hi : i + 6 ≤ L) (hL : L ≤ 3072) (hk : CONT n z bN bZ (k23 0 72 94 (Int32.ofNat i + 6))) : RES n z bN bZ (f_L_law_1145 xs L k23 0 72 94 (Int32.ofNat i) (mkH n z D m j r)) := by
  have s1 : sx xs L (Int32.ofNat i + 1) = some (xs (i + 1)) := sxk (k := 1) hi hL (by omega)
  have s2 : sx xs L (Int32.ofNat i + 2) = some (xs (i + 2)) := sxk (k := 2) hi hL (by omega)
  unfold f_L_law_1145
  refine ck_res ?_
  simp only [s1, s2, obs]
  exact L_N (CALL_q hw hc hv (fun m1 hm1 hv1 => Q_ask (EC_of hw hc) hm1 hw.2.2.2.2.2.2.2.2 hc.1.2.2.2.2.2.2 hv1.1.2.2.2.2.2.2 _ _) (by omega)) hk
theorem G1182 (hw : WIv C P τ σ lg acts hs img σI lgI A held tx ln cls B pls dg sn sw) (hc : CIv n D m r tp C P τ σ lg acts lt hs img σI lgI A held cls B pls dg sn sw) (hv : MIv m j tp C P τ σ lg acts hs img σI lgI A held tx ln cls B pls dg sn sw) (hn : n + 200 ≤ 1000000) (hi : i + 6 ≤ L) (hL : L ≤ 3072) (hk : CONT n z bN bZ (k23 0 72 94 (Int32.ofNat i + 6))) : RES n z bN bZ (f_L_law_1182 xs L k23 0 72 94 (Int32.ofNat i) (mkH n z D m j r)) := by
  have s1 : sx xs L (Int32.ofNat i + 1) = some (xs (i + 1)) := sxk (k := 1) hi hL (by omega)
  unfold f_L_law_1182
  refine ck_res ?_
  simp only [s1, obs]
  exact L_N (CALL_q hw hc hv (fun m1 hm1 hv1 => Q_safe (EC_of hw hc) hm1 _) (by omega)) hk
theorem G1207 (hw : WIv C P τ σ lg acts hs img σI lgI A held tx ln cls B pls dg sn sw) (hc : CIv n D m r tp C P τ σ lg acts lt hs img σI lgI A held cls B pls dg sn sw) (hv : MIv m j tp C P τ σ lg acts hs img σI lgI A held tx ln cls B pls dg sn sw) (hn : n + 200 ≤ 1000000) (hi : i + 6 ≤ L) (hL : L ≤ 3072) (hk : CONT n z bN bZ (k23 0 72 94 (Int32.ofNat i + 6))) : RES n z bN bZ (f_L_law_1207 xs L k23 0 72 94 (Int32.ofNat i) (mkH n z D m j r)) := by
  have s1 : sx xs L (Int32.ofNat i + 1) = some (xs (i + 1)) := sxk (k := 1) hi hL (by omega)
  unfold f_L_law_1207
  refine ck_res ?_
  simp only [s1, obs]
  exact L_N (CALL_q hw hc hv (fun m1 hm1 hv1 => Q_passes (EC_of hw hc) hm1 _) (by omega)) hk
theorem G1232 (hw : WIv C P τ σ lg acts hs img σI lgI A held tx ln cls B pls dg sn sw) (hc : CIv n D m r tp C P τ σ lg acts lt hs img σI lgI A held cls B pls dg sn sw) (hv : MIv m j tp C P τ σ lg acts hs img σI lgI A held tx ln cls B pls dg sn sw) (hn : n + 200 ≤ 1000000) (hi : i + 6 ≤ L) (hL : L ≤ 3072) (hk : CONT n z bN bZ (k23 0 72 94 (Int32.ofNat i + 6))) : RES n z bN bZ (f_L_law_1232 xs L k23 0 72 94 (Int32.ofNat i) (mkH n z D m j r)) := by
  have s1 : sx xs L (Int32.ofNat i + 1) = some (xs (i + 1)) := sxk (k := 1) hi hL (by omega)
  unfold f_L_law_1232
  refine ck_res ?_
  simp only [s1, obs]
  exact L_N (CALL_q hw hc hv (fun m1 hm1 hv1 => Q_walk (EC_of hw hc) hm1 _) (by omega)) hk
theorem G1257 (hw : WIv C P τ σ lg acts hs img σI lgI A held tx ln cls B pls dg sn sw) (hc : CIv n D m r tp C P τ σ lg acts lt hs img σI lgI A held cls B pls dg sn sw) (hv : MIv m j tp C P τ σ lg acts hs img σI lgI A held tx ln cls B pls dg sn sw) (hn : n + 200 ≤ 1000000) (hi : i + 6 ≤ L) (hL : L ≤ 3072) (hk : CONT n z bN bZ (k23 0 72 94 (Int32.ofNat i + 6))) : RES n z bN bZ (f_L_law_1257 xs L k23 0 72 94 (Int32.ofNat i) (mkH n z D m j r)) := by
  have s1 : sx xs L (Int32.ofNat i + 1) = some (xs (i + 1)) := sxk (k := 1) hi hL (by omega)
  have s2 : sx xs L (Int32.ofNat i + 2) = some (xs (i + 2)) := sxk (k := 2) hi hL (by omega)
  have s3 : sx xs L (Int32.ofNat i + 3) = some (xs (i + 3)) := sxk (k := 3) hi hL (by omega)
  have s4 : sx xs L (Int32.ofNat i + 4) = some (xs (i + 4)) := sxk (k := 4) hi hL (by omega)
  have s5 : sx xs L (Int32.ofNat i + 5) = some (xs (i + 5)) := sxk (k := 5) hi hL (by omega)
  unfold f_L_law_1257
  refine ck_res ?_
  simp only [s1, s2, s3, s4, s5, obs]
  exact L_N (CALL_q hw hc hv (fun m1 hm1 hv1 => Q_game (EC_of hw hc) hm1 _ _ _ _ _) (by omega)) hk
theorem G1330 (hw : WIv C P τ σ lg acts hs img σI lgI A held tx ln cls B pls dg sn sw) (hc : CIv n D m r tp C P τ σ lg acts lt hs img σI lgI A held cls B pls dg sn sw) (hv : MIv m j tp C P τ σ lg acts hs img σI lgI A held tx ln cls B pls dg sn sw) (hn : n + 200 ≤ 1000000) (hi : i + 6 ≤ L) (hL : L ≤ 3072) (hk : CONT n z bN bZ (k23 0 72 94 (Int32.ofNat i + 6))) : RES n z bN bZ (f_L_law_1330 xs L k23 0 72 94 (Int32.ofNat i) (mkH n z D m j r)) := by
  have s1 : sx xs L (Int32.ofNat i + 1) = some (xs (i + 1)) := sxk (k := 1) hi hL (by omega)
  have s2 : sx xs L (Int32.ofNat i + 2) = some (xs (i + 2)) := sxk (k := 2) hi hL (by omega)
  have s3 : sx xs L (Int32.ofNat i + 3) = some (xs (i + 3)) := sxk (k := 3) hi hL (by omega)
  unfold f_L_law_1330
  refine ck_res ?_
  simp only [s1, s2, s3, obs]
  exact L_N (CALL_q hw hc hv (fun m1 hm1 hv1 => Q_rests (EC_of hw hc) hm1 _ _ _) (by omega)) hk
theorem G1379 (hw : WIv C P τ σ lg acts hs img σI lgI A held tx ln cls B pls dg sn sw) (hc : CIv n D m r tp C P τ σ lg acts lt hs img σI lgI A held cls B pls dg sn sw) (hv : MIv m j tp C P τ σ lg acts hs img σI lgI A held tx ln cls B pls dg sn sw) (hn : n + 200 ≤ 1000000) (hi : i + 6 ≤ L) (hL : L ≤ 3072) (hk : CONT n z bN bZ (k23 0 72 94 (Int32.ofNat i + 6))) : RES n z bN bZ (f_L_law_1379 xs L k23 0 72 94 (Int32.ofNat i) (mkH n z D m j r)) := by
  have s1 : sx xs L (Int32.ofNat i + 1) = some (xs (i + 1)) := sxk (k := 1) hi hL (by omega)
  have s2 : sx xs L (Int32.ofNat i + 2) = some (xs (i + 2)) := sxk (k := 2) hi hL (by omega)
  unfold f_L_law_1379
  refine ck_res ?_
  simp only [s1, s2, obs]
  exact L_N (CALL_q hw hc hv (fun m1 hm1 hv1 => Q_odds (EC_of hw hc) hm1 _ _) (by omega)) hk
theorem G1416 (hw : WIv C P τ σ lg acts hs img σI lgI A held tx ln cls B pls dg sn sw) (hc : CIv n D m r tp C P τ σ lg acts lt hs img σI lgI A held cls B pls dg sn sw) (hv : MIv m j tp C P τ σ lg acts hs img σI lgI A held tx ln cls B pls dg sn sw) (hn : n + 200 ≤ 1000000) (hi : i + 6 ≤ L) (hL : L ≤ 3072) (hk : CONT n z bN bZ (k23 0 72 94 (Int32.ofNat i + 6))) : RES n z bN bZ (f_L_law_1416 xs L k23 0 72 94 (Int32.ofNat i) (mkH n z D m j r)) := by
  have s1 : sx xs L (Int32.ofNat i + 1) = some (xs (i + 1)) := sxk (k := 1) hi hL (by omega)
  unfold f_L_law_1416
  refine ck_res ?_
  simp only [s1, obs]
  exact L_N (CALL_q hw hc hv (fun m1 hm1 hv1 => Q_lasts (EC_of hw hc) hm1 _) (by omega)) hk
theorem G1441 (hw : WIv C P τ σ lg acts hs img σI lgI A held tx ln cls B pls dg sn sw) (hc : CIv n D m r tp C P τ σ lg acts lt hs img σI lgI A held cls B pls dg sn sw) (hv : MIv m j tp C P τ σ lg acts hs img σI lgI A held tx ln cls B pls dg sn sw) (hn : n + 200 ≤ 1000000) (hi : i + 6 ≤ L) (hL : L ≤ 3072) (hk : CONT n z bN bZ (k23 0 72 94 (Int32.ofNat i + 6))) : RES n z bN bZ (f_L_law_1441 xs L k23 0 72 94 (Int32.ofNat i) (mkH n z D m j r)) := by
  have s1 : sx xs L (Int32.ofNat i + 1) = some (xs (i + 1)) := sxk (k := 1) hi hL (by omega)
  unfold f_L_law_1441
  refine ck_res ?_
  simp only [s1, obs]
  exact L_N (CALL_q hw hc hv (fun m1 hm1 hv1 => Q_yearly (EC_of hw hc) hm1 _) (by omega)) hk
theorem G1466 (hw : WIv C P τ σ lg acts hs img σI lgI A held tx ln cls B pls dg sn sw) (hc : CIv n D m r tp C P τ σ lg acts lt hs img σI lgI A held cls B pls dg sn sw) (hv : MIv m j tp C P τ σ lg acts hs img σI lgI A held tx ln cls B pls dg sn sw) (hn : n + 200 ≤ 1000000) (hi : i + 6 ≤ L) (hL : L ≤ 3072) (hk : CONT n z bN bZ (k23 0 72 94 (Int32.ofNat i + 6))) : RES n z bN bZ (f_L_law_1466 xs L k23 0 72 94 (Int32.ofNat i) (mkH n z D m j r)) := by
  have s1 : sx xs L (Int32.ofNat i + 1) = some (xs (i + 1)) := sxk (k := 1) hi hL (by omega)
  unfold f_L_law_1466
  refine ck_res ?_
  simp only [s1, obs]
  exact L_N (CALL_q hw hc hv (fun m1 hm1 hv1 => Q_all (EC_of hw hc) hm1 _) (by omega)) hk
theorem G1491 (hw : WIv C P τ σ lg acts hs img σI lgI A held tx ln cls B pls dg sn sw) (hc : CIv n D m r tp C P τ σ lg acts lt hs img σI lgI A held cls B pls dg sn sw) (hv : MIv m j tp C P τ σ lg acts hs img σI lgI A held tx ln cls B pls dg sn sw) (hn : n + 200 ≤ 1000000) (hi : i + 6 ≤ L) (hL : L ≤ 3072) (hk : CONT n z bN bZ (k23 0 72 94 (Int32.ofNat i + 6))) : RES n z bN bZ (f_L_law_1491 xs L k23 0 72 94 (Int32.ofNat i) (mkH n z D m j r)) := by
  have s1 : sx xs L (Int32.ofNat i + 1) = some (xs (i + 1)) := sxk (k := 1) hi hL (by omega)
  unfold f_L_law_1491
  refine ck_res ?_
  simp only [s1, obs]
  exact L_N (CALL_q hw hc hv (fun m1 hm1 hv1 => Q_kinds (EC_of hw hc) hm1 _) (by omega)) hk
theorem G1516 (hw : WIv C P τ σ lg acts hs img σI lgI A held tx ln cls B pls dg sn sw) (hc : CIv n D m r tp C P τ σ lg acts lt hs img σI lgI A held cls B pls dg sn sw) (hv : MIv m j tp C P τ σ lg acts hs img σI lgI A held tx ln cls B pls dg sn sw) (hn : n + 200 ≤ 1000000) (hi : i + 6 ≤ L) (hL : L ≤ 3072) (hk : CONT n z bN bZ (k23 0 72 94 (Int32.ofNat i + 6))) : RES n z bN bZ (f_L_law_1516 xs L k23 0 72 94 (Int32.ofNat i) (mkH n z D m j r)) := by
  have s1 : sx xs L (Int32.ofNat i + 1) = some (xs (i + 1)) := sxk (k := 1) hi hL (by omega)
  have s2 : sx xs L (Int32.ofNat i + 2) = some (xs (i + 2)) := sxk (k := 2) hi hL (by omega)
  unfold f_L_law_1516
  refine ck_res ?_
  simp only [s1, s2, obs]
  exact L_N (CALL_q hw hc hv (fun m1 hm1 hv1 => Q_needs (EC_of hw hc) hm1 _ _) (by omega)) hk
theorem G1553 (hw : WIv C P τ σ lg acts hs img σI lgI A held tx ln cls B pls dg sn sw) (hc : CIv n D m r tp C P τ σ lg acts lt hs img σI lgI A held cls B pls dg sn sw) (hv : MIv m j tp C P τ σ lg acts hs img σI lgI A held tx ln cls B pls dg sn sw) (hn : n + 200 ≤ 1000000) (hi : i + 6 ≤ L) (hL : L ≤ 3072) (hk : CONT n z bN bZ (k23 0 72 94 (Int32.ofNat i + 6))) : RES n z bN bZ (f_L_law_1553 xs L k23 0 72 94 (Int32.ofNat i) (mkH n z D m j r)) := by
  have s1 : sx xs L (Int32.ofNat i + 1) = some (xs (i + 1)) := sxk (k := 1) hi hL (by omega)
  have s2 : sx xs L (Int32.ofNat i + 2) = some (xs (i + 2)) := sxk (k := 2) hi hL (by omega)
  unfold f_L_law_1553
  refine ck_res ?_
  simp only [s1, s2, obs]
  exact L_N (CALL_q hw hc hv (fun m1 hm1 hv1 => Q_shares (EC_of hw hc) hm1 _ _) (by omega)) hk
theorem G1590 (hw : WIv C P τ σ lg acts hs img σI lgI A held tx ln cls B pls dg sn sw) (hc : CIv n D m r tp C P τ σ lg acts lt hs img σI lgI A held cls B pls dg sn sw) (hv : MIv m j tp C P τ σ lg acts hs img σI lgI A held tx ln cls B pls dg sn sw) (hn : n + 200 ≤ 1000000) (hi : i + 6 ≤ L) (hL : L ≤ 3072) (hk : CONT n z bN bZ (k23 0 72 94 (Int32.ofNat i + 6))) : RES n z bN bZ (f_L_law_1590 xs L k23 0 72 94 (Int32.ofNat i) (mkH n z D m j r)) := by
  unfold f_L_law_1590
  refine ck_res ?_
  exact L_N (K_image hw hc hv (by omega) ) hk
theorem G1603 (hw : WIv C P τ σ lg acts hs img σI lgI A held tx ln cls B pls dg sn sw) (hc : CIv n D m r tp C P τ σ lg acts lt hs img σI lgI A held cls B pls dg sn sw) (hv : MIv m j tp C P τ σ lg acts hs img σI lgI A held tx ln cls B pls dg sn sw) (hn : n + 200 ≤ 1000000) (hi : i + 6 ≤ L) (hL : L ≤ 3072) (hk : CONT n z bN bZ (k23 0 72 94 (Int32.ofNat i + 6))) : RES n z bN bZ (f_L_law_1603 xs L k23 0 72 94 (Int32.ofNat i) (mkH n z D m j r)) := by
  unfold f_L_law_1603
  refine ck_res ?_
  exact L_N (K_back hw hc hv (by omega) ) hk
theorem G1616 (hw : WIv C P τ σ lg acts hs img σI lgI A held tx ln cls B pls dg sn sw) (hc : CIv n D m r tp C P τ σ lg acts lt hs img σI lgI A held cls B pls dg sn sw) (hv : MIv m j tp C P τ σ lg acts hs img σI lgI A held tx ln cls B pls dg sn sw) (hn : n + 200 ≤ 1000000) (hi : i + 6 ≤ L) (hL : L ≤ 3072) (hk : CONT n z bN bZ (k23 0 72 94 (Int32.ofNat i + 6))) : RES n z bN bZ (f_L_law_1616 xs L k23 0 72 94 (Int32.ofNat i) (mkH n z D m j r)) := by
  have s1 : sx xs L (Int32.ofNat i + 1) = some (xs (i + 1)) := sxk (k := 1) hi hL (by omega)
  unfold f_L_law_1616
  refine ck_res ?_
  simp only [s1, obs]
  exact L_N (CALL_q hw hc hv (fun m1 hm1 hv1 => Q_count hw hc hm1 hv1 _) (by omega)) hk
end LAW
