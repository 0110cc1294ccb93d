/-! The call that takes a text: a plan; the whole call. -/
section TXP
variable {n z : Nat} {D : Dyn} {m m1 m' : MI} {j : MJ} {r r' : MR} {tp tp' : TP} {C P : Nat} {τ σ : Sg} {lg : LG} {acts lt : Nat} {hs : Nat → Sg} {img : Bool} {σI : Sg} {lgI : LG} {A A' held : Nat} {tx tx' : Nat → Nat → Nat} {ln ln' : Nat → Nat} {cls cls' : CLS} {B B' K : Nat} {pls pls' : Nat → List ST} {dg sn : Nat} {sw : Nat → Nat → Nat} {v : Int32} {k : Nat}
theorem K_text2 (hw : WIv C P τ σ lg acts hs img σI lgI A held tx ln cls B pls dg sn sw) (hc : CIv n D m r tp C P τ σ lg acts lt hs img σI lgI A held cls B pls dg sn sw) (hv : MIv m j tp C P τ σ lg acts hs img σI lgI A held tx ln cls B pls dg sn sw) (hn : n + 200 ≤ 1000000) : CALL n z D m j r (f_X11_text 0 (Int32.ofNat 2)) (f_X12_text 72 (Int32.ofNat 2)) := by
  have hD := hD_of hc (by omega)
  obtain ⟨hN, hb⟩ := bt_of hc
  obtain ⟨m1, e1, f1, v1⟩ := C_fl2 (n := n) (z := z) (j := j) (r := r) hD hc.1.1
  have hv1 : MIv m1 j tp C P τ σ lg acts hs img σI lgI A held tx ln cls B pls dg sn sw := MI_c hv (fun a c1 c2 => f1 a (by omega)) rfl
  have hc1 : CIv n D m1 r tp C P τ σ lg acts lt hs img σI lgI A held cls B pls dg sn sw := CI_q hc (FZ_q f1)
  have hA4 : B ≤ 4 := hw.2.2.2.2.2.2.1.1
  have hl1 := hv1.1.2.2.2.2.1
  cases hp : pPl tp.1 tp.2 16 0 with
  | inl e =>
    have hne := fe2 hD hv1.1.1 hN hb hp
    by_cases hA : B < 4
    · obtain ⟨m3, e3, g3, -⟩ := M_fl2 (n := n) (z := z) (j := j) (r := r) hD (TMd_0 (x := 0) hv1.1.1) hN hb
      exact K_ref hw hc hv (C_txf e1 hne) f1 (by rw [M_tx2 hl1.1 hA]; exact M_txf e3 hne) (GZ_tr GZ_0 g3)
    · have e4 : B = 4 := by omega
      exact K_ref hw hc hv (C_txf e1 hne) f1 (M_tx2f (by rw [← e4]; exact hl1.1)) GZ_0
  | inr l =>
    have hfv : fv2 tp.1 tp.2 = -1 := by
      unfold fv2
      rw [hp]
      rfl
    by_cases hA : B < 4
    · obtain ⟨k4, k15⟩ := v1 l hp
      have d1 := hc.2.2.2.2.1
      obtain ⟨_, -, -, v0⟩ := M_fl2 (n := n) (z := z) (j := j) (r := r) hD hv1.1.1 hN hb
      obtain ⟨hK, hK1, -, -, hok⟩ := v0 l hp
      obtain ⟨f, hf, e3⟩ := C_kPlan (z := z) (D := D) (j := j) (r := r) d1 (by omega) hA hc1.1.2.2.2.2.1.1 hK k4
      generalize hm3 : wI (wI (uM m1 n f) 1 1 (Int32.ofNat 0)) 0 15 (Int32.ofNat (B + 1)) = m3 at e3
      generalize hr3 : wR r 66 B (some n) = r3 at e3
      have o3 : ∀ a, a ≠ 0 → a ≠ 1 → a ≠ n → m3 a = m1 a := fun a b1 b2 b3 => by rw [← hm3, wI_ne b1, wI_ne b2, uM_n b3]
      have n3 : m3 n = f := by rw [← hm3, wI_ne (by omega), wI_ne (by omega), uM_s]
      have z3 : ∀ i, i ≠ 15 → m3 0 i = m1 0 i := fun i hi => by rw [← hm3, wI_sn hi, wI_ne (by omega), uM_n (by omega)]
      have q3 : ∀ a, a ≠ 66 → r3 a = r a := fun a ha => by rw [← hr3, wR_ne ha]
      have q3o : ∀ l, l ≠ B → r3 66 l = r 66 l := fun l hl => by rw [← hr3, wR_o hl]
      have q3s : r3 66 B = some n := by rw [← hr3, wR_s]
      have hv3 : MIv m3 j tp C P τ σ lg acts hs img σI lgI A held tx ln cls B pls dg sn sw := MI_c hv1 (fun a c1 c2 => o3 a (by omega) (by omega) (by omega)) rfl
      have hl3 := hv3.1.2.2.2.2.1
      have hD3 : ∀ a, 1000000 ≤ a → uD D n (aT l.length) a = none := fun a ha => by rw [uD_n (by omega)]; exact hD a ha
      obtain ⟨m4, e4, g4, v4⟩ := M_fl2 (n := n + 1) (z := z + l.length) (j := j) (r := r3) hD3 (TMd_0 (x := 0) hv3.1.1) hN hb
      obtain ⟨-, -, y84, y83, -⟩ := v4 l hp
      have g4 := GZ_tr GZ_0 g4
      have hv4 : MIv m4 j tp C P τ σ lg acts hs img σI lgI A held tx ln cls B pls dg sn sw := MI_g hw.2.2.2.2.2.2.1 hv3 g4
      have t137 := T137 (n := n + 1) (z := z + l.length) (D := uD D n (aT l.length)) (m := wI m4 72 6 0) (j := j) (r := wR r3 72 5 (some 73)) (B := B) (by rw [wI_sn (by omega)]; exact hv4.1.2.2.2.2.1.1) hA
      generalize hm5 : wI m4 72 6 0 = m5 at t137
      have s5 : m5 83 = m4 83 := by rw [← hm5, wI_ne (by omega)]
      have s54 : m5 84 = m4 84 := by rw [← hm5, wI_ne (by omega)]
      generalize hm6 : wI (wI (wq m5 B 48) 84 B (m5 84 4)) 72 30 (Int32.ofNat (B + 1)) = m6 at t137
      have o6 : ∀ a, a ≠ 72 → a ≠ 83 → a ≠ 84 → m6 a = m4 a := fun a b1 b2 b3 => by rw [← hm6, wI_ne b1, wI_ne b3, wq_n _ _ b2, ← hm5, wI_ne b1]
      have p6 : ∀ i, i ≠ 6 → i ≠ 30 → m6 72 i = m4 72 i := fun i b1 b2 => by rw [← hm6, wI_sn b2, wI_ne (by omega), wq_n _ _ (by omega), ← hm5, wI_sn b1]
      have x6 : m6 72 6 = Int32.ofNat 0 := by rw [← hm6, wI_sn (by omega), wI_ne (by omega), wq_n _ _ (by omega), ← hm5, wI_se]; rfl
      have E1 : f_X11_text 0 (Int32.ofNat 2) (mkH n z D m j r) = some (Int32.ofNat B, mkH (n + 1) (z + l.length) (uD D n (aT l.length)) m3 j r3) := by
        unfold f_X11_text f_X11_text_0
        refine ck_ok ?_ (by omega) (by omega)
        rw [q0.1, obs, e1, cN_mk, if_pos hfv, if_neg (by decide), if_neg (by decide), if_pos (by decide), q0.1, obs, e3, cA_mk (by omega) (by omega)]
        exact ck_ok rfl (Nat.le_refl _) (Nat.le_refl _)
      have E2 : f_X12_text 72 (Int32.ofNat 2) (mkH (n + 1) (z + l.length) (uD D n (aT l.length)) m3 j r3) = some (Int32.ofNat B, mkH (n + 1) (z + l.length) (uD D n (aT l.length)) m6 j (wR r3 72 5 (some 73))) := by
        rw [M_tx2 hl3.1 hA]
        unfold f_X12_text_43
        rw [q72.1, obs, e4, cN_mk, if_pos hfv, gI_mk (i := 6) rfl (by decide) rfl, obs, pI_mk (i := 6) rfl (by decide) rfl, obs, if_neg (by decide), if_pos (by decide), hm5]
        exact t137
      obtain ⟨w1, w2, w3, w4, w5, w6, w7, w8, w9⟩ := hw
      have hWP : WPl (B + 1) (uF pls B l) := by
        refine ⟨by omega, fun p hp => ?_⟩
        by_cases e : p = B
        · rw [e, uF_s]
          exact ⟨hK1, hK, hok⟩
        · rw [uF_n e]
          exact w7.2 p (by omega)
      have hLC : LCd (uD D n (aT l.length)) A held cls m3 r3 := by
        obtain ⟨b1, b2, b3, b4⟩ := hc1.1.2.2.2.1
        refine ⟨by rw [z3 14 (by omega)]; exact b1, by rw [z3 16 (by omega)]; exact b2, fun k hk => ?_, by rw [q3 49 (by omega), q3 61 (by omega)]; exact b4⟩
        rw [q3 61 (by omega)]
        obtain ⟨o, eo, hg⟩ := b3 k hk
        have ho := hc.2.2.2.2.2.2.2.2.1 k hk o eo
        exact ⟨o, eo, PG_fr2 hg (o3 o (by omega) (by omega) (by omega)) (uD_n (by omega))⟩
      have hPC : PLc (uD D n (aT l.length)) m3 r3 (B + 1) (uF pls B l) := by
        obtain ⟨b1, b2⟩ := hc1.1.2.2.2.2.1
        refine ⟨by rw [← hm3, wI_se], fun p hp => ?_⟩
        by_cases e : p = B
        · rw [e, uF_s]
          refine ⟨n, q3s, by rw [List.length_map]; exact SHP_uDn d1, by rw [List.length_map]; omega, d1, fun q hq => ?_⟩
          rw [List.length_map] at hq
          rw [n3, hf q hq]
          exact k15 q hq
        · rw [uF_n e, q3o p e]
          obtain ⟨o, eo, hg⟩ := b2 p (by omega)
          have ho := hc.2.2.2.2.2.2.2.2.2.1 p (by omega) o eo
          exact ⟨o, eo, PG_fr2 hg (o3 o (by omega) (by omega) (by omega)) (uD_n (by omega))⟩
      have hDW : DW (n + 1) (uD D n (aT l.length)) r3 A (B + 1) := by
        refine DW_a hc.2.2.2.2 (q3 40 (by omega)) (fun l hl o ho => ?_) (fun l hl o ho => ?_)
        · rw [q3 61 (by omega)] at ho
          exact Or.inr ⟨hl, ho⟩
        · by_cases e : l = B
          · rw [e, q3s] at ho
            cases ho
            exact Or.inl rfl
          · rw [q3o l e] at ho
            exact Or.inr ⟨by omega, ho⟩
      have hc3 : CIv (n + 1) (uD D n (aT l.length)) m3 r3 (tp.1, 0) C P τ σ lg acts lt hs img σI lgI A held cls (B + 1) (uF pls B l) dg sn sw := CI_ap (K := l.length) hc1 (fun a b1 b2 b3 b4 => o3 a b1 b2 (by omega)) (fun a b1 b2 => q3 a b2) ⟨by rw [← hm3, wI_ne (by omega), wI_se], Nat.zero_le _, fun q hq => absurd hq (Nat.not_lt_zero _)⟩ hLC hPC (z3 17 (by omega)) hDW
      have hLM : LMd A held tx ln cls m6 j := by
        have b := hv4.1.2.2.2.1
        unfold LMd LT at b ⊢
        rw [p6 7 (by omega) (by omega), p6 34 (by omega) (by omega), o6 74 (by omega) (by omega) (by omega), o6 75 (by omega) (by omega) (by omega), o6 76 (by omega) (by omega) (by omega), o6 88 (by omega) (by omega) (by omega)]
        exact b
      have hPM : PLm m6 (B + 1) (uF pls B l) := by
        obtain ⟨b1, b2⟩ := hv4.1.2.2.2.2.1
        have g83 : ∀ q, m6 83 q = wq m5 B 48 83 q := fun q => by rw [← hm6, wI_ne (by omega), wI_ne (by omega)]
        refine ⟨by rw [← hm6, wI_se], fun p hp => ?_⟩
        by_cases e : p = B
        · rw [e, uF_s]
          refine ⟨by rw [← hm6, wI_ne (by omega), wI_se, s54]; exact y84, fun i hi k hk => ?_⟩
          rw [show 3 * (16 * B + i) + k = 48 * B + (3 * i + k) by omega, g83, wq_v _ _ (by omega), s5, show 192 + (3 * i + k) = 192 + 3 * i + k by omega]
          exact y83 i k hi hk
        · rw [uF_n e]
          have b := b2 p (by omega)
          have hl := (w7.2 p (by omega)).2.1
          refine ⟨by rw [← hm6, wI_ne (by omega), wI_sn e, wq_n _ _ (by omega), s54]; exact b.1, fun i hi k hk => ?_⟩
          rw [g83, wq_o _ _ (by omega), s5]
          exact b.2 i hi k hk
      have hv6 : MIv m6 j (tp.1, 0) C P τ σ lg acts hs img σI lgI A held tx ln cls (B + 1) (uF pls B l) dg sn sw := MI_ap hv4 (fun a b1 _ _ b2 b3 => o6 a b1 b2 b3) (fun i b1 _ b2 => p6 i b1 b2) ⟨x6, fun q hq => absurd hq (Nat.not_lt_zero _)⟩ hLM hPM
      refine ⟨_, n + 1, z + l.length, uD D n (aT l.length), m3, j, r3, m6, j, wR r3 72 5 (some 73), E1, E2, ⟨by omega, by omega⟩, ⟨by omega, by omega⟩, (tp.1, 0), C, P, τ, σ, lg, acts, lt, hs, img, σI, lgI, A, held, tx, ln, cls, B + 1, uF pls B l, dg, sn, sw, ⟨w1, w2, w3, w4, w5, w6, hWP, w8, w9⟩, CI_m hc3 (fun a ha => ?_) (fun a ha => wR_ne ha), hv6⟩
      rw [o6 a (by omega) (by omega) (by omega), g4.1.1 a (by omega)]
    · have e4 : B = 4 := by omega
      refine K_ref hw hc hv (v := no1) ?_ f1 (M_tx2f (by rw [← e4]; exact hl1.1)) GZ_0
      unfold f_X11_text f_X11_text_0
      refine ck_ok ?_ (Nat.le_refl _) (Nat.le_refl _)
      rw [q0.1, obs, e1, cN_mk, if_pos hfv, if_neg (by decide), if_neg (by decide), if_pos (by decide), q0.1, obs, C_kPlan4 (by rw [← e4]; exact hc1.1.2.2.2.2.1.1), cA_mk (Nat.le_refl _) (Nat.le_refl _)]
      exact ck_ok rfl (Nat.le_refl _) (Nat.le_refl _)
theorem K_text (hw : WIv C P τ σ lg acts hs img σI lgI A held tx ln cls B pls dg sn sw) (hc : CIv n D m r tp C P τ σ lg acts lt hs img σI lgI A held cls B pls dg sn sw) (hv : MIv m j tp C P τ σ lg acts hs img σI lgI A held tx ln cls B pls dg sn sw) (hn : n + 200 ≤ 1000000) (x : Int32) : CALL n z D m j r (f_X11_text 0 x) (f_X12_text 72 x) := by
  cases him : im x 0 3 with
  | false =>
    have hh0 : ¬ x = 0 := fun e => by rw [e, show (0 : Int32) = Int32.ofNat 0 from rfl, im_k (by omega)] at him; cases him
    have hh1 : ¬ x = 1 := fun e => by rw [e, show (1 : Int32) = Int32.ofNat 1 from rfl, im_k (by omega)] at him; cases him
    have hh2 : ¬ x = 2 := fun e => by rw [e, show (2 : Int32) = Int32.ofNat 2 from rfl, im_k (by omega)] at him; cases him
    refine K_ref (m1 := m) hw hc hv (C_txf (v := no2) ?_ (by decide)) (fun _ _ => rfl) (m2 := wI m 72 0 0) (r' := r) ?_ GZ_0
    · unfold f_X11_fault f_X11_fault_0 f_X11_readerOf f_X11_readerOf_0
      rw [q0.1, obs, if_neg hh0, if_neg hh1, if_neg hh2, cN_mk]
      rfl
    · unfold f_X12_text f_X12_text_0
      rw [thr0, i64_0, i64_2, M_inK (by omega), him, cN_mk, if_pos (by decide)]
      rfl
  | true =>
    obtain ⟨k, -, hk, rfl⟩ := im_t (by omega) (by omega) him
    rcases (show k = 0 ∨ k = 1 ∨ k = 2 by omega) with rfl | rfl | rfl
    · exact K_text0 hw hc hv (by omega)
    · exact K_text1 hw hc hv hn
    · exact K_text2 hw hc hv hn
end TXP
