/-! The call that takes a text: a law, a plan. -/
def uF {α : Type} (f : Nat → α) (k : Nat) (x : α) : Nat → α := fun q => if q = k then x else f q
theorem uF_s {α : Type} {f : Nat → α} {k : Nat} {x : α} : uF f k x k = x := if_pos rfl
theorem uF_n {α : Type} {f : Nat → α} {k q : Nat} {x : α} (h : q ≠ k) : uF f k x q = f q := if_neg h
section TXL
variable {n z : Nat} {D : Dyn} {m m1 m' : MI} {j : MJ} {r r' : MR} {tp tp' : TP} {C P : Nat} {τ σ : Sg} {lg : LG} {acts lt : Nat} {hs : Nat → Sg} {img : Bool} {σI : Sg} {lgI : LG} {A A' held : Nat} {tx tx' : Nat → Nat → Nat} {ln ln' : Nat → Nat} {cls cls' : CLS} {B B' K : Nat} {pls pls' : Nat → List ST} {dg sn : Nat} {sw : Nat → Nat → Nat} {v : Int32} {k : Nat}
theorem wR_s {a i : Nat} {x : Option Nat} : wR r a i x a i = x := by
  unfold wR
  simp [va_up]
theorem wR_o {a i q : Nat} {x : Option Nat} (h : q ≠ i) : wR r a i x a q = r a q := by
  unfold wR
  simp [va_up, h]
theorem CI_ap (h : CIv n D m r tp C P τ σ lg acts lt hs img σI lgI A held cls B pls dg sn sw) (hf : ∀ a, a ≠ 0 → a ≠ 1 → ¬ (3 ≤ a ∧ a ≤ 17) → a < n → m' a = m a) (hr : ∀ a, a ≠ 61 → a ≠ 66 → r' a = r a) (t1 : TC m' tp'.1 tp'.2) (t4 : LCd (uD D n (aT K)) A' held cls' m' r') (t5 : PLc (uD D n (aT K)) m' r' B' pls') (t6 : m' 0 17 = m 0 17) (hd : DW (n + 1) (uD D n (aT K)) r' A' B') : CIv (n + 1) (uD D n (aT K)) m' r' tp' C P τ σ lg acts lt hs img σI lgI A' held cls' B' pls' dg sn sw := by
  obtain ⟨⟨h1, h2, h3, h4, h5, h6, h7⟩, h8, h9, h10, h11⟩ := h
  have d1 := h11.1
  have g : ∀ a, 18 ≤ a → a < n → m' a = m a := fun a b1 b2 => hf a (by omega) (by omega) (by omega) b2
  refine ⟨⟨t1, YC_fr h2 (fun a ha => g a (by omega) (by omega)), ⟨by rw [g 39 (by omega) (by omega)]; exact h3.1, fun hi => ⟨CS_fr (h3.2 hi).1 (fun a ha => g a (by omega) (by omega)), by rw [g 48 (by omega) (by omega)]; exact (h3.2 hi).2⟩⟩, t4, t5, by rw [t6]; exact h6, ⟨by rw [g 55 (by omega) (by omega)]; exact h7.1, by rw [g 56 (by omega) (by omega), g 57 (by omega) (by omega), g 58 (by omega) (by omega), g 59 (by omega) (by omega)]; exact h7.2⟩⟩, CS_fr h8 (fun a ha => g a (by omega) (by omega)), by rw [g 41 (by omega) (by omega)]; exact h9, ?_, hd⟩
  obtain ⟨a1, a2, a3, a4, a5⟩ := h10
  refine ⟨by rw [g 39 (by omega) (by omega)]; exact a1, by rw [g 39 (by omega) (by omega)]; exact a2, a3, a4, fun k hk => ?_⟩
  obtain ⟨⟨s, b1, b2⟩, b3⟩ := a5 k hk
  have := h11.2.2.1 _ (by unfold slt; omega) s b1
  exact ⟨⟨s, by rw [hr 40 (by omega) (by omega)]; exact b1, CS_fr b2 (fun a ha => g a (by omega) (by omega))⟩, by rw [g 41 (by omega) (by omega)]; exact b3⟩
theorem MI_ap (h : MIv m j tp C P τ σ lg acts hs img σI lgI A held tx ln cls B pls dg sn sw) (hf : ∀ a, a ≠ 72 → a ≠ 74 → a ≠ 75 → a ≠ 83 → a ≠ 84 → m' a = m a) (h72 : ∀ i, i ≠ 6 → i ≠ 7 → i ≠ 30 → m' 72 i = m 72 i) (t1 : TMd m' tp') (t4 : LMd A' held tx' ln' cls' m' j) (t5 : PLm m' B' pls') : MIv m' j tp' C P τ σ lg acts hs img σI lgI A' held tx' ln' cls' B' pls' dg sn sw := by
  obtain ⟨⟨h1, h2, h3, h4, h5, h6, h7⟩, h8, h9, h10⟩ := h
  have g : ∀ a, 85 ≤ a → m' a = m a := fun a ha => hf a (by omega) (by omega) (by omega) (by omega) (by omega)
  refine ⟨⟨t1, YM_fr h2 (hf 77 (by omega) (by omega) (by omega) (by omega) (by omega)) (hf 81 (by omega) (by omega) (by omega) (by omega) (by omega)) (h72 26 (by omega) (by omega) (by omega)) (h72 27 (by omega) (by omega) (by omega)), ⟨by rw [h72 49 (by omega) (by omega) (by omega)]; exact h3.1, by rw [g 93 (by omega)]; exact h3.2⟩, t4, t5, by rw [h72 35 (by omega) (by omega) (by omega)]; exact h6, ⟨by rw [h72 46 (by omega) (by omega) (by omega)]; exact h7.1, by rw [g 91 (by omega)]; exact h7.2⟩⟩, by rw [g 85 (by omega)]; exact h8, by rw [g 85 (by omega)]; exact h9, HM_fr h10 (h72 43 (by omega) (by omega) (by omega)) (g 90 (by omega)) (fun _ _ _ _ => rfl)⟩
theorem K_text1 (hw : WIv C P τ σ lg acts hs img σI lgI A held tx ln cls B pls dg sn sw) (hc : CIv n D m r tp C P τ σ lg acts lt hs img σI lgI A held cls B pls dg sn sw) (hv : MIv m j tp C P τ σ lg acts hs img σI lgI A held tx ln cls B pls dg sn sw) (hn : n + 200 ≤ 1000000) : CALL n z D m j r (f_X11_text 0 (Int32.ofNat 1)) (f_X12_text 72 (Int32.ofNat 1)) := by
  have hD := hD_of hc (by omega)
  obtain ⟨hN, hb⟩ := bt_of hc
  obtain ⟨m1, e1, f1, v1⟩ := C_fl1 (n := n) (z := z) (j := j) (r := r) hD hc.1.1
  have hv1 : MIv m1 j tp C P τ σ lg acts hs img σI lgI A held tx ln cls B pls dg sn sw := MI_c hv (fun a c1 c2 => f1 a (by omega)) rfl
  have hc1 : CIv n D m1 r tp C P τ σ lg acts lt hs img σI lgI A held cls B pls dg sn sw := CI_q hc (FZ_q f1)
  have hA4 : A ≤ 4 := hw.2.2.2.2.2.1.1
  have hl1 := hv1.1.2.2.2.1
  obtain ⟨L, hL⟩ := hl1.2.2.2.1
  cases hp : pLw tp.1 tp.2 300 0 with
  | inl e =>
    have hne := fe1 hD hL hv1.1.1 hN hb hp
    by_cases hA : A < 4
    · obtain ⟨m3, e3, g3, -⟩ := M_fl1 (n := n) (z := z) (j := j) (r := r) hD (L := L) (by unfold LT; rw [wI_ne (by omega)]; exact hL) (TMd_0 (x := 0) hv1.1.1) hN hb
      exact K_ref hw hc hv (C_txf e1 hne) f1 (by rw [M_tx1 hl1.1 hA]; exact M_txf e3 hne) (GZ_tr GZ_0 g3)
    · have e4 : A = 4 := by omega
      exact K_ref hw hc hv (C_txf e1 hne) f1 (M_tx1f (by rw [← e4]; exact hl1.1)) GZ_0
  | inr cl =>
    have hfv : fv1 tp.1 tp.2 = -1 := by
      unfold fv1
      rw [hp]
      rfl
    by_cases hA : A < 4
    · obtain ⟨hK, k4, k15⟩ := v1 cl hp
      have d1 := hc.2.2.2.2.1
      obtain ⟨f, hf, e3⟩ := C_kLaw (z := z) (D := D) (j := j) (r := r) d1 (by omega) hA hc1.1.2.2.2.1.1 hK k4
      generalize hm3 : wI (wI (uM m1 n f) 1 1 (Int32.ofNat 0)) 0 14 (Int32.ofNat (A + 1)) = m3 at e3
      generalize hr3 : wR r 61 A (some n) = r3 at e3
      have o3 : ∀ a, a ≠ 0 → a ≠ 1 → a ≠ n → m3 a = m1 a := fun a b1 b2 b3 => by rw [← hm3, wI_ne b1, wI_ne b2, uM_n b3]
      have n3 : m3 n = f := by rw [← hm3, wI_ne (by omega), wI_ne (by omega), uM_s]
      have z3 : ∀ i, i ≠ 14 → m3 0 i = m1 0 i := fun i hi => by rw [← hm3, wI_sn hi, wI_ne (by omega), uM_n (by omega)]
      have q3 : ∀ a, a ≠ 61 → r3 a = r a := fun a ha => by rw [← hr3, wR_ne ha]
      have q3o : ∀ l, l ≠ A → r3 61 l = r 61 l := fun l hl => by rw [← hr3, wR_o hl]
      have q3s : r3 61 A = some n := by rw [← hr3, wR_s]
      have hv3 : MIv m3 j tp C P τ σ lg acts hs img σI lgI A held tx ln cls B pls dg sn sw := MI_c hv1 (fun a c1 c2 => o3 a (by omega) (by omega) (by omega)) rfl
      have hl3 := hv3.1.2.2.2.1
      obtain ⟨L3, hL3⟩ := hl3.2.2.2.1
      have hD3 : ∀ a, 1000000 ≤ a → uD D n (aT (cdP cl).length) a = none := fun a ha => by rw [uD_n (by omega)]; exact hD a ha
      obtain ⟨m4, e4, g4, -⟩ := M_fl1 (n := n + 1) (z := z + (cdP cl).length) (j := j) (r := r3) hD3 (L := L3) (by unfold LT; rw [wI_ne (by omega)]; exact hL3) (TMd_0 (x := 0) hv3.1.1) hN hb
      have g4 := GZ_tr GZ_0 g4
      have hv4 : MIv m4 j tp C P τ σ lg acts hs img σI lgI A held tx ln cls B pls dg sn sw := MI_g hw.2.2.2.2.2.2.1 hv3 g4
      have t71 := T71 (n := n + 1) (z := z + (cdP cl).length) (D := uD D n (aT (cdP cl).length)) (m := wI m4 72 6 0) (j := j) (r := wR r3 72 5 (some 73)) (A := A) (N := tp.2) (by rw [wI_sn (by omega)]; exact hv4.1.2.2.2.1.1) hA hN
      generalize hm5 : wI m4 72 6 0 = m5 at t71
      generalize hm6 : wI (wI (wb m5 A tp.2) 75 A (Int32.ofNat tp.2)) 72 7 (Int32.ofNat (A + 1)) = m6 at t71
      have o6 : ∀ a, a ≠ 72 → a ≠ 74 → a ≠ 75 → m6 a = m4 a := fun a b1 b2 b3 => by rw [← hm6, wI_ne b1, wI_ne b3, wb_n _ _ b2, ← hm5, wI_ne b1]
      have p6 : ∀ i, i ≠ 6 → i ≠ 7 → m6 72 i = m4 72 i := fun i b1 b2 => by rw [← hm6, wI_sn b2, wI_ne (by omega), wb_n _ _ (by omega), ← hm5, wI_sn b1]
      have x6 : m6 72 6 = Int32.ofNat 0 := by rw [← hm6, wI_sn (by omega), wI_ne (by omega), wb_n _ _ (by omega), ← hm5, wI_se]; rfl
      have E1 : f_X11_text 0 (Int32.ofNat 1) (mkH n z D m j r) = some (Int32.ofNat A, mkH (n + 1) (z + (cdP cl).length) (uD D n (aT (cdP cl).length)) m3 j r3) := by
        unfold f_X11_text f_X11_text_0
        refine ck_ok ?_ (by omega) (by omega)
        rw [q0.1, obs, e1, cN_mk, if_pos hfv, if_neg (by decide), if_pos (by decide), q0.1, obs, e3, cA_mk (by omega) (by omega)]
        exact ck_ok rfl (Nat.le_refl _) (Nat.le_refl _)
      have E2 : f_X12_text 72 (Int32.ofNat 1) (mkH (n + 1) (z + (cdP cl).length) (uD D n (aT (cdP cl).length)) m3 j r3) = some (Int32.ofNat A, mkH (n + 1) (z + (cdP cl).length) (uD D n (aT (cdP cl).length)) m6 j (wR r3 72 5 (some 73))) := by
        rw [M_tx1 hl3.1 hA]
        unfold f_X12_text_43
        rw [q72.1, obs, e4, cN_mk, if_pos hfv, gI_mk (i := 6) rfl (by decide) rfl, obs, pI_mk (i := 6) rfl (by decide) rfl, obs, if_pos (by decide), hm5, hv4.1.1.1]
        exact t71
      have hTp : ∀ q, q < tp.2 → m5 73 q = nar 1 (Int32.ofNat (tp.1 q)) := fun q hq => by rw [← hm5, wI_ne (by omega)]; exact hv4.1.1.2 q hq
      obtain ⟨w1, w2, w3, w4, w5, w6, w7, w8, w9⟩ := hw
      have hW6 : WL (A + 1) held (uF tx A tp.1) (uF ln A tp.2) (uF cls A cl) := by
        refine ⟨by omega, by have := w6.2.1; omega, fun l hl => ?_⟩
        by_cases e : l = A
        · rw [e, uF_s, uF_s, uF_s]
          exact ⟨hN, hb, hp⟩
        · rw [uF_n e, uF_n e, uF_n e]
          exact w6.2.2 l (by omega)
      have hLC : LCd (uD D n (aT (cdP cl).length)) (A + 1) held (uF cls A cl) m3 r3 := by
        obtain ⟨b1, b2, b3, b4⟩ := hc1.1.2.2.2.1
        refine ⟨by rw [← hm3, wI_se], by rw [z3 16 (by omega)]; exact b2, fun l hl => ?_, ?_⟩
        · by_cases e : l = A
          · rw [e, uF_s]
            refine ⟨n, q3s, SHP_uDn d1, hK, d1, fun q hq => ?_⟩
            rw [n3, hf q hq]
            exact k15 q hq
          · rw [uF_n e, q3o l e]
            obtain ⟨o, eo, hg⟩ := b3 l (by omega)
            have ho := hc.2.2.2.2.2.2.2.2.1 l (by omega) o eo
            exact ⟨o, eo, PG_fr2 hg (o3 o (by omega) (by omega) (by omega)) (uD_n (by omega))⟩
        · rw [q3 49 (by omega), b4]
          by_cases e : held = 0
          · rw [if_pos e, if_pos e]
          · rw [if_neg e, if_neg e, q3o _ (by have := w6.2.1; omega)]
      have hPC : PLc (uD D n (aT (cdP cl).length)) m3 r3 B pls := by
        obtain ⟨b1, b2⟩ := hc1.1.2.2.2.2.1
        refine ⟨by rw [z3 15 (by omega)]; exact b1, fun p hp => ?_⟩
        rw [q3 66 (by omega)]
        obtain ⟨o, eo, hg⟩ := b2 p hp
        have ho := hc.2.2.2.2.2.2.2.2.2.1 p hp o eo
        exact ⟨o, eo, PG_fr2 hg (o3 o (by omega) (by omega) (by omega)) (uD_n (by omega))⟩
      have hDW : DW (n + 1) (uD D n (aT (cdP cl).length)) r3 (A + 1) B := by
        refine DW_a hc.2.2.2.2 (q3 40 (by omega)) (fun l hl o ho => ?_) (fun l hl o ho => ?_)
        · by_cases e : l = A
          · rw [e, q3s] at ho
            cases ho
            exact Or.inl rfl
          · rw [q3o l e] at ho
            exact Or.inr ⟨by omega, ho⟩
        · rw [q3 66 (by omega)] at ho
          exact Or.inr ⟨hl, ho⟩
      have hc3 : CIv (n + 1) (uD D n (aT (cdP cl).length)) m3 r3 (tp.1, 0) C P τ σ lg acts lt hs img σI lgI (A + 1) held (uF cls A cl) B pls dg sn sw := CI_ap (K := (cdP cl).length) hc1 (fun a b1 b2 b3 b4 => o3 a b1 b2 (by omega)) (fun a b1 b2 => q3 a b1) ⟨by rw [← hm3, wI_ne (by omega), wI_se], Nat.zero_le _, fun q hq => absurd hq (Nat.not_lt_zero _)⟩ hLC hPC (z3 17 (by omega)) hDW
      have hLM : LMd (A + 1) held (uF tx A tp.1) (uF ln A tp.2) (uF cls A cl) m6 j := by
        obtain ⟨b1, b2, b3, b4, b5⟩ := hv4.1.2.2.2.1
        refine ⟨by rw [← hm6, wI_se], by rw [p6 34 (by omega) (by omega)]; exact b2, fun l hl => ?_, ?_, fun p hp => ?_⟩
        · by_cases e : l = A
          · rw [e, uF_s, uF_s]
            refine ⟨by rw [← hm6, wI_ne (by omega), wI_se], fun q hq => ?_⟩
            rw [← hm6, wI_ne (by omega), wI_ne (by omega), wb_v _ _ hq, hTp q hq]
            exact nar_nar
          · rw [uF_n e, uF_n e]
            have := b3 l (by omega)
            have hln := (w6.2.2 l (by omega)).1
            refine ⟨by rw [← hm6, wI_ne (by omega), wI_sn e, wb_n _ _ (by omega), ← hm5, wI_ne (by omega)]; exact this.1, fun q hq => ?_⟩
            rw [← hm6, wI_ne (by omega), wI_ne (by omega), wb_o _ _ (by omega), ← hm5, wI_ne (by omega)]
            exact this.2 q hq
        · obtain ⟨L', hL'⟩ := b4
          refine ⟨L', ?_⟩
          unfold LT at hL' ⊢
          rw [o6 76 (by omega) (by omega) (by omega)]
          exact hL'
        · rcases b5 p hp with h0 | ⟨l, mt, g, w, s, t, d, u1, u2, u3, u4, u5, u6, u7, u8, u9⟩
          · exact Or.inl h0
          · refine Or.inr ⟨l, mt, g, w, s, t, d, by omega, u2, u3, u4, u5, u6, u7, u8, ?_⟩
            rw [o6 88 (by omega) (by omega) (by omega), uF_n (by omega)]
            exact u9
      have hPM : PLm m6 B pls := by
        have b := hv4.1.2.2.2.2.1
        unfold PLm at b ⊢
        rw [p6 30 (by omega) (by omega), o6 83 (by omega) (by omega) (by omega), o6 84 (by omega) (by omega) (by omega)]
        exact b
      have hv6 : MIv m6 j (tp.1, 0) C P τ σ lg acts hs img σI lgI (A + 1) held (uF tx A tp.1) (uF ln A tp.2) (uF cls A cl) B pls dg sn sw := MI_ap hv4 (fun a b1 b2 b3 _ _ => o6 a b1 b2 b3) (fun i b1 b2 _ => p6 i b1 b2) ⟨x6, fun q hq => absurd hq (Nat.not_lt_zero _)⟩ hLM hPM
      refine ⟨_, n + 1, z + (cdP cl).length, uD D n (aT (cdP cl).length), m3, j, r3, m6, j, wR r3 72 5 (some 73), E1, E2, ⟨by omega, by omega⟩, ⟨by omega, by omega⟩, (tp.1, 0), C, P, τ, σ, lg, acts, lt, hs, img, σI, lgI, A + 1, held, uF tx A tp.1, uF ln A tp.2, uF cls A cl, B, pls, dg, sn, sw, ⟨w1, w2, w3, w4, w5, hW6, w7, w8, w9⟩, CI_m hc3 (fun a ha => ?_) (fun a ha => wR_ne ha), hv6⟩
      rw [o6 a (by omega) (by omega) (by omega), g4.1.1 a (by omega)]
    · have e4 : A = 4 := by omega
      refine K_ref hw hc hv (v := no1) ?_ f1 (M_tx1f (by rw [← e4]; exact hl1.1)) GZ_0
      unfold f_X11_text f_X11_text_0
      refine ck_ok ?_ (Nat.le_refl _) (Nat.le_refl _)
      rw [q0.1, obs, e1, cN_mk, if_pos hfv, if_neg (by decide), if_pos (by decide), q0.1, obs, C_kLaw4 (by rw [← e4]; exact hc1.1.2.2.2.1.1), cA_mk (Nat.le_refl _) (Nat.le_refl _)]
      exact ck_ok rfl (Nat.le_refl _) (Nat.le_refl _)
end TXL
