/-! The class's day, whole. -/
section CDAYB
variable {n z : Nat} {D : Dyn} {m : MI} {j : MJ} {r : MR} {pl : Pl} {LC : MI → MR → Prop} {C P : Nat} {τ σ : Sg} {s p c : Nat}
theorem C_play38 (hL : LCok n z D pl LC) (hs : s = 27 ∨ s = 33) (hW : WY C P τ) (hS : WS C P 1999 σ) {N : Nat} (hN : N ≤ P) : ∀ (rem p fuel : Nat) (m : MI), rem < fuel → p + rem = N → LC m r → YC m C P τ → CS m s σ C P → EN m pl τ σ C P → m 52 5 = Int32.ofNat (dy pl C τ σ p).1 → m 52 3 = Int32.ofNat (dy pl C τ σ p).2.1 → m 52 4 = Int32.ofNat (dy pl C τ σ p).2.2 → (∀ i, i < 6 → m 53 i = pr (if i < p then ax pl C τ σ i else 0)) →
    ∃ m', f_X6_play_38 fuel 52 s (Int32.ofNat N) (Int32.ofNat p) (mkH n z D m j r) = some ((), mkH n z D m' j r) ∧ FC m m' ∧ EN m' pl τ σ C P ∧ m' 52 5 = Int32.ofNat (dy pl C τ σ N).1 ∧ m' 52 3 = Int32.ofNat (dy pl C τ σ N).2.1 ∧ m' 52 4 = Int32.ofNat (dy pl C τ σ N).2.2 ∧ (∀ i, i < 6 → m' 53 i = pr (if i < N then ax pl C τ σ i else 0)) := by
  have hP := hW.2.1
  have hC := hW.1
  have hSt : isSt D s := stOf hs
  intro rem
  induction rem with
  | zero =>
    intro p fuel m hf hp hl hY hM hE h5 h3 h4 h53
    obtain ⟨f, rfl⟩ : ∃ f, fuel = f + 1 := ⟨fuel - 1, by omega⟩
    have : p = N := by omega
    subst this
    refine ⟨m, ?_, FC_refl, hE, h5, h3, h4, h53⟩
    rw [f_X6_play_38.eq_2]
    simp (disch := omega) only [i_le]
    rw [if_pos (by omega)]
  | succ rem ih =>
    intro p fuel m hf hp hl hY hM hE h5 h3 h4 h53
    obtain ⟨f, rfl⟩ : ∃ f, fuel = f + 1 := ⟨fuel - 1, by omega⟩
    have hpP : p < P := by omega
    have h2 := hW.2.2.1 (by omega)
    have dl := dy_lt (pl := pl) (σ := σ) hW p (by omega)
    have s2 := hS.2.1 p hpP
    have hwl := wln_lt (C := C) (τ := τ) (p := p) (w := σ 4 p) h2
    have e := hY.2.2.2.2 p hpP
    have mp := hM.2.1 p hpP
    obtain ⟨m1, e1, f1, hE1, a1, a2, a3, a4⟩ := C_play77 (n := n) (z := z) (D := D) (j := j) (r := r) hL hs hW hS hpP (y := σ 4 p) (tk := (dy pl C τ σ p).2.1) s2.2.2 rfl (f_X6_play_38 f) (Int32.ofNat N) (wln C τ p (σ 4 p)) 0 fu (dy pl C τ σ p).1 (dy pl C τ σ p).2.2 m (by unfold fu; omega) (by omega) hl hY hM hE dl.1 (by omega) h5 h3 h4 (by rw [h53 p (by omega)]; simp [pr])
    have hax : (wk pl C τ σ p (σ 4 p) (wln C τ p (σ 4 p)) (0 + 1) (dy pl C τ σ p).1 (dy pl C τ σ p).2.2).2.2 = ax pl C τ σ p := rfl
    rw [hax] at a2 a4
    rw [crn_0 hW hpP] at e1
    obtain ⟨m2, e2, f2, hE2, b1, b2, b3, b4⟩ := ih (p + 1) f m1 (by omega) (by omega) (hL.2.1 m m1 r hl (fun a ha => f1 a (by omega))) (YC_fr hY (fun a ha => f1 a (by omega))) (CS_fr hM (fun a ha => f1 a (by omega))) hE1 a1 a2 a3 (fun i hi => by
      rw [a4]
      by_cases h0 : ax pl C τ σ p = 0
      · rw [if_pos h0, h53 i hi]
        by_cases hip : i = p
        · subst hip; simp [h0]
        · by_cases hlt : i < p
          · rw [if_pos hlt, if_pos (by omega)]
          · rw [if_neg hlt, if_neg (by omega)]
      · rw [if_neg h0]
        by_cases hip : i = p
        · subst hip
          simp [upd, pr, h0]
        · simp only [upd, hip, if_false]
          rw [h53 i hi]
          by_cases hlt : i < p
          · rw [if_pos hlt, if_pos (by omega)]
          · rw [if_neg hlt, if_neg (by omega)])
    refine ⟨m2, ?_, FC_tr f1 f2, hE2, b1, b2, b3, b4⟩
    rw [f_X6_play_38.eq_2]
    simp (disch := omega) only [i_le, obs, cN_mk, ite_true, ite_false, if_true, if_false, q52, q18, p24, e, stg hSt, sta hSt, mp, C_walkLength hW hY hpP s2.2.2, l0, e1, e2]
    rw [if_neg (by omega)]
theorem J_fill {a N : Nat} {x : Int32} (hs : SHP D a = some (aT N)) (hN : N ≤ 1000) : ∃ m', f_J7_fill_53178 a x (mkH n z D m j r) = some ((), mkH n z D m' j r) ∧ (∀ b, b ≠ a → m' b = m b) ∧ (∀ i, m' a i = if i < N then x else m a i) := by
  have lp : ∀ (rem k fuel : Nat) (m : MI), rem < fuel → k + rem = N → ∃ m', f_J7_fill_53178_5 fuel a x (Int32.ofNat k) (Int32.ofNat N) (mkH n z D m j r) = some ((), mkH n z D m' j r) ∧ (∀ b, b ≠ a → m' b = m b) ∧ (∀ i, m' a i = if k ≤ i ∧ i < N then x else m a i) := by
    intro rem
    induction rem with
    | zero =>
      intro k fuel m hf hk
      obtain ⟨f, rfl⟩ : ∃ f, fuel = f + 1 := ⟨fuel - 1, by omega⟩
      refine ⟨m, ?_, fun _ _ => rfl, fun i => by rw [if_neg (by omega)]⟩
      rw [f_J7_fill_53178_5.eq_2]
      simp (disch := omega) only [i_le]
      rw [if_pos (by omega)]
    | succ rem ih =>
      intro k fuel m hf hk
      obtain ⟨f, rfl⟩ : ∃ f, fuel = f + 1 := ⟨fuel - 1, by omega⟩
      obtain ⟨m', e, h1, h2⟩ := ih (k + 1) f (wI m a k x) (by omega) (by omega)
      refine ⟨m', ?_, fun b hb => by rw [h1 b hb, wI_ne hb], fun i => ?_⟩
      · rw [f_J7_fill_53178_5.eq_2]
        have hu : uI 0 (mkH n z D m j r) a (Int32.ofNat k) x = some (mkH n z D (wI m a k x) j r) := uIk hs (by decide) (by omega) (by omega)
        simp (disch := omega) only [i_le, hu, obs, cN_mk, ite_true, ite_false, if_true, if_false, l1, i_add, e]
        rw [if_neg (by omega)]
      · rw [h2]
        by_cases h : i = k
        · subst h
          rw [if_neg (by omega), if_pos (by omega), wI_se]
        · rw [wI_sn h]
          by_cases h' : k ≤ i ∧ i < N
          · rw [if_pos h', if_pos (by omega)]
          · rw [if_neg h', if_neg (by omega)]
  obtain ⟨m', e, h1, h2⟩ := lp N 0 fu m (by unfold fu; omega) (by omega)
  refine ⟨m', ?_, h1, fun i => by rw [h2]; simp⟩
  unfold f_J7_fill_53178 f_J7_fill_53178_0
  have hl : aLen (mkH n z D m j r) a = some (Int32.ofNat N) := aLen_mk hs (by decide)
  simp (disch := omega) only [hl, obs, cN_mk, ite_true, ite_false, if_true, if_false, l0, e]
/-- the whole day is played -/
theorem C_play (hL : LCok n z D pl LC) (hl : LC m r) (hs : s = 27 ∨ s = 33) (hW : WY C P τ) (hS : WS C P 1999 σ) (hY : YC m C P τ) (hM : CS m s σ C P) {N kn : Nat} (hN : N ≤ P) (hk : kn ≤ 1) (hE : kn = 1 → EN m pl τ σ C P) :
    ∃ m', f_X6_play 52 s (Int32.ofNat N) (Int32.ofNat kn) (mkH n z D m j r) = some ((), mkH n z D m' j r) ∧ FC m m' ∧ EN m' pl τ σ C P ∧ m' 52 5 = Int32.ofNat (dy pl C τ σ N).1 ∧ m' 52 3 = Int32.ofNat (dy pl C τ σ N).2.1 ∧ m' 52 4 = Int32.ofNat (dy pl C τ σ N).2.2 ∧ (∀ i, i < 6 → m' 53 i = pr (if i < N then ax pl C τ σ i else 0)) := by
  have hP := hW.2.1
  have hC := hW.1
  have main : ∀ m : MI, LC m r → YC m C P τ → CS m s σ C P → EN m pl τ σ C P → ∃ m', f_X6_play_12 52 s (Int32.ofNat N) (mkH n z D m j r) = some ((), mkH n z D m' j r) ∧ FC m m' ∧ EN m' pl τ σ C P ∧ m' 52 5 = Int32.ofNat (dy pl C τ σ N).1 ∧ m' 52 3 = Int32.ofNat (dy pl C τ σ N).2.1 ∧ m' 52 4 = Int32.ofNat (dy pl C τ σ N).2.2 ∧ (∀ i, i < 6 → m' 53 i = pr (if i < N then ax pl C τ σ i else 0)) := by
    intro m hl hY hM hE
    obtain ⟨m1, e1, b1, b2⟩ := J_fill (n := n) (z := z) (D := D) (m := m) (j := j) (r := r) (a := 53) (N := 6) (x := no1) rfl (by omega)
    generalize hm2 : wI (wI (wI m1 52 3 (Int32.ofNat 0)) 52 4 (Int32.ofNat 0)) 52 5 (Int32.ofNat 0) = m2
    have fr : FC m m2 := fun a ha => by
      rw [← hm2, wI_ne (by omega), wI_ne (by omega), wI_ne (by omega), b1 a (by omega)]
    have hE2 : EN m2 pl τ σ C P := by
      unfold EN
      rw [← hm2, wI_ne (by omega), wI_ne (by omega), wI_ne (by omega), b1 54 (by omega)]
      exact hE
    obtain ⟨m3, e3, f3, hE3, a1, a2, a3, a4⟩ := C_play38 (n := n) (z := z) (D := D) (j := j) (r := r) hL hs hW hS hN N 0 fu m2 (by unfold fu; omega) (by omega) (hL.2.1 m m2 r hl (fun a ha => fr a (by omega))) (YC_fr hY (fun a ha => fr a (by omega))) (CS_fr hM (fun a ha => fr a (by omega))) hE2 (by rw [← hm2, wI_se]; rfl) (by rw [← hm2]; simp (disch := omega) only [wI_sn, wI_se]; rfl) (by rw [← hm2]; simp (disch := omega) only [wI_sn, wI_se]; rfl) (fun i hi => by rw [← hm2, wI_ne (by omega), wI_ne (by omega), wI_ne (by omega), b2, if_pos hi]; simp [pr])
    refine ⟨m3, ?_, FC_tr fr f3, hE3, a1, a2, a3, a4⟩
    unfold f_X6_play_12
    simp (disch := omega) only [obs, cN_mk, ite_true, ite_false, if_true, if_false, q52, l1, no1_e, e1, l0, hm2, e3]
  unfold f_X6_play f_X6_play_0
  simp (disch := omega) only [l0, i_inj]
  by_cases h0 : kn = 0
  · rw [if_pos h0]
    obtain ⟨m1, e1, b1, b2⟩ := J_fill (n := n) (z := z) (D := D) (m := m) (j := j) (r := r) (a := 54) (N := 60) (x := Int32.ofNat 0) rfl (by omega)
    have fr : FC m m1 := fun a ha => b1 a (by omega)
    obtain ⟨m3, e3, f3, rest⟩ := main m1 (hL.2.1 m m1 r hl (fun a ha => fr a (by omega))) (YC_fr hY (fun a ha => fr a (by omega))) (CS_fr hM (fun a ha => fr a (by omega))) (fun p c mt hp hc hmt => Or.inl (by rw [b2, if_pos (by omega)]))
    refine ⟨m3, ?_, FC_tr fr f3, rest⟩
    simp (disch := omega) only [obs, cN_mk, ite_true, ite_false, if_true, if_false, q52, e1, e3]
  · rw [if_neg h0]
    exact main m hl hY hM (hE (by omega))
/-- the state of the class when the first q are settled -/
def stl (at_ : Nat → Nat) (σ : Sg) (q : Nat) : Sg := wry at_ (cur at_ σ q) q
theorem stl_e {at_ : Nat → Nat} {q : Nat} (h0 : at_ q = 0) : stl at_ σ (q + 1) = stl at_ σ q := by
  funext k i
  have hh : (i < q + 1 ∧ at_ i ≠ 0) = (i < q ∧ at_ i ≠ 0) := by
    apply propext
    constructor
    · rintro ⟨h1, h3⟩
      refine ⟨?_, h3⟩
      by_cases hi : i = q
      · rw [hi] at h3; exact absurd h0 h3
      · omega
    · rintro ⟨h1, h3⟩; exact ⟨by omega, h3⟩
  unfold stl wry cur
  simp only [usd, cns, h0, hh]
  simp
theorem C_settle2 (hs : s = 27 ∨ s = 33) (hW : WY C P τ) (hS : WS C P 1999 σ) {at_ : Nat → Nat} (hat : ∀ q c, q < P → at_ q = c + 1 → c < C ∧ usd at_ q c = false ∧ 0 < σ 1 c) : ∀ (rem q fuel : Nat) (m : MI), rem < fuel → q + rem = P → YC m C P τ → CS m s (stl at_ σ q) C P → (∀ i, i < 6 → m 53 i = pr (if i < P then at_ i else 0)) →
    ∃ m', f_X6_settle_2 fuel 52 s (Int32.ofNat q) (mkH n z D m j r) = some ((), mkH n z D m' j r) ∧ (∀ a, ¬ (s ≤ a ∧ a ≤ s + 5) → m' a = m a) ∧ CS m' s (nxt at_ P σ) C P := by
  have hP := hW.2.1
  have hC := hW.1
  have hSt : isSt D s := stOf hs
  have s7 := hS.2.2.2.2
  intro rem
  induction rem with
  | zero =>
    intro q fuel m hf hq hY hM h53
    obtain ⟨f, rfl⟩ : ∃ f, fuel = f + 1 := ⟨fuel - 1, by omega⟩
    have : q = P := by omega
    subst this
    have e7 := hM.2.2.2.2
    have c7 : stl at_ σ q 7 0 = σ 7 0 := by simp [stl, wry, cur]
    rw [c7] at e7
    refine ⟨wI m s 7 (Int32.ofNat (σ 7 0 + 1)), ?_, fun a ha => wI_ne (by omega), ?_⟩
    · rw [f_X6_settle_2.eq_2]
      simp (disch := omega) only [obs, cN_mk, ite_true, ite_false, if_true, if_false, q52, q18, hY.2.1, i_le, stg hSt, e7, l1, i_add]
      rw [if_pos (Nat.le_refl _)]
    · obtain ⟨a1, a2, a5, a6, a7⟩ := hM
      have ek : ∀ k i, k ≠ 7 → nxt at_ q σ k i = stl at_ σ q k i := by
        intro k i hk; simp [nxt, stl, hk]
      refine ⟨fun d hd => ⟨?_, ?_⟩, fun p hp => ⟨?_, ?_, ?_⟩, ?_, ?_, ?_⟩
      · rw [wI_ne (by omega), ek _ _ (by omega)]; exact (a1 d hd).1
      · rw [wI_ne (by omega), ek _ _ (by omega)]; exact (a1 d hd).2
      · rw [wI_ne (by omega), ek _ _ (by omega)]; exact (a2 p hp).1
      · rw [wI_ne (by omega), ek _ _ (by omega)]; exact (a2 p hp).2.1
      · rw [wI_ne (by omega), ek _ _ (by omega)]; exact (a2 p hp).2.2
      · rw [wI_sn (by omega), ek _ _ (by omega)]; exact a5
      · rw [wI_sn (by omega), ek _ _ (by omega)]; exact a6
      · rw [wI_se]; simp [nxt]
  | succ rem ih =>
    intro q fuel m hf hq hY hM h53
    obtain ⟨f, rfl⟩ : ∃ f, fuel = f + 1 := ⟨fuel - 1, by omega⟩
    have hqP : q < P := by omega
    have eq := h53 q (by omega)
    rw [if_pos hqP] at eq
    by_cases h0 : at_ q = 0
    · obtain ⟨m', e', h1, h3⟩ := ih (q + 1) f m (by omega) (by omega) hY (by rw [stl_e h0]; exact hM) h53
      refine ⟨m', ?_, h1, h3⟩
      rw [f_X6_settle_2.eq_2]
      rw [h0, pr_0] at eq
      simp (disch := omega) only [obs, cN_mk, ite_true, ite_false, if_true, if_false, q52, q18, hY.2.1, i_le, p53, eq, l1, no1_e, reduceIte, f_X6_settle_92, i_add, e']
      rw [if_neg (by omega)]
    · obtain ⟨c, hc⟩ : ∃ c, at_ q = c + 1 := ⟨at_ q - 1, by omega⟩
      obtain ⟨hcC, hu, hsp⟩ := hat q c hqP hc
      rw [hc, pr_s] at eq
      have sq := hS.2.1 q hqP
      have sc := hS.1 c hcC
      have s6 := hS.2.2.2.1
      have x999 := cns_le at_ s6 q
      have v1 := (hM.1 c hcC).2
      have v2 := (hM.2.1 q hqP).1
      have v3 := (hM.2.1 q hqP).2.1
      have v6 := hM.2.2.2.1
      rw [show stl at_ σ q 1 c = σ 1 c by simp [stl, wry, cur, hu]] at v1
      rw [show stl at_ σ q 2 q = σ 2 q by simp [stl, wry, cur]] at v2
      rw [show stl at_ σ q 3 q = σ 3 q by simp [stl, wry, cur]] at v3
      rw [show stl at_ σ q 6 0 = cns at_ (σ 6 0) q by simp [stl, wry, cur]] at v6
      generalize hm2 : wI (wI (wI (wI m (s + 2) c (Int32.ofNat (σ 1 c - 1))) (s + 4) q (Int32.ofNat (min 99 (σ 3 q + 1)))) (s + 3) q (Int32.ofNat (min 9 (σ 2 q + 1)))) s 6 (Int32.ofNat (min 999 (cns at_ (σ 6 0) q + 1))) = m2
      have fr : ∀ a, ¬ (s ≤ a ∧ a ≤ s + 5) → m2 a = m a := fun a ha => by rw [← hm2, wI_ne (by omega), wI_ne (by omega), wI_ne (by omega), wI_ne (by omega)]
      have hM2 : CS m2 s (stl at_ σ (q + 1)) C P := by
        obtain ⟨a1, a2, a5, a6, a7⟩ := hM
        rw [← hm2]
        refine ⟨fun d hd => ⟨?_, ?_⟩, fun p hp => ⟨?_, ?_, ?_⟩, ?_, ?_, ?_⟩
        · simp (disch := omega) only [wI_ne]
          rw [(a1 d hd).1]; simp [stl, wry, cur]
        · simp (disch := omega) only [wI_ne]
          by_cases hd2 : d = c
          · subst hd2
            rw [wI_se]
            simp [stl, wry, cur, usd, hc]
          · rw [wI_sn hd2, (a1 d hd).2]
            simp [stl, wry, cur, usd, hc, show ¬ c = d from fun e => hd2 e.symm]
        · simp (disch := omega) only [wI_ne]
          by_cases hp2 : p = q
          · subst hp2
            rw [wI_se]
            simp [stl, wry, cur, hc]
          · rw [wI_sn hp2, wI_ne (by omega), wI_ne (by omega), (a2 p hp).1]
            have : (p < q + 1 ∧ at_ p ≠ 0) = (p < q ∧ at_ p ≠ 0) := by
              apply propext
              constructor
              · rintro ⟨h1, h2⟩; exact ⟨by omega, h2⟩
              · rintro ⟨h1, h2⟩; exact ⟨by omega, h2⟩
            simp [stl, wry, cur, this]
        · simp (disch := omega) only [wI_ne]
          by_cases hp2 : p = q
          · subst hp2
            rw [wI_se]
            simp [stl, wry, cur, hc]
          · rw [wI_sn hp2, wI_ne (by omega), (a2 p hp).2.1]
            have : (p < q + 1 ∧ at_ p ≠ 0) = (p < q ∧ at_ p ≠ 0) := by
              apply propext
              constructor
              · rintro ⟨h1, h2⟩; exact ⟨by omega, h2⟩
              · rintro ⟨h1, h2⟩; exact ⟨by omega, h2⟩
            simp [stl, wry, cur, this]
        · simp (disch := omega) only [wI_ne]
          rw [(a2 p hp).2.2]; simp [stl, wry, cur]
        · rw [wI_sn (by omega)]
          simp (disch := omega) only [wI_ne]
          rw [a5]; simp [stl, wry, cur]
        · rw [wI_se]
          simp [stl, wry, cur, cns, hc]
        · rw [wI_sn (by omega)]
          simp (disch := omega) only [wI_ne]
          rw [a7]; simp [stl, wry, cur]
      obtain ⟨m', e', h1, h3⟩ := ih (q + 1) f m2 (by omega) (by omega) (YC_fr hY (fun a ha => fr a (by omega))) hM2 (by rw [fr 53 (by omega)]; exact h53)
      refine ⟨m', ?_, fun a ha => by rw [h1 a ha, fr a ha], h3⟩
      rw [f_X6_settle_2.eq_2]
      simp (disch := omega) only [obs, cN_mk, ite_true, ite_false, if_true, if_false, q52, q18, hY.2.1, i_le, p53, eq, l1, l9, l99, l999, no1_e, no1_ne, reduceIte, stg hSt, sta hSt, stu hSt, v1, i_sub, wI_ne, v2, v3, v6, i_add, J_min, hm2, f_X6_settle_92, e']
      rw [if_neg (by omega)]
theorem C_settle (hs : s = 27 ∨ s = 33) (hW : WY C P τ) (hS : WS C P 1999 σ) (hY : YC m C P τ) (hM : CS m s σ C P) (h53 : ∀ i, i < 6 → m 53 i = pr (if i < P then ax pl C τ σ i else 0)) : ∃ m', f_X6_settle 52 s (mkH n z D m j r) = some ((), mkH n z D m' j r) ∧ (∀ a, ¬ (s ≤ a ∧ a ≤ s + 5) → m' a = m a) ∧ CS m' s (nxt (ax pl C τ σ) P σ) C P := by
  have e0 : stl (ax pl C τ σ) σ 0 = σ ∨ CS m s (stl (ax pl C τ σ) σ 0) C P := by
    right
    obtain ⟨a1, a2, a5, a6, a7⟩ := hM
    refine ⟨fun c hc => ⟨?_, ?_⟩, fun p hp => ⟨?_, ?_, ?_⟩, ?_, ?_, ?_⟩
    · rw [(a1 c hc).1]; simp [stl, wry, cur]
    · rw [(a1 c hc).2]; simp [stl, wry, cur, usd]
    · rw [(a2 p hp).1]; simp [stl, wry, cur]
    · rw [(a2 p hp).2.1]; simp [stl, wry, cur]
    · rw [(a2 p hp).2.2]; simp [stl, wry, cur]
    · rw [a5]; simp [stl, wry, cur]
    · rw [a6]; simp [stl, wry, cur, cns]
    · rw [a7]; simp [stl, wry, cur]
  have hM0 : CS m s (stl (ax pl C τ σ) σ 0) C P := by
    rcases e0 with e | e
    · rw [e]; exact hM
    · exact e
  have hP := hW.2.1
  obtain ⟨m', e, h1, h2⟩ := C_settle2 (n := n) (z := z) (D := D) (j := j) (r := r) hs hW hS (at_ := ax pl C τ σ) (fun q c hq hc => ⟨by have := ax_le (pl := pl) (σ := σ) hW hq; omega, ax_usd hc⟩) P 0 fu m (by unfold fu; omega) (by omega) hY hM0 h53
  exact ⟨m', by unfold f_X6_settle f_X6_settle_0; simp (disch := omega) only [l0, e], h1, h2⟩
end CDAYB
