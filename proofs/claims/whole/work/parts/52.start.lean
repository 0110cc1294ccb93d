/-! The law's start: what the tables and the Statement's premises give. -/
theorem fin_ch {α : Type} {P : Nat → α → Prop} (n : Nat) (d : α) (h : ∀ i, i < n → ∃ x, P i x) : ∃ f : Nat → α, ∀ i, i < n → P i (f i) := by
  refine ⟨fun i => if hi : i < n then Classical.choose (h i hi) else d, fun i hi => ?_⟩
  simp only [hi, dif_pos]
  exact Classical.choose_spec (h i hi)
theorem ev_eq {args : Array Value} {s : State} {t u : Term} {a : Nat} (h : (Cond.eq t u).before args s = true) (ht : t.eval args s none [] s = some (.ref a)) : u.eval args s none [] s = some (.ref a) := by
  cases hv : u.eval args s none [] s with
  | none => simp [Cond.before, Cond.holds, Cond.value, ht, hv] at h
  | some w =>
    simp only [Cond.before, Cond.holds, Cond.value, ht, hv] at h
    cases w <;> simp_all
def arrTm (n : String) : Term := .static "TrapCorner$CityReader" n "[I"
def arrW (q : String × List Int32) : List Cond := .arrayOf (arrTm q.1) .int :: .eq (.length (arrTm q.1)) (.int (Int32.ofNat q.2.length)) :: (List.range q.2.length).map (fun j => .eq (.elem (arrTm q.1) (.int (Int32.ofNat j))) (.int (q.2.getD j 0)))
abbrev PRE : Cond := Jvm.Cond.and given_1 narrow_1
theorem arrW_ok : ∀ q ∈ sarrT, ∀ w ∈ arrW q, w ∈ flatC PRE := by decide +kernel
theorem arrL_ok : ∀ q ∈ sarrT, Cond.laysStatic "TrapCorner$CityReader" q.1 "[I" ∈ lw_tbl := by decide +kernel
def strK : List (String × Nat) := [("TrapCorner$CityReader", 75), ("TrapCorner$CityReader", 87), ("TrapCorner$CityReader", 101), ("TrapCorner$LawReader", 77), ("TrapCorner$PlanReader", 47), ("TrapCornerModel", 26), ("TrapCorner", 199)]
def strTm (i : Nat) : Term := .string (strK.getD i ("", 0)).1 (strK.getD i ("", 0)).2
def strLn : List Nat := strT.map List.length
theorem str_ex : ∀ i ∈ List.range 7, Cond.exactly (strTm i) "java/lang/String" ∈ flatC PRE ∧ Cond.eq (.field (strTm i) "java/lang/String" "coder" "B") (.int 0) ∈ flatC PRE ∧ Cond.arrayOf (.field (strTm i) "java/lang/String" "value" "[B") .byte ∈ flatC PRE ∧ Cond.eq (.length (.field (strTm i) "java/lang/String" "value" "[B")) (.int (Int32.ofNat (strLn.getD i 0))) ∈ flatC PRE := by decide +kernel
theorem str_el : ∀ i ∈ List.range 7, ∀ j ∈ List.range (strLn.getD i 0), Cond.eq (.elem (.field (strTm i) "java/lang/String" "value" "[B") (.int (Int32.ofNat j))) (.int ((strT.getD i []).getD j 0)) ∈ flatC PRE := by decide +kernel
theorem str_ne : ∀ i ∈ List.range 7, ∀ j ∈ List.range 7, i ≠ j → (Cond.not (Cond.eq (strTm i) (strTm j)) ∈ flatC PRE ∨ Cond.not (Cond.eq (strTm j) (strTm i)) ∈ flatC PRE) := by decide +kernel
theorem str_rf : ∀ q ∈ strR, Cond.stringRef q.1 q.2.1 q.2.2.1 ∈ lw_tbl ∧ q.2.2.2 < 7 ∧ (strTm q.2.2.2 = .string q.1 q.2.1 ∨ Cond.eq (strTm q.2.2.2) (.string q.1 q.2.1) ∈ flatC PRE) := by decide +kernel
theorem soft_ok : (∀ y ∈ softD, Cond.declares y ∈ lw_tbl) ∧ (∀ q ∈ softM, Cond.methodLinkNest q.1 q.2.1 q.2.2 "TrapCorner" ∈ lw_tbl) ∧ (∀ q ∈ softC, Cond.castable q.1 q.2 ∈ lw_tbl) ∧ Cond.arrayOver (.object "TrapCorner$State") ∈ lw_tbl ∧ Cond.arrayOver (.array .int) ∈ lw_tbl ∧ (∀ y ∈ softT, Cond.declares y ∈ lw_tbl) ∧ Cond.castable "java/util/NoSuchElementException" "java/util/NoSuchElementException" ∈ lw_tbl := by decide +kernel
theorem stat_ok : Cond.laysStatic "java/lang/String" "COMPACT_STRINGS" "Z" ∈ lw_tbl ∧ Cond.initialized "java/lang/String" ∈ lw_tbl ∧ Cond.eq (.static "java/lang/String" "COMPACT_STRINGS" "Z") (.int 1) ∈ flatC PRE ∧ Cond.laysStatic "jdk/internal/util/Preconditions" "SIOOBE_FORMATTER" "Ljava/util/function/BiFunction;" ∈ lw_tbl ∧ Cond.initialized "jdk/internal/util/Preconditions" ∈ lw_tbl ∧ Cond.isRef (.static "jdk/internal/util/Preconditions" "SIOOBE_FORMATTER" "Ljava/util/function/BiFunction;") ∈ flatC PRE := by decide +kernel
theorem thr_ok : Cond.laysStatic Bundle.tN "UNASSIGNED_STACK" Bundle.steD ∈ lw_tbl ∧ Cond.laysStatic Bundle.tN "SUPPRESSED_SENTINEL" Bundle.listD ∈ lw_tbl ∧ Cond.initialized Bundle.tN ∈ lw_tbl ∧ Cond.isRef (.static Bundle.tN "UNASSIGNED_STACK" Bundle.steD) ∈ flatC PRE ∧ Cond.isRef (.static Bundle.tN "SUPPRESSED_SENTINEL" Bundle.listD) ∈ flatC PRE ∧ Cond.initialized "TrapCorner$CityReader" ∈ lw_tbl := by decide +kernel

set_option maxHeartbeats 4000000 in
theorem start_SX {p : Program} {s : State} {m : MethodId} {meth : Method} {c : Code} {b L : Nat} {xs : Nat → Int32} (C0 : lw_At p s m meth c b L xs) : ∃ g : GG, g.2.2.2 = s.heap.size ∧ SX g s s.heap := by
  obtain ⟨-, -, -, -, -, hts, -, -, -, hpre⟩ := C0
  have hfl := flat_of_before _ hpre
  have hT : ∀ w ∈ TB, w.before #[Value.ref b] s = true := fun w hw => hts w (List.mem_filter.mp hw).1
  have hcl : ∀ c, c < 13 → ∃ z : ClassId × (Nat → Nat), ∀ q, classes[c]? = some q → u_Kn s q.1 q.2.1 q.2.2 z.1 z.2 := by
    intro c hc
    rcases (show c = 0 ∨ c = 1 ∨ c = 2 ∨ c = 3 ∨ c = 4 ∨ c = 5 ∨ c = 6 ∨ c = 7 ∨ c = 8 ∨ c = 9 ∨ c = 10 ∨ c = 11 ∨ c = 12 by omega) with rfl | rfl | rfl | rfl | rfl | rfl | rfl | rfl | rfl | rfl | rfl | rfl | rfl
    · obtain ⟨cC, iS, hk⟩ := u_known hT ckw_0 (hT _ tw_54)
      exact ⟨(cC, iS), fun q hq => by cases hq; exact hk⟩
    · obtain ⟨cC, iS, hk⟩ := u_known hT ckw_1 (hT _ tw_242)
      exact ⟨(cC, iS), fun q hq => by cases hq; exact hk⟩
    · obtain ⟨cC, iS, hk⟩ := u_known hT ckw_2 (hT _ tw_161)
      exact ⟨(cC, iS), fun q hq => by cases hq; exact hk⟩
    · obtain ⟨cC, iS, hk⟩ := u_known hT ckw_3 (hT _ tw_177)
      exact ⟨(cC, iS), fun q hq => by cases hq; exact hk⟩
    · obtain ⟨cC, iS, hk⟩ := u_known hT ckw_4 (hT _ tw_275)
      exact ⟨(cC, iS), fun q hq => by cases hq; exact hk⟩
    · obtain ⟨cC, iS, hk⟩ := u_known hT ckw_9 (hT _ tw_36)
      exact ⟨(cC, iS), fun q hq => by cases hq; exact hk⟩
    · obtain ⟨cC, iS, hk⟩ := u_known hT ckw_6 (hT _ tw_295)
      exact ⟨(cC, iS), fun q hq => by cases hq; exact hk⟩
    · obtain ⟨cC, iS, hk⟩ := u_known hT ckw_7 (hT _ tw_326)
      exact ⟨(cC, iS), fun q hq => by cases hq; exact hk⟩
    · obtain ⟨cC, iS, hk⟩ := u_known hT ckw_8 (hT _ tw_195)
      exact ⟨(cC, iS), fun q hq => by cases hq; exact hk⟩
    · obtain ⟨cC, iS, hk⟩ := u_known hT ckw_9 (hT _ tw_36)
      exact ⟨(cC, iS), fun q hq => by cases hq; exact hk⟩
    · obtain ⟨cC, iS, hk⟩ := u_known hT ckw_10 (hT _ tw_63)
      exact ⟨(cC, iS), fun q hq => by cases hq; exact hk⟩
    · obtain ⟨cC, iS, hk⟩ := u_known hT ckw_11 (hT _ tw_28)
      exact ⟨(cC, iS), fun q hq => by cases hq; exact hk⟩
    · obtain ⟨cC, iS, hk⟩ := u_known hT ckw_12 (hT _ tw_1280)
      exact ⟨(cC, iS), fun q hq => by cases hq; exact hk⟩
  obtain ⟨D, hD⟩ := fin_ch 13 (0, fun _ => 0) hcl
  have hAO : va_AO "TrapCorner$State" s := va_AO.of (hts _ soft_ok.2.2.2.1)
  have hAI : AOI s := hts _ soft_ok.2.2.2.2.1
  have har : ∀ t, t < 6 → ∃ cA : ClassId, ∀ ty, [FieldType.int, .byte, .long, .boolean, .object "TrapCorner$State", .array .int][t]? = some ty → ArrOfT s cA ty ∧ va_RA s cA ty := by
    intro t ht
    rcases (show t = 0 ∨ t = 1 ∨ t = 2 ∨ t = 3 ∨ t = 4 ∨ t = 5 by omega) with rfl | rfl | rfl | rfl | rfl | rfl
    · obtain ⟨cB, kB, comp, h1, h2, h3⟩ := Cond.arrayClass_spec (hT _ tw_52)
      exact ⟨cB, fun ty hy => by cases hy; exact ⟨fun n z => ⟨fun k h => (by cases h), kB, h2, comp, h3⟩, h1⟩⟩
    · obtain ⟨cB, kB, comp, h1, h2, h3⟩ := Cond.arrayClass_spec (hT _ tw_726)
      exact ⟨cB, fun ty hy => by cases hy; exact ⟨fun n z => ⟨fun k h => (by cases h), kB, h2, comp, h3⟩, h1⟩⟩
    · obtain ⟨cB, kB, comp, h1, h2, h3⟩ := Cond.arrayClass_spec (hT _ tw_1438)
      exact ⟨cB, fun ty hy => by cases hy; exact ⟨fun n z => ⟨fun k h => (by cases h), kB, h2, comp, h3⟩, h1⟩⟩
    · obtain ⟨cB, kB, comp, h1, h2, h3⟩ := Cond.arrayClass_spec (hT _ tw_362)
      exact ⟨cB, fun ty hy => by cases hy; exact ⟨fun n z => ⟨fun k h => (by cases h), kB, h2, comp, h3⟩, h1⟩⟩
    · obtain ⟨comp, cA, kA, h1, h2, h3, h4, h5⟩ := Cond.arrayOver_spec hAO
      exact ⟨cA, fun ty hy => by cases hy; exact ⟨fun n z => ⟨fun k h => (by cases h), kA, h3, comp, h4⟩, ⟨kA, comp, h3, h4, h1, h5⟩⟩⟩
    · obtain ⟨comp, cA, kA, h1, h2, h3, h4, h5⟩ := aoi_spec hAI
      exact ⟨cA, fun ty hy => by cases hy; exact ⟨fun n z => ⟨fun k h => (by cases h), kA, h3, comp, h4⟩, h5⟩⟩
  obtain ⟨ar, har⟩ := fin_ch 6 0 har
  have hA0 : ∀ a : Nat, a < s.heap.size → ¬ (fun q : Nat => s.heap.size ≤ q) a := fun a h1 h2 => Nat.not_le.mpr h1 h2
  have hst : ∀ j, j < 9 → ∃ t : Nat, ∀ q, sarrT[j]? = some q → va_Z "TrapCorner$CityReader" q.1 "[I" (.ref t) (fun q => s.heap.size ≤ q) s s.heap ∧ va_T .int t q.2.length (fun i => .int (q.2.getD i 0)) (fun q => s.heap.size ≤ q) s s.heap := by
    intro j hj
    have hjl : j < sarrT.length := hj
    have hq : sarrT[j] ∈ sarrT := List.getElem_mem hjl
    have hw := arrW_ok _ hq
    obtain ⟨t, ht, hT9⟩ := va_Tof (args := #[Value.ref b]) (s := s) (tm := arrTm (sarrT[j]).1) (ty := .int) (N := (sarrT[j]).2.length) (f := fun i => .int ((sarrT[j]).2.getD i 0)) (A := fun q => s.heap.size ≤ q)
      (by have h9 : ∀ q ∈ sarrT, q.2.length < 2 ^ 31 := by decide
          exact h9 _ hq) (hfl _ (hw _ List.mem_cons_self)) (va_eqt (hfl _ (hw _ (List.mem_cons_of_mem _ List.mem_cons_self)))) (fun i hi => va_eqt (hfl _ (hw _ (List.mem_cons_of_mem _ (List.mem_cons_of_mem _ (List.mem_map.mpr ⟨i, List.mem_range.mpr hi, rfl⟩)))))) hA0
    refine ⟨t, fun q hq' => ?_⟩
    rw [List.getElem?_eq_getElem hjl] at hq'
    cases hq'
    exact ⟨va_Zof (hts _ (arrL_ok _ hq)) (hts _ thr_ok.2.2.2.2.2) ht hA0, hT9⟩
  obtain ⟨st, hst⟩ := fin_ch 9 0 hst
  obtain ⟨adK, adV, hSS, hSe⟩ := vk_Sof (args := #[Value.ref b]) (s := s) (N := 7) (tm := strTm) (len := strLn) (byt := strT) (A := fun q => s.heap.size ≤ q)
    (fun i hi => by have h9 : ∀ i ∈ List.range 7, strLn.getD i 0 < 2 ^ 31 := by decide
                    exact h9 i (List.mem_range.mpr hi))
    (fun i hi => hfl _ (str_ex i (List.mem_range.mpr hi)).1) (fun i hi => hfl _ (str_ex i (List.mem_range.mpr hi)).2.1) (fun i hi => hfl _ (str_ex i (List.mem_range.mpr hi)).2.2.1) (fun i hi => hfl _ (str_ex i (List.mem_range.mpr hi)).2.2.2)
    (fun i hi j hj => hfl _ (str_el i (List.mem_range.mpr hi) j (List.mem_range.mpr hj))) (fun i j hi hj hne => (str_ne i (List.mem_range.mpr hi) j (List.mem_range.mpr hj) hne).elim (fun h => Or.inl (hfl _ h)) (fun h => Or.inr (hfl _ h))) hA0
  refine ⟨((fun c => (D c).1, fun c => (D c).2), ar, fun k => if k < 2000000 then st (k - 1000000) else if k < 3000000 then adK (k - 2000000) else adV (k - 3000000), s.heap.size), rfl, ⟨⟨?_, ?_⟩, ?_, ⟨?_, ?_, ?_, hAO, hAI⟩, ?_, ?_, ?_, ?_⟩, ?_, ?_, ?_, ?_⟩
  · intro c q hq
    have hc : c < 13 := (List.getElem?_eq_some_iff.mp hq).1
    exact hD c hc q hq
  · intro k q hq
    have hk : k < 6 := (List.getElem?_eq_some_iff.mp hq).1
    rcases (show k = 0 ∨ k = 1 ∨ k = 2 ∨ k = 3 ∨ k = 4 ∨ k = 5 by omega) with rfl | rfl | rfl | rfl | rfl | rfl <;> (cases hq; exact har _ hk _ rfl)
  · intro j q hq
    have hj : j < 9 := (List.getElem?_eq_some_iff.mp hq).1
    have h9 := hst j hj q hq
    have e : (if 1000000 + j < 2000000 then st (1000000 + j - 1000000) else if 1000000 + j < 3000000 then adK (1000000 + j - 2000000) else adV (1000000 + j - 3000000)) = st j := by
      rw [if_pos (by omega), show 1000000 + j - 1000000 = j by omega]
    show va_Z _ _ _ (.ref (if 1000000 + j < 2000000 then st (1000000 + j - 1000000) else if 1000000 + j < 3000000 then adK (1000000 + j - 2000000) else adV (1000000 + j - 3000000))) _ _ _ ∧ va_T _ (if 1000000 + j < 2000000 then st (1000000 + j - 1000000) else if 1000000 + j < 3000000 then adK (1000000 + j - 2000000) else adV (1000000 + j - 3000000)) _ _ _ _ _
    rw [e]
    exact h9
  · exact fun y hy => va_Nw.of rfl (hts _ (soft_ok.1 y hy))
  · exact fun q hq => va_Nw.of rfl (hts _ (soft_ok.2.1 q hq))
  · exact fun q hq => va_Nw.of rfl (hts _ (soft_ok.2.2.1 q hq))
  · have e1 : (fun i => if 2000000 + i < 2000000 then st (2000000 + i - 1000000) else if 2000000 + i < 3000000 then adK (2000000 + i - 2000000) else adV (2000000 + i - 3000000)) = fun i => if i < 1000000 then adK i else adV (2000000 + i - 3000000) := by
      funext i
      rw [if_neg (by omega)]
      by_cases h : i < 1000000
      · rw [if_pos (by omega), if_pos h, show 2000000 + i - 2000000 = i by omega]
      · rw [if_neg (by omega), if_neg h]
    have e2 : (fun i => if 3000000 + i < 2000000 then st (3000000 + i - 1000000) else if 3000000 + i < 3000000 then adK (3000000 + i - 2000000) else adV (3000000 + i - 3000000)) = adV := by
      funext i
      rw [if_neg (by omega), if_neg (by omega), show 3000000 + i - 3000000 = i by omega]
    show vk_S 7 strLn strT (fun i => if 2000000 + i < 2000000 then st (2000000 + i - 1000000) else if 2000000 + i < 3000000 then adK (2000000 + i - 2000000) else adV (2000000 + i - 3000000)) (fun i => if 3000000 + i < 2000000 then st (3000000 + i - 1000000) else if 3000000 + i < 3000000 then adK (3000000 + i - 2000000) else adV (3000000 + i - 3000000)) _ _ _
    rw [e1, e2]
    refine ⟨fun i hi => ?_, fun i j hi hj hij => ?_⟩
    · have h9 := hSS.1 i hi
      show va_O _ (if i < 1000000 then adK i else _) _ _ _ ∧ va_OF _ _ _ _ (if i < 1000000 then adK i else _) _ _ _ ∧ va_OF _ _ _ _ (if i < 1000000 then adK i else _) _ _ _ ∧ _
      rw [if_pos (show i < 1000000 by omega)]
      exact h9
    · refine hSS.2 i j hi hj ?_
      have hij : (if i < 1000000 then adK i else adV (2000000 + i - 3000000)) = (if j < 1000000 then adK j else adV (2000000 + j - 3000000)) := hij
      rw [if_pos (show i < 1000000 by omega), if_pos (show j < 1000000 by omega)] at hij
      exact hij
  · intro q hq
    obtain ⟨h1, h2, h3⟩ := str_rf q hq
    have hev : Term.eval #[Value.ref b] s none [] s (.string q.1 q.2.1) = some (.ref (adK q.2.2.2)) := by
      rcases h3 with h3 | h3
      · rw [← h3]; exact hSe _ h2
      · exact ev_eq (hfl _ h3) (hSe _ h2)
    have h9 := vk_R.of (hts _ h1) hev
    show vk_R q.1 q.2.1 q.2.2.1 (if 2000000 + q.2.2.2 < 2000000 then st (2000000 + q.2.2.2 - 1000000) else if 2000000 + q.2.2.2 < 3000000 then adK (2000000 + q.2.2.2 - 2000000) else adV (2000000 + q.2.2.2 - 3000000)) s
    rw [if_neg (by omega), if_pos (by omega), show 2000000 + q.2.2.2 - 2000000 = q.2.2.2 by omega]
    exact h9
  · exact va_Zof (hts _ stat_ok.1) (hts _ stat_ok.2.1) (va_eqi (hfl _ stat_ok.2.2.1)) hA0
  · exact va_Zqof (hts _ stat_ok.2.2.2.1) (hts _ stat_ok.2.2.2.2.1) (hfl _ stat_ok.2.2.2.2.2) hA0
  · exact fun y hy => va_Nw.of rfl (hts _ (soft_ok.2.2.2.2.2.1 y hy))
  · exact va_Nw.of rfl (hts _ soft_ok.2.2.2.2.2.2)
  · exact vx_Zqof (hts _ thr_ok.1) (hts _ thr_ok.2.2.1) (hfl _ thr_ok.2.2.2.1) hA0
  · exact vx_Zqof (hts _ thr_ok.2.1) (hts _ thr_ok.2.2.1) (hfl _ thr_ok.2.2.2.2.1) hA0
