/-! One entry of a state is changed. -/
def uS (σ : Sg) (k i v : Nat) : Sg := fun a b => if a = k ∧ b = i then v else σ a b
theorem uS_s {σ : Sg} {k i v : Nat} : uS σ k i v k i = v := if_pos ⟨rfl, rfl⟩
theorem uS_n {σ : Sg} {k i v a b : Nat} (h : a ≠ k ∨ b ≠ i) : uS σ k i v a b = σ a b := if_neg (fun e => by omega)
section UPD
variable {f : Nat → Int32} {m : MI} {σ : Sg} {C P s c p v : Nat}
theorem MS_crumb (h : MS f σ C P) (hC : C ≤ 5) (hP : P ≤ 6) (hc : c < C) : MS (upd f (2 * c) (Int32.ofNat v)) (uS σ 0 c v) C P := by
  obtain ⟨a1, a2, a5, a6, a7⟩ := h
  have ne : ∀ i, i ≠ 2 * c → upd f (2 * c) (Int32.ofNat v) i = f i := fun i hi => if_neg hi
  have es : upd f (2 * c) (Int32.ofNat v) (2 * c) = Int32.ofNat v := if_pos rfl
  refine ⟨fun d hd => ⟨?_, ?_⟩, fun d hd => ⟨?_, ?_, ?_⟩, ?_, ?_, ?_⟩
  · by_cases e : d = c
    · subst e; rw [es, uS_s]
    · rw [ne _ (by omega), uS_n (by omega)]; exact (a1 d hd).1
  · rw [ne _ (by omega), uS_n (by omega)]; exact (a1 d hd).2
  · rw [ne _ (by omega), uS_n (by omega)]; exact (a2 d hd).1
  · rw [ne _ (by omega), uS_n (by omega)]; exact (a2 d hd).2.1
  · rw [ne _ (by omega), uS_n (by omega)]; exact (a2 d hd).2.2
  · rw [ne _ (by omega), uS_n (by omega)]; exact a5
  · rw [ne _ (by omega), uS_n (by omega)]; exact a6
  · rw [ne _ (by omega), uS_n (by omega)]; exact a7
theorem CS_crumb (h : CS m s σ C P) (hC : C ≤ 5) (hP : P ≤ 6) (hc : c < C) : CS (wI m (s + 1) c (Int32.ofNat v)) s (uS σ 0 c v) C P := by
  obtain ⟨a1, a2, a5, a6, a7⟩ := h
  have ne : ∀ a i, (a ≠ s + 1 ∨ i ≠ c) → wI m (s + 1) c (Int32.ofNat v) a i = m a i := fun a i hi => by rw [wI_at, if_neg (by omega)]
  have es : wI m (s + 1) c (Int32.ofNat v) (s + 1) c = (Int32.ofNat v) := wI_se
  refine ⟨fun d hd => ⟨?_, ?_⟩, fun d hd => ⟨?_, ?_, ?_⟩, ?_, ?_, ?_⟩
  · by_cases e : d = c
    · subst e; rw [es, uS_s]
    · rw [ne _ _ (by omega), uS_n (by omega)]; exact (a1 d hd).1
  · rw [ne _ _ (by omega), uS_n (by omega)]; exact (a1 d hd).2
  · rw [ne _ _ (by omega), uS_n (by omega)]; exact (a2 d hd).1
  · rw [ne _ _ (by omega), uS_n (by omega)]; exact (a2 d hd).2.1
  · rw [ne _ _ (by omega), uS_n (by omega)]; exact (a2 d hd).2.2
  · rw [ne _ _ (by omega), uS_n (by omega)]; exact a5
  · rw [ne _ _ (by omega), uS_n (by omega)]; exact a6
  · rw [ne _ _ (by omega), uS_n (by omega)]; exact a7
theorem WS_crumb {x : Nat} (h : WS C P x σ) (hv : v ≤ 3) : WS C P x (uS σ 0 c v) := by
  obtain ⟨a1, a2, a5, a6, a7⟩ := h
  refine ⟨fun d hd => ⟨?_, ?_⟩, fun d hd => ⟨?_, ?_, ?_⟩, ?_, ?_, ?_⟩
  · by_cases e : d = c
    · subst e; rw [uS_s]; exact hv
    · rw [uS_n (by omega)]; exact (a1 d hd).1
  · rw [uS_n (by omega)]; exact (a1 d hd).2
  · rw [uS_n (by omega)]; exact (a2 d hd).1
  · rw [uS_n (by omega)]; exact (a2 d hd).2.1
  · rw [uS_n (by omega)]; exact (a2 d hd).2.2
  · rw [uS_n (by omega)]; exact a5
  · rw [uS_n (by omega)]; exact a6
  · rw [uS_n (by omega)]; exact a7
theorem MS_spring (h : MS f σ C P) (hC : C ≤ 5) (hP : P ≤ 6) (hc : c < C) : MS (upd f (2 * c + 1) (Int32.ofNat v)) (uS σ 1 c v) C P := by
  obtain ⟨a1, a2, a5, a6, a7⟩ := h
  have ne : ∀ i, i ≠ 2 * c + 1 → upd f (2 * c + 1) (Int32.ofNat v) i = f i := fun i hi => if_neg hi
  have es : upd f (2 * c + 1) (Int32.ofNat v) (2 * c + 1) = Int32.ofNat v := if_pos rfl
  refine ⟨fun d hd => ⟨?_, ?_⟩, fun d hd => ⟨?_, ?_, ?_⟩, ?_, ?_, ?_⟩
  · rw [ne _ (by omega), uS_n (by omega)]; exact (a1 d hd).1
  · by_cases e : d = c
    · subst e; rw [es, uS_s]
    · rw [ne _ (by omega), uS_n (by omega)]; exact (a1 d hd).2
  · rw [ne _ (by omega), uS_n (by omega)]; exact (a2 d hd).1
  · rw [ne _ (by omega), uS_n (by omega)]; exact (a2 d hd).2.1
  · rw [ne _ (by omega), uS_n (by omega)]; exact (a2 d hd).2.2
  · rw [ne _ (by omega), uS_n (by omega)]; exact a5
  · rw [ne _ (by omega), uS_n (by omega)]; exact a6
  · rw [ne _ (by omega), uS_n (by omega)]; exact a7
theorem CS_spring (h : CS m s σ C P) (hC : C ≤ 5) (hP : P ≤ 6) (hc : c < C) : CS (wI m (s + 2) c (Int32.ofNat v)) s (uS σ 1 c v) C P := by
  obtain ⟨a1, a2, a5, a6, a7⟩ := h
  have ne : ∀ a i, (a ≠ s + 2 ∨ i ≠ c) → wI m (s + 2) c (Int32.ofNat v) a i = m a i := fun a i hi => by rw [wI_at, if_neg (by omega)]
  have es : wI m (s + 2) c (Int32.ofNat v) (s + 2) c = (Int32.ofNat v) := wI_se
  refine ⟨fun d hd => ⟨?_, ?_⟩, fun d hd => ⟨?_, ?_, ?_⟩, ?_, ?_, ?_⟩
  · rw [ne _ _ (by omega), uS_n (by omega)]; exact (a1 d hd).1
  · by_cases e : d = c
    · subst e; rw [es, uS_s]
    · rw [ne _ _ (by omega), uS_n (by omega)]; exact (a1 d hd).2
  · rw [ne _ _ (by omega), uS_n (by omega)]; exact (a2 d hd).1
  · rw [ne _ _ (by omega), uS_n (by omega)]; exact (a2 d hd).2.1
  · rw [ne _ _ (by omega), uS_n (by omega)]; exact (a2 d hd).2.2
  · rw [ne _ _ (by omega), uS_n (by omega)]; exact a5
  · rw [ne _ _ (by omega), uS_n (by omega)]; exact a6
  · rw [ne _ _ (by omega), uS_n (by omega)]; exact a7
theorem WS_spring {x : Nat} (h : WS C P x σ) (hv : v ≤ 9) : WS C P x (uS σ 1 c v) := by
  obtain ⟨a1, a2, a5, a6, a7⟩ := h
  refine ⟨fun d hd => ⟨?_, ?_⟩, fun d hd => ⟨?_, ?_, ?_⟩, ?_, ?_, ?_⟩
  · rw [uS_n (by omega)]; exact (a1 d hd).1
  · by_cases e : d = c
    · subst e; rw [uS_s]; exact hv
    · rw [uS_n (by omega)]; exact (a1 d hd).2
  · rw [uS_n (by omega)]; exact (a2 d hd).1
  · rw [uS_n (by omega)]; exact (a2 d hd).2.1
  · rw [uS_n (by omega)]; exact (a2 d hd).2.2
  · rw [uS_n (by omega)]; exact a5
  · rw [uS_n (by omega)]; exact a6
  · rw [uS_n (by omega)]; exact a7
theorem MS_way (h : MS f σ C P) (hC : C ≤ 5) (hP : P ≤ 6) (hp : p < P) : MS (upd f (10 + 3 * p + 2) (Int32.ofNat v)) (uS σ 4 p v) C P := by
  obtain ⟨a1, a2, a5, a6, a7⟩ := h
  have ne : ∀ i, i ≠ 10 + 3 * p + 2 → upd f (10 + 3 * p + 2) (Int32.ofNat v) i = f i := fun i hi => if_neg hi
  have es : upd f (10 + 3 * p + 2) (Int32.ofNat v) (10 + 3 * p + 2) = Int32.ofNat v := if_pos rfl
  refine ⟨fun d hd => ⟨?_, ?_⟩, fun d hd => ⟨?_, ?_, ?_⟩, ?_, ?_, ?_⟩
  · rw [ne _ (by omega), uS_n (by omega)]; exact (a1 d hd).1
  · rw [ne _ (by omega), uS_n (by omega)]; exact (a1 d hd).2
  · rw [ne _ (by omega), uS_n (by omega)]; exact (a2 d hd).1
  · rw [ne _ (by omega), uS_n (by omega)]; exact (a2 d hd).2.1
  · by_cases e : d = p
    · subst e; rw [es, uS_s]
    · rw [ne _ (by omega), uS_n (by omega)]; exact (a2 d hd).2.2
  · rw [ne _ (by omega), uS_n (by omega)]; exact a5
  · rw [ne _ (by omega), uS_n (by omega)]; exact a6
  · rw [ne _ (by omega), uS_n (by omega)]; exact a7
theorem CS_way (h : CS m s σ C P) (hC : C ≤ 5) (hP : P ≤ 6) (hp : p < P) : CS (wI m (s + 5) p (Int32.ofNat v)) s (uS σ 4 p v) C P := by
  obtain ⟨a1, a2, a5, a6, a7⟩ := h
  have ne : ∀ a i, (a ≠ s + 5 ∨ i ≠ p) → wI m (s + 5) p (Int32.ofNat v) a i = m a i := fun a i hi => by rw [wI_at, if_neg (by omega)]
  have es : wI m (s + 5) p (Int32.ofNat v) (s + 5) p = (Int32.ofNat v) := wI_se
  refine ⟨fun d hd => ⟨?_, ?_⟩, fun d hd => ⟨?_, ?_, ?_⟩, ?_, ?_, ?_⟩
  · rw [ne _ _ (by omega), uS_n (by omega)]; exact (a1 d hd).1
  · rw [ne _ _ (by omega), uS_n (by omega)]; exact (a1 d hd).2
  · rw [ne _ _ (by omega), uS_n (by omega)]; exact (a2 d hd).1
  · rw [ne _ _ (by omega), uS_n (by omega)]; exact (a2 d hd).2.1
  · by_cases e : d = p
    · subst e; rw [es, uS_s]
    · rw [ne _ _ (by omega), uS_n (by omega)]; exact (a2 d hd).2.2
  · rw [ne _ _ (by omega), uS_n (by omega)]; exact a5
  · rw [ne _ _ (by omega), uS_n (by omega)]; exact a6
  · rw [ne _ _ (by omega), uS_n (by omega)]; exact a7
theorem WS_way {x : Nat} (h : WS C P x σ) (hv : v ≤ 1) : WS C P x (uS σ 4 p v) := by
  obtain ⟨a1, a2, a5, a6, a7⟩ := h
  refine ⟨fun d hd => ⟨?_, ?_⟩, fun d hd => ⟨?_, ?_, ?_⟩, ?_, ?_, ?_⟩
  · rw [uS_n (by omega)]; exact (a1 d hd).1
  · rw [uS_n (by omega)]; exact (a1 d hd).2
  · rw [uS_n (by omega)]; exact (a2 d hd).1
  · rw [uS_n (by omega)]; exact (a2 d hd).2.1
  · by_cases e : d = p
    · subst e; rw [uS_s]; exact hv
    · rw [uS_n (by omega)]; exact (a2 d hd).2.2
  · rw [uS_n (by omega)]; exact a5
  · rw [uS_n (by omega)]; exact a6
  · rw [uS_n (by omega)]; exact a7
theorem MS_wary (h : MS f σ C P) (hC : C ≤ 5) (hP : P ≤ 6) (hp : p < P) : MS (upd f (10 + 3 * p) (Int32.ofNat v)) (uS σ 2 p v) C P := by
  obtain ⟨a1, a2, a5, a6, a7⟩ := h
  have ne : ∀ i, i ≠ 10 + 3 * p → upd f (10 + 3 * p) (Int32.ofNat v) i = f i := fun i hi => if_neg hi
  have es : upd f (10 + 3 * p) (Int32.ofNat v) (10 + 3 * p) = Int32.ofNat v := if_pos rfl
  refine ⟨fun d hd => ⟨?_, ?_⟩, fun d hd => ⟨?_, ?_, ?_⟩, ?_, ?_, ?_⟩
  · rw [ne _ (by omega), uS_n (by omega)]; exact (a1 d hd).1
  · rw [ne _ (by omega), uS_n (by omega)]; exact (a1 d hd).2
  · by_cases e : d = p
    · subst e; rw [es, uS_s]
    · rw [ne _ (by omega), uS_n (by omega)]; exact (a2 d hd).1
  · rw [ne _ (by omega), uS_n (by omega)]; exact (a2 d hd).2.1
  · rw [ne _ (by omega), uS_n (by omega)]; exact (a2 d hd).2.2
  · rw [ne _ (by omega), uS_n (by omega)]; exact a5
  · rw [ne _ (by omega), uS_n (by omega)]; exact a6
  · rw [ne _ (by omega), uS_n (by omega)]; exact a7
theorem CS_wary (h : CS m s σ C P) (hC : C ≤ 5) (hP : P ≤ 6) (hp : p < P) : CS (wI m (s + 3) p (Int32.ofNat v)) s (uS σ 2 p v) C P := by
  obtain ⟨a1, a2, a5, a6, a7⟩ := h
  have ne : ∀ a i, (a ≠ s + 3 ∨ i ≠ p) → wI m (s + 3) p (Int32.ofNat v) a i = m a i := fun a i hi => by rw [wI_at, if_neg (by omega)]
  have es : wI m (s + 3) p (Int32.ofNat v) (s + 3) p = (Int32.ofNat v) := wI_se
  refine ⟨fun d hd => ⟨?_, ?_⟩, fun d hd => ⟨?_, ?_, ?_⟩, ?_, ?_, ?_⟩
  · rw [ne _ _ (by omega), uS_n (by omega)]; exact (a1 d hd).1
  · rw [ne _ _ (by omega), uS_n (by omega)]; exact (a1 d hd).2
  · by_cases e : d = p
    · subst e; rw [es, uS_s]
    · rw [ne _ _ (by omega), uS_n (by omega)]; exact (a2 d hd).1
  · rw [ne _ _ (by omega), uS_n (by omega)]; exact (a2 d hd).2.1
  · rw [ne _ _ (by omega), uS_n (by omega)]; exact (a2 d hd).2.2
  · rw [ne _ _ (by omega), uS_n (by omega)]; exact a5
  · rw [ne _ _ (by omega), uS_n (by omega)]; exact a6
  · rw [ne _ _ (by omega), uS_n (by omega)]; exact a7
theorem WS_wary {x : Nat} (h : WS C P x σ) (hv : v ≤ 9) : WS C P x (uS σ 2 p v) := by
  obtain ⟨a1, a2, a5, a6, a7⟩ := h
  refine ⟨fun d hd => ⟨?_, ?_⟩, fun d hd => ⟨?_, ?_, ?_⟩, ?_, ?_, ?_⟩
  · rw [uS_n (by omega)]; exact (a1 d hd).1
  · rw [uS_n (by omega)]; exact (a1 d hd).2
  · by_cases e : d = p
    · subst e; rw [uS_s]; exact hv
    · rw [uS_n (by omega)]; exact (a2 d hd).1
  · rw [uS_n (by omega)]; exact (a2 d hd).2.1
  · rw [uS_n (by omega)]; exact (a2 d hd).2.2
  · rw [uS_n (by omega)]; exact a5
  · rw [uS_n (by omega)]; exact a6
  · rw [uS_n (by omega)]; exact a7
theorem MS_times (h : MS f σ C P) (hC : C ≤ 5) (hP : P ≤ 6) (hp : p < P) : MS (upd f (10 + 3 * p + 1) (Int32.ofNat v)) (uS σ 3 p v) C P := by
  obtain ⟨a1, a2, a5, a6, a7⟩ := h
  have ne : ∀ i, i ≠ 10 + 3 * p + 1 → upd f (10 + 3 * p + 1) (Int32.ofNat v) i = f i := fun i hi => if_neg hi
  have es : upd f (10 + 3 * p + 1) (Int32.ofNat v) (10 + 3 * p + 1) = Int32.ofNat v := if_pos rfl
  refine ⟨fun d hd => ⟨?_, ?_⟩, fun d hd => ⟨?_, ?_, ?_⟩, ?_, ?_, ?_⟩
  · rw [ne _ (by omega), uS_n (by omega)]; exact (a1 d hd).1
  · rw [ne _ (by omega), uS_n (by omega)]; exact (a1 d hd).2
  · rw [ne _ (by omega), uS_n (by omega)]; exact (a2 d hd).1
  · by_cases e : d = p
    · subst e; rw [es, uS_s]
    · rw [ne _ (by omega), uS_n (by omega)]; exact (a2 d hd).2.1
  · rw [ne _ (by omega), uS_n (by omega)]; exact (a2 d hd).2.2
  · rw [ne _ (by omega), uS_n (by omega)]; exact a5
  · rw [ne _ (by omega), uS_n (by omega)]; exact a6
  · rw [ne _ (by omega), uS_n (by omega)]; exact a7
theorem CS_times (h : CS m s σ C P) (hC : C ≤ 5) (hP : P ≤ 6) (hp : p < P) : CS (wI m (s + 4) p (Int32.ofNat v)) s (uS σ 3 p v) C P := by
  obtain ⟨a1, a2, a5, a6, a7⟩ := h
  have ne : ∀ a i, (a ≠ s + 4 ∨ i ≠ p) → wI m (s + 4) p (Int32.ofNat v) a i = m a i := fun a i hi => by rw [wI_at, if_neg (by omega)]
  have es : wI m (s + 4) p (Int32.ofNat v) (s + 4) p = (Int32.ofNat v) := wI_se
  refine ⟨fun d hd => ⟨?_, ?_⟩, fun d hd => ⟨?_, ?_, ?_⟩, ?_, ?_, ?_⟩
  · rw [ne _ _ (by omega), uS_n (by omega)]; exact (a1 d hd).1
  · rw [ne _ _ (by omega), uS_n (by omega)]; exact (a1 d hd).2
  · rw [ne _ _ (by omega), uS_n (by omega)]; exact (a2 d hd).1
  · by_cases e : d = p
    · subst e; rw [es, uS_s]
    · rw [ne _ _ (by omega), uS_n (by omega)]; exact (a2 d hd).2.1
  · rw [ne _ _ (by omega), uS_n (by omega)]; exact (a2 d hd).2.2
  · rw [ne _ _ (by omega), uS_n (by omega)]; exact a5
  · rw [ne _ _ (by omega), uS_n (by omega)]; exact a6
  · rw [ne _ _ (by omega), uS_n (by omega)]; exact a7
theorem WS_times {x : Nat} (h : WS C P x σ) (hv : v ≤ 99) : WS C P x (uS σ 3 p v) := by
  obtain ⟨a1, a2, a5, a6, a7⟩ := h
  refine ⟨fun d hd => ⟨?_, ?_⟩, fun d hd => ⟨?_, ?_, ?_⟩, ?_, ?_, ?_⟩
  · rw [uS_n (by omega)]; exact (a1 d hd).1
  · rw [uS_n (by omega)]; exact (a1 d hd).2
  · rw [uS_n (by omega)]; exact (a2 d hd).1
  · by_cases e : d = p
    · subst e; rw [uS_s]; exact hv
    · rw [uS_n (by omega)]; exact (a2 d hd).2.1
  · rw [uS_n (by omega)]; exact (a2 d hd).2.2
  · rw [uS_n (by omega)]; exact a5
  · rw [uS_n (by omega)]; exact a6
  · rw [uS_n (by omega)]; exact a7
theorem MS_post (h : MS f σ C P) (hC : C ≤ 5) (hP : P ≤ 6) : MS (upd f (28) (Int32.ofNat v)) (uS σ 5 0 v) C P := by
  obtain ⟨a1, a2, a5, a6, a7⟩ := h
  have ne : ∀ i, i ≠ 28 → upd f (28) (Int32.ofNat v) i = f i := fun i hi => if_neg hi
  have es : upd f (28) (Int32.ofNat v) (28) = Int32.ofNat v := if_pos rfl
  refine ⟨fun d hd => ⟨?_, ?_⟩, fun d hd => ⟨?_, ?_, ?_⟩, ?_, ?_, ?_⟩
  · rw [ne _ (by omega), uS_n (by omega)]; exact (a1 d hd).1
  · rw [ne _ (by omega), uS_n (by omega)]; exact (a1 d hd).2
  · rw [ne _ (by omega), uS_n (by omega)]; exact (a2 d hd).1
  · rw [ne _ (by omega), uS_n (by omega)]; exact (a2 d hd).2.1
  · rw [ne _ (by omega), uS_n (by omega)]; exact (a2 d hd).2.2
  · rw [es, uS_s]
  · rw [ne _ (by omega), uS_n (by omega)]; exact a6
  · rw [ne _ (by omega), uS_n (by omega)]; exact a7
theorem CS_post (h : CS m s σ C P) (hC : C ≤ 5) (hP : P ≤ 6) : CS (wI m (s) 5 (pr v)) s (uS σ 5 0 v) C P := by
  obtain ⟨a1, a2, a5, a6, a7⟩ := h
  have ne : ∀ a i, (a ≠ s ∨ i ≠ 5) → wI m (s) 5 (pr v) a i = m a i := fun a i hi => by rw [wI_at, if_neg (by omega)]
  have es : wI m (s) 5 (pr v) (s) 5 = (pr v) := wI_se
  refine ⟨fun d hd => ⟨?_, ?_⟩, fun d hd => ⟨?_, ?_, ?_⟩, ?_, ?_, ?_⟩
  · rw [ne _ _ (by omega), uS_n (by omega)]; exact (a1 d hd).1
  · rw [ne _ _ (by omega), uS_n (by omega)]; exact (a1 d hd).2
  · rw [ne _ _ (by omega), uS_n (by omega)]; exact (a2 d hd).1
  · rw [ne _ _ (by omega), uS_n (by omega)]; exact (a2 d hd).2.1
  · rw [ne _ _ (by omega), uS_n (by omega)]; exact (a2 d hd).2.2
  · rw [es, uS_s]
  · rw [ne _ _ (by omega), uS_n (by omega)]; exact a6
  · rw [ne _ _ (by omega), uS_n (by omega)]; exact a7
theorem WS_post {x : Nat} (h : WS C P x σ) (hv : v ≤ C) : WS C P x (uS σ 5 0 v) := by
  obtain ⟨a1, a2, a5, a6, a7⟩ := h
  refine ⟨fun d hd => ⟨?_, ?_⟩, fun d hd => ⟨?_, ?_, ?_⟩, ?_, ?_, ?_⟩
  · rw [uS_n (by omega)]; exact (a1 d hd).1
  · rw [uS_n (by omega)]; exact (a1 d hd).2
  · rw [uS_n (by omega)]; exact (a2 d hd).1
  · rw [uS_n (by omega)]; exact (a2 d hd).2.1
  · rw [uS_n (by omega)]; exact (a2 d hd).2.2
  · rw [uS_s]; exact hv
  · rw [uS_n (by omega)]; exact a6
  · rw [uS_n (by omega)]; exact a7
theorem MS_coins (h : MS f σ C P) (hC : C ≤ 5) (hP : P ≤ 6) : MS (upd f (29) (Int32.ofNat v)) (uS σ 6 0 v) C P := by
  obtain ⟨a1, a2, a5, a6, a7⟩ := h
  have ne : ∀ i, i ≠ 29 → upd f (29) (Int32.ofNat v) i = f i := fun i hi => if_neg hi
  have es : upd f (29) (Int32.ofNat v) (29) = Int32.ofNat v := if_pos rfl
  refine ⟨fun d hd => ⟨?_, ?_⟩, fun d hd => ⟨?_, ?_, ?_⟩, ?_, ?_, ?_⟩
  · rw [ne _ (by omega), uS_n (by omega)]; exact (a1 d hd).1
  · rw [ne _ (by omega), uS_n (by omega)]; exact (a1 d hd).2
  · rw [ne _ (by omega), uS_n (by omega)]; exact (a2 d hd).1
  · rw [ne _ (by omega), uS_n (by omega)]; exact (a2 d hd).2.1
  · rw [ne _ (by omega), uS_n (by omega)]; exact (a2 d hd).2.2
  · rw [ne _ (by omega), uS_n (by omega)]; exact a5
  · rw [es, uS_s]
  · rw [ne _ (by omega), uS_n (by omega)]; exact a7
theorem CS_coins (h : CS m s σ C P) (hC : C ≤ 5) (hP : P ≤ 6) : CS (wI m (s) 6 (Int32.ofNat v)) s (uS σ 6 0 v) C P := by
  obtain ⟨a1, a2, a5, a6, a7⟩ := h
  have ne : ∀ a i, (a ≠ s ∨ i ≠ 6) → wI m (s) 6 (Int32.ofNat v) a i = m a i := fun a i hi => by rw [wI_at, if_neg (by omega)]
  have es : wI m (s) 6 (Int32.ofNat v) (s) 6 = (Int32.ofNat v) := wI_se
  refine ⟨fun d hd => ⟨?_, ?_⟩, fun d hd => ⟨?_, ?_, ?_⟩, ?_, ?_, ?_⟩
  · rw [ne _ _ (by omega), uS_n (by omega)]; exact (a1 d hd).1
  · rw [ne _ _ (by omega), uS_n (by omega)]; exact (a1 d hd).2
  · rw [ne _ _ (by omega), uS_n (by omega)]; exact (a2 d hd).1
  · rw [ne _ _ (by omega), uS_n (by omega)]; exact (a2 d hd).2.1
  · rw [ne _ _ (by omega), uS_n (by omega)]; exact (a2 d hd).2.2
  · rw [ne _ _ (by omega), uS_n (by omega)]; exact a5
  · rw [es, uS_s]
  · rw [ne _ _ (by omega), uS_n (by omega)]; exact a7
theorem WS_coins {x : Nat} (h : WS C P x σ) (hv : v ≤ 999) : WS C P x (uS σ 6 0 v) := by
  obtain ⟨a1, a2, a5, a6, a7⟩ := h
  refine ⟨fun d hd => ⟨?_, ?_⟩, fun d hd => ⟨?_, ?_, ?_⟩, ?_, ?_, ?_⟩
  · rw [uS_n (by omega)]; exact (a1 d hd).1
  · rw [uS_n (by omega)]; exact (a1 d hd).2
  · rw [uS_n (by omega)]; exact (a2 d hd).1
  · rw [uS_n (by omega)]; exact (a2 d hd).2.1
  · rw [uS_n (by omega)]; exact (a2 d hd).2.2
  · rw [uS_n (by omega)]; exact a5
  · rw [uS_s]; exact hv
  · rw [uS_n (by omega)]; exact a7
theorem MS_date (h : MS f σ C P) (hC : C ≤ 5) (hP : P ≤ 6) : MS (upd f (30) (Int32.ofNat v)) (uS σ 7 0 v) C P := by
  obtain ⟨a1, a2, a5, a6, a7⟩ := h
  have ne : ∀ i, i ≠ 30 → upd f (30) (Int32.ofNat v) i = f i := fun i hi => if_neg hi
  have es : upd f (30) (Int32.ofNat v) (30) = Int32.ofNat v := if_pos rfl
  refine ⟨fun d hd => ⟨?_, ?_⟩, fun d hd => ⟨?_, ?_, ?_⟩, ?_, ?_, ?_⟩
  · rw [ne _ (by omega), uS_n (by omega)]; exact (a1 d hd).1
  · rw [ne _ (by omega), uS_n (by omega)]; exact (a1 d hd).2
  · rw [ne _ (by omega), uS_n (by omega)]; exact (a2 d hd).1
  · rw [ne _ (by omega), uS_n (by omega)]; exact (a2 d hd).2.1
  · rw [ne _ (by omega), uS_n (by omega)]; exact (a2 d hd).2.2
  · rw [ne _ (by omega), uS_n (by omega)]; exact a5
  · rw [ne _ (by omega), uS_n (by omega)]; exact a6
  · rw [es, uS_s]
theorem CS_date (h : CS m s σ C P) (hC : C ≤ 5) (hP : P ≤ 6) : CS (wI m (s) 7 (Int32.ofNat v)) s (uS σ 7 0 v) C P := by
  obtain ⟨a1, a2, a5, a6, a7⟩ := h
  have ne : ∀ a i, (a ≠ s ∨ i ≠ 7) → wI m (s) 7 (Int32.ofNat v) a i = m a i := fun a i hi => by rw [wI_at, if_neg (by omega)]
  have es : wI m (s) 7 (Int32.ofNat v) (s) 7 = (Int32.ofNat v) := wI_se
  refine ⟨fun d hd => ⟨?_, ?_⟩, fun d hd => ⟨?_, ?_, ?_⟩, ?_, ?_, ?_⟩
  · rw [ne _ _ (by omega), uS_n (by omega)]; exact (a1 d hd).1
  · rw [ne _ _ (by omega), uS_n (by omega)]; exact (a1 d hd).2
  · rw [ne _ _ (by omega), uS_n (by omega)]; exact (a2 d hd).1
  · rw [ne _ _ (by omega), uS_n (by omega)]; exact (a2 d hd).2.1
  · rw [ne _ _ (by omega), uS_n (by omega)]; exact (a2 d hd).2.2
  · rw [ne _ _ (by omega), uS_n (by omega)]; exact a5
  · rw [ne _ _ (by omega), uS_n (by omega)]; exact a6
  · rw [es, uS_s]
theorem WS_date {x : Nat} (h : WS C P x σ) (hv : v ≤ x) : WS C P x (uS σ 7 0 v) := by
  obtain ⟨a1, a2, a5, a6, a7⟩ := h
  refine ⟨fun d hd => ⟨?_, ?_⟩, fun d hd => ⟨?_, ?_, ?_⟩, ?_, ?_, ?_⟩
  · rw [uS_n (by omega)]; exact (a1 d hd).1
  · rw [uS_n (by omega)]; exact (a1 d hd).2
  · rw [uS_n (by omega)]; exact (a2 d hd).1
  · rw [uS_n (by omega)]; exact (a2 d hd).2.1
  · rw [uS_n (by omega)]; exact (a2 d hd).2.2
  · rw [uS_n (by omega)]; exact a5
  · rw [uS_n (by omega)]; exact a6
  · rw [uS_s]; exact hv
end UPD
