/-! What makes cells: the pure heap grows; the room is the end's size. -/
def ck {ρ : Type} (h : AH) (x : Option (ρ × AH)) : Option (ρ × AH) := match x with
  | some (r, h1) => if h.1 ≤ h1.1 ∧ h.2.1 ≤ h1.2.1 then some (r, h1) else none
  | none => none
theorem ck_spec {ρ : Type} {h : AH} {x : Option (ρ × AH)} {y : ρ × AH} (hx : ck h x = some y) : (h.1 ≤ y.2.1 ∧ h.2.1 ≤ y.2.2.1) ∧ x = some y := by
  unfold ck at hx
  split at hx
  · rename_i r h1
    split at hx
    · rename_i hc
      cases hx
      exact ⟨hc, rfl⟩
    · cases hx
  · cases hx
theorem ck_eq {ρ : Type} {h : AH} {x : Option (ρ × AH)} {y : ρ × AH} (e : x = some y) (hle : h.1 ≤ y.2.1 ∧ h.2.1 ≤ y.2.2.1) : ck h x = some y := by
  subst e
  obtain ⟨r, h1⟩ := y
  exact if_pos hle
/-- a call that may make something -/
def cA {α ρ : Type} (x : Option (α × AH)) (h : AH) (k : α → AH → Option (ρ × AH)) : Option (ρ × AH) := match x with
  | some (r, h1) => if h.1 ≤ h1.1 ∧ h.2.1 ≤ h1.2.1 then ck h1 (k r h1) else none
  | none => none
theorem cA_spec {α ρ : Type} {x : Option (α × AH)} {h : AH} {k : α → AH → Option (ρ × AH)} {y : ρ × AH} (hx : cA x h k = some y) : ∃ r h1, x = some (r, h1) ∧ (h.1 ≤ h1.1 ∧ h.2.1 ≤ h1.2.1) ∧ (h1.1 ≤ y.2.1 ∧ h1.2.1 ≤ y.2.2.1) ∧ k r h1 = some y := by
  unfold cA at hx
  split at hx
  · rename_i r h1
    split at hx
    · rename_i hc
      obtain ⟨a, b⟩ := ck_spec hx
      exact ⟨r, h1, rfl, hc, a, b⟩
    · cases hx
  · cases hx
theorem cA_eq {α ρ : Type} {x : Option (α × AH)} {h : AH} {k : α → AH → Option (ρ × AH)} {r : α} {h1 : AH} {y : ρ × AH} (e : x = some (r, h1)) (a : h.1 ≤ h1.1 ∧ h.2.1 ≤ h1.2.1) (b : h1.1 ≤ y.2.1 ∧ h1.2.1 ≤ y.2.2.1) (hk : k r h1 = some y) : cA x h k = some y := by
  subst e
  unfold cA
  simp only
  rw [if_pos a]
  exact ck_eq hk b
def hpush (h : AH) (N : Nat) (e : AE) : AH := (h.1 + 1, h.2.1 + N, fun j => if j = h.1 then some e else h.2.2 j)
def nO {ρ : Type} (ci N : Nat) (fs : List Value) (h : AH) (k : Nat → AH → Option (ρ × AH)) : Option (ρ × AH) := if h.1 < 1000000 then ck (hpush h N (.inr (ci, fs))) (k h.1 (hpush h N (.inr (ci, fs)))) else none
theorem nO_spec {ρ : Type} {ci N : Nat} {fs : List Value} {h : AH} {k : Nat → AH → Option (ρ × AH)} {y : ρ × AH} (hx : nO ci N fs h k = some y) : h.1 < 1000000 ∧ (h.1 + 1 ≤ y.2.1 ∧ h.2.1 + N ≤ y.2.2.1) ∧ k h.1 (hpush h N (.inr (ci, fs))) = some y := by
  unfold nO at hx
  split at hx
  · rename_i hc
    obtain ⟨a, b⟩ := ck_spec hx
    exact ⟨hc, a, b⟩
  · cases hx
/-- an array's first contents -/
def a0 (t : Nat) : (Nat → Int32) ⊕ (Nat → Int64) ⊕ (Nat → UInt32) ⊕ (Nat → UInt64) ⊕ (Nat → Option Nat) := if t = 2 then .inr (.inl (fun _ => 0)) else if t = 4 ∨ t = 5 then .inr (.inr (.inr (.inr (fun _ => none)))) else .inl (fun _ => 0)
def nA {ρ : Type} (t : Nat) (n : Int32) (h : AH) (k : Nat → AH → Option (ρ × AH)) : Option (ρ × AH) := if h.1 < 1000000 ∧ ¬ n < 0 ∧ n.toNatClampNeg ≤ 100000 then ck (hpush h n.toNatClampNeg (.inl (t, n.toNatClampNeg, a0 t))) (k h.1 (hpush h n.toNatClampNeg (.inl (t, n.toNatClampNeg, a0 t)))) else none
theorem nA_spec {ρ : Type} {t : Nat} {n : Int32} {h : AH} {k : Nat → AH → Option (ρ × AH)} {y : ρ × AH} (hx : nA t n h k = some y) : (h.1 < 1000000 ∧ ¬ n < 0 ∧ n.toNatClampNeg ≤ 100000) ∧ (h.1 + 1 ≤ y.2.1 ∧ h.2.1 + n.toNatClampNeg ≤ y.2.2.1) ∧ k h.1 (hpush h n.toNatClampNeg (.inl (t, n.toNatClampNeg, a0 t))) = some y := by
  unfold nA at hx
  split at hx
  · rename_i hc
    obtain ⟨a, b⟩ := ck_spec hx
    exact ⟨hc, a, b⟩
  · cases hx
/-- a reference into a row of references -/
def uQ (t : Nat) (h : AH) (a : Nat) (i : Int32) (v : Nat) : Option AH := match h.2.2 a with
  | some (.inl (t', n, .inr (.inr (.inr (.inr f))))) => if t' = t ∧ ¬ (i < 0 ∨ n ≤ i.toNatClampNeg) then (match h.2.2 v with
    | some (.inr (ci, _)) => if t = 4 ∧ ci = 8 then some (hset h a (.inl (t', n, .inr (.inr (.inr (.inr (va_up f i.toNatClampNeg (some v)))))))) else none
    | some (.inl (tv, _, .inl _)) => if t = 5 ∧ tv = 0 then some (hset h a (.inl (t', n, .inr (.inr (.inr (.inr (va_up f i.toNatClampNeg (some v)))))))) else none
    | _ => none) else none
  | _ => none
/-- the field that a constructor of 'own' writes at idx, of type ty, final -/
def LKF (own : String) (idx : Nat) (cs : List Nat) (k : Nat) (ty : FieldType) : Prop := ∀ ci ∈ cs, ∃ (C : String) (T : u_T) (N : Nat) (ref : String), CK ci C T N ∧ k < N ∧ Cond.fieldLink own idx ref (T k).2.1 (T k).2.2.1 ∈ TB ∧ (ref = (T k).1 ∨ Cond.sameField ref (T k).1 (T k).2.1 (T k).2.2.1 ∈ TB) ∧ (T k).2.2.2 = true ∧ (T k).1 = own ∧ parseFieldDescriptor (T k).2.2.1 = some ty
section ALLOC
variable {g : GG} {p : Program} {l : Launch} {e : Env} {R : Room} {s : State} {m : MethodId} {args : Array Value} {below : List Frame} {meth : Method} {c : Code} {H : Heap} {locs : List Loc} {cells slots : Nat} {Q : State → Prop}
variable {cc : ByteArray} {nL : Nat} {own : String} {pc : Nat} {ls : Array Slot} {rest st0 : List Value} {n0 z0 mc ms : Nat} {h h1 h' : AH} {v : Option Value}
theorem Iv.le (I : Iv g s n0 z0 h H locs cells slots) {N Z : Nat} (hA : R.cells + n0 = N ∧ R.slots + z0 = Z) (hb : h.1 ≤ N ∧ h.2.1 ≤ Z) : cells ≤ R.cells ∧ slots ≤ R.slots := by
  obtain ⟨-, -, -, a, b⟩ := I
  omega
theorem Iv.push (I : Iv g s n0 z0 h H locs cells slots) (hlt : h.1 < 1000000) {N : Nat} {e1 : AE} {H1 : Heap} (ha : va_at g.1 classes (g.2.2.2 + h.1, cvG g e1) H1) (hz : H1.size = H.size + 1) (ho : ∀ q, q < H.size → H1[q]? = H[q]?) : Iv g s n0 z0 (hpush h N e1) H1 locs (cells + 1) (slots + N) := by
  obtain ⟨hP, hS, hn, hcl, hsl⟩ := I
  refine ⟨⟨fun k x hx => ?_, by rw [hz, hP.2]; rfl⟩, ⟨by rw [hz]; exact Nat.le_trans hS.1 (Nat.le_succ _), fun q q1 q2 => (ho q (Nat.lt_of_lt_of_le q1 hS.1)).trans (hS.2.1 q q1 q2), hS.2.2⟩, hn, by show cells + 1 + n0 = h.1 + 1; omega, by show slots + N + z0 = h.2.1 + N; omega⟩
  by_cases hk : k = h.1
  · subst hk
    have hx' : some e1 = some x := by simpa [hpush] using hx
    cases hx'
    exact ⟨hlt, ha⟩
  · have hx' : h.2.2 k = some x := by simpa [hpush, hk] using hx
    have h9 := hP.1 k x hx'
    exact ⟨h9.1, h9.2.kept (ho _ h9.2.lt)⟩
theorem r_new (X : Cx g p s m args meth c cc nL own) (I : Iv g s n0 z0 h H locs cells slots) (hlt : h.1 < 1000000) {idx ci N : Nat} {C : String} {T : u_T} {fs : List Value} (hCK : CK ci C T N) (ty : Nat → FieldType) (hty : ∀ k, k < N → parseFieldDescriptor (T k).2.2.1 = some (ty k)) (hcl : Cond.classLink own idx C ∈ TB) (hinst : Cond.instantiable C N ∈ TB) (hini : Cond.initialized C ∈ TB)
    (hfs : ∀ j, j < N → defaultValue (ty j) = vp_V (fs.map (vG g)) j) (hc : cells + 1 ≤ R.cells ∧ slots + N ≤ R.slots) (hdg : decode cc pc = .ok (.new idx, 3))
    (kk : ∀ (H : Heap), Iv g s n0 z0 (hpush h N (.inr (ci, fs))) H locs (cells + 1) (slots + N) → W p l e R s m args below meth c H locs (cells + 1) (slots + N) Q (F0 m (pc + 3) ls (.ref (rfG g h.1) :: rest))) : W p l e R s m args below meth c H locs cells slots Q (F0 m pc ls rest) := by
  obtain ⟨hx, hb, hml, hown, hT, hSF, -⟩ := X
  obtain ⟨hcc, hin, -, -⟩ := hCK
  have hKn := hSF.1.1 ci _ hcc
  have hsz : H.size = g.2.2.2 + h.1 := I.1.2
  refine W.newcK hx hb hown (hT _ hcl) (hT _ hinst) (hT _ hini) rfl hdg hc.1 hc.2 hKn.2.1 hsz fun H1 kC hkC e1 z1 o1 => ?_
  have k1 := kk H1 (I.push hlt (e1 := .inr (ci, fs)) ⟨_, hcc, (u_born ty hT hin hKn hkC e1 hty).to hfs⟩ (by rw [z1, hsz]) (by rw [hsz]; exact o1))
  rw [rf_lt hlt] at k1
  exact k1
theorem r_newa (X : Cx g p s m args meth c cc nL own) (I : Iv g s n0 z0 h H locs cells slots) {t : Nat} {n : Int32} {atype : ArrayType} {ty : FieldType} (hlt : h.1 < 1000000 ∧ ¬ n < 0 ∧ n.toNatClampNeg ≤ 100000) (harr : Cond.arrayClass (newarray.typeOf atype) ∈ TB) (hty : newarray.typeOf atype = ty) (ht : (tysG g)[t]? = some (g.2.1 t, ty)) (hra : ∀ (U : State) (cA : ClassId), va_RA U cA ty → U.vm.findClass ("[" ++ ty.toString) = some cA)
    (ha : ∀ (cA : ClassId) (N : Nat), vp_cell cA (arG g (N, a0 t)) = arrV cA N (fun _ => defaultValue ty)) (hby : componentBytes ty ≤ 8) (hc : cells + 1 ≤ R.cells ∧ slots + n.toNatClampNeg ≤ R.slots) (hdg : decode cc pc = .ok (.newarray atype, 2))
    (kk : ∀ (H : Heap), Iv g s n0 z0 (hpush h n.toNatClampNeg (.inl (t, n.toNatClampNeg, a0 t))) H locs (cells + 1) (slots + n.toNatClampNeg) → W p l e R s m args below meth c H locs (cells + 1) (slots + n.toNatClampNeg) Q (F0 m (pc + 2) ls (.ref (rfG g h.1) :: rest))) : W p l e R s m args below meth c H locs cells slots Q (F0 m pc ls (.int n :: rest)) := by
  obtain ⟨hx, hb, hml, hown, hT, hSF, -⟩ := X
  have hsz : H.size = g.2.2.2 + h.1 := I.1.2
  subst hty
  refine va_newaK hx hb (hT _ harr) rfl hdg rfl hlt.2.1 rfl (by have := Nat.mul_le_mul hlt.2.2 hby; omega) hc.1 hc.2 hsz fun H1 cA e1 z1 o1 hAr hNm => ?_
  have hcA : cA = g.2.1 t := Option.some.inj (hNm.symm.trans (hra _ _ (hSF.1.2 t _ ht).2))
  subst hcA
  have k1 := kk H1 (I.push hlt.1 (e1 := .inl (t, n.toNatClampNeg, a0 t)) (by show H1[_]? = some (vp_cell _ _); rw [e1]; exact congrArg some (ha _ _).symm) (by rw [z1, hsz]) (by rw [hsz]; exact o1))
  rw [rf_lt hlt.1] at k1
  exact k1
theorem r_putF (X : Cx g p s m args meth c cc nL own) (hin2 : meth.name = "<init>") (I : Iv g s n0 z0 h H locs cells slots) {cs : List Nat} {idx o k : Nat} {v : Value} {ty : FieldType} (e1 : pV cs h o k v = some h') (L : LKF own idx cs k ty) (hn : narrow ty (vG g v) = vG g v) (hf : fits ty (vG g v) = true) (hdg : decode cc pc = .ok (.putfield idx, 3))
    (kk : ∀ (H : Heap) (locs : List Loc), Iv g s n0 z0 h' H locs cells slots → W p l e R s m args below meth c H locs cells slots Q (F0 m (pc + 3) ls rest)) : W p l e R s m args below meth c H locs cells slots Q (F0 m pc ls (vG g v :: .ref (rfG g o) :: rest)) := by
  obtain ⟨ci, fs, he, hci, hkl, rfl⟩ := pV_spec e1
  obtain ⟨C, T, N, ref, ⟨hc, hin, ⟨ty0, hty⟩, hnm⟩, hk, hl, hs, hfin, hdecl, hd⟩ := L ci hci
  obtain ⟨hx, hb, hml, hown, hT, hSF, -⟩ := X
  obtain ⟨i, hi⟩ := wv_get I.1 he
  rw [rf_lt (I.1.1 o _ he).1]
  refine va_putF (Ts := TB) (H0 := H) hx hb hT hin ty0 hty hnm hown hSF.1 (wv_P I.1) wv_D I.2.1.now i hi hc k hk (hT _ hl) (sf_same hT hs) hfin hin2 hdecl hd hn hf (by rw [List.length_map]; exact hkl) hdg (fun H1 locs1 h1 _ hS => W.sz fun hz => kk H1 locs1 (I.wr he hi ?_ hS hz))
  rw [map_set] at h1
  exact h1
theorem r_pFR (X : Cx g p s m args meth c cc nL own) (hin2 : meth.name = "<init>") (I : Iv g s n0 z0 h H locs cells slots) {cs : List Nat} {idx o k x : Nat} {ty : FieldType} (e1 : pV cs h o k (.ref x) = some h') (L : LKF own idx cs k ty) (hty : ty.isReference = true) (hdg : decode cc pc = .ok (.putfield idx, 3))
    (kk : ∀ (H : Heap) (locs : List Loc), Iv g s n0 z0 h' H locs cells slots → W p l e R s m args below meth c H locs cells slots Q (F0 m (pc + 3) ls rest)) : W p l e R s m args below meth c H locs cells slots Q (F0 m pc ls (.ref (rfG g x) :: .ref (rfG g o) :: rest)) := by
  refine r_putF (v := .ref x) X hin2 I e1 L ?_ ?_ hdg kk
  · cases ty <;> first | rfl | cases hty
  · cases ty <;> first | rfl | cases hty
theorem k_Ig (X : Cx g p s m args meth c cc nL own) (I : Iv g s n0 z0 h H locs cells slots) {y : MethodName} {bytes : ByteArray} {maxL fr lo idx o n : Nat} {As : List Value}
    (hM : CM l g y bytes maxL none fr lo mc ms (.ref (rfG g o) :: As) h v h1) (hz : h1.1 = h.1 + mc ∧ h1.2.1 = h.2.1 + ms) (hl : Cond.methodLink own idx y ∈ TB) (hy1 : y.name = "<init>") (hin : Cond.instanceMethod y ∈ TB) (hini : Cond.initialized y.cls ∈ TB) (hne : y.cls ≠ "java/lang/invoke/MethodHandle" ∧ y.cls ≠ "java/lang/invoke/VarHandle") (hpl : (parseMethodDescriptor y.desc).map (fun d => d.parameters.length) = some n) (hcode : Cond.code y bytes maxL none ∈ TB) (hR : fr + 1 ≤ R.frames ∧ 8 + (maxL + 11) + lo ≤ R.locals) (hf : cells + mc ≤ R.cells ∧ slots + ms ≤ R.slots)
    (hn : As.length = n) (hls : ls.size = nL) (hst : st0 = As.reverse ++ .ref (rfG g o) :: rest) (hroom : (rest.map fun v => v.category).sum ≤ 8) (hdg : decode cc pc = .ok (.invokespecial idx, 3))
    (kk : ∀ (H : Heap) (locs : List Loc), Iv g s n0 z0 h1 H locs (cells + mc) (slots + ms) → W p l e R s m args below meth c H locs (cells + mc) (slots + ms) Q (F0 m (pc + 3) ls ((v.map (vG g)).toList ++ rest))) : W p l e R s m args below meth c H locs cells slots Q (F0 m pc ls st0) := by
  have X' := X
  obtain ⟨hx, hb, hml, hown, hT, hSF, -⟩ := X'
  have hlen : ∀ sig, parseMethodDescriptor y.desc = some sig → n = sig.parameters.length := fun sig h9 => by
    rw [h9] at hpl
    exact (Option.some.inj hpl).symm
  exact k_run (va_runI (Ts := TB) (As := As) (rest := rest) ⟨hx, hb, hml, hown, hT⟩ hM ⟨⟨rfl, rfl, hR.1, hR.2, tb_pay hT hcode, List.mem_cons_self, hT _ hcode, hT _ hini, hne, hlen, hT _ hl⟩, hy1, hT _ hin⟩ ⟨PcG.blind, k_pre X I⟩ rfl hn hls hst (lv_room hroom) hdg hf) I hz kk
theorem k_INg (X : Cx g p s m args meth c cc nL own) (I : Iv g s n0 z0 h H locs cells slots) {y : MethodName} {bytes : ByteArray} {maxL fr lo idx o n : Nat} {As : List Value}
    (hM : CM l g y bytes maxL none fr lo mc ms (.ref (rfG g o) :: As) h v h1) (hz : h1.1 = h.1 + mc ∧ h1.2.1 = h.2.1 + ms) (hl : (own, idx, y) ∈ softM) (hy1 : y.name = "<init>") (hin : Cond.instanceMethod y ∈ TB) (hini : Cond.initialized y.cls ∈ TB) (hne : y.cls ≠ "java/lang/invoke/MethodHandle" ∧ y.cls ≠ "java/lang/invoke/VarHandle") (hpl : (parseMethodDescriptor y.desc).map (fun d => d.parameters.length) = some n) (hcode : Cond.code y bytes maxL none ∈ TB) (hR : fr + 1 ≤ R.frames ∧ 8 + (maxL + 11) + lo ≤ R.locals) (hf : cells + mc ≤ R.cells ∧ slots + ms ≤ R.slots)
    (hn : As.length = n) (hls : ls.size = nL) (hst : st0 = As.reverse ++ .ref (rfG g o) :: rest) (hroom : (rest.map fun v => v.category).sum ≤ 8) (hdg : decode cc pc = .ok (.invokespecial idx, 3))
    (kk : ∀ (H : Heap) (locs : List Loc), Iv g s n0 z0 h1 H locs (cells + mc) (slots + ms) → W p l e R s m args below meth c H locs (cells + mc) (slots + ms) Q (F0 m (pc + 3) ls ((v.map (vG g)).toList ++ rest))) : W p l e R s m args below meth c H locs cells slots Q (F0 m pc ls st0) := by
  have X' := X
  obtain ⟨hx, hb, hml, hown, hT, hSF, -⟩ := X'
  have hlen : ∀ sig, parseMethodDescriptor y.desc = some sig → n = sig.parameters.length := fun sig h9 => by
    rw [h9] at hpl
    exact (Option.some.inj hpl).symm
  exact k_run (va_runIN (Ts := TB) (host := "TrapCorner") (As := As) (rest := rest) ⟨hx, hb, hml, hown, hT⟩ hM ⟨⟨⟨rfl, rfl, hR.1, hR.2, tb_pay hT hcode, List.mem_cons_self⟩, hT _ hcode, hT _ hini, hne, hlen, va_Nw.use rfl (hSF.2.2.1.2.1 _ hl)⟩, hy1, hT _ hin⟩ ⟨PcG.blind, k_pre X I⟩ rfl hn hls hst (lv_room hroom) hdg hf) I hz kk
theorem uQ_spec {t a v : Nat} {i : Int32} (h1 : uQ t h a i v = some h') : ∃ n f, h.2.2 a = some (.inl (t, n, .inr (.inr (.inr (.inr f))))) ∧ vp_in i n ∧ h' = hset h a (.inl (t, n, .inr (.inr (.inr (.inr (va_up f i.toNatClampNeg (some v))))))) ∧ ((t = 4 ∧ ∃ fs, h.2.2 v = some (.inr (8, fs))) ∨ (t = 5 ∧ ∃ k f2, h.2.2 v = some (.inl (0, k, .inl f2)))) := by
  unfold uQ at h1
  split at h1
  · rename_i t' n f he
    split at h1
    · rename_i hc
      obtain ⟨rfl, hin⟩ := hc
      split at h1
      · rename_i ci fs hv
        split at h1
        · rename_i hc
          obtain ⟨rfl, rfl⟩ := hc
          cases h1
          exact ⟨n, f, he, hin, rfl, Or.inl ⟨rfl, fs, hv⟩⟩
        · cases h1
      · rename_i tv k f2 hv
        split at h1
        · rename_i hc
          obtain ⟨rfl, rfl⟩ := hc
          cases h1
          exact ⟨n, f, he, hin, rfl, Or.inr ⟨rfl, k, f2, hv⟩⟩
        · cases h1
      · cases h1
    · cases h1
  · cases h1
theorem up_map {f : Nat → Option Nat} {i v : Nat} : (fun j => (va_up f i (some v) j).map (rfG g)) = va_up (fun j => (f j).map (rfG g)) i (some (rfG g v)) := by
  funext j
  unfold va_up
  split <;> rfl
theorem r_uQ4 (X : Cx g p s m args meth c cc nL own) (I : Iv g s n0 z0 h H locs cells slots) {a v : Nat} {i : Int32} (e1 : uQ 4 h a i v = some h') (hdg : decode cc pc = .ok (.aastore, 1))
    (kk : ∀ (H : Heap) (locs : List Loc), Iv g s n0 z0 h' H locs cells slots → W p l e R s m args below meth c H locs cells slots Q (F0 m (pc + 1) ls rest)) : W p l e R s m args below meth c H locs cells slots Q (F0 m pc ls (.ref (rfG g v) :: .int i :: .ref (rfG g a) :: rest)) := by
  obtain ⟨hx, hb, hml, hown, hT, hSF, -⟩ := X
  obtain ⟨n, f, he, hin, rfl, hv⟩ := uQ_spec e1
  rcases hv with ⟨-, fs, hv⟩ | ⟨h9, -⟩
  · obtain ⟨q, hq⟩ := wv_get I.1 he
    obtain ⟨qv, hqv⟩ := wv_get I.1 hv
    have e9 : rfG g v = g.2.2.2 + v := rf_lt (I.1.1 v _ hv).1
    rw [rf_lt (I.1.1 a _ he).1]
    refine va_astq (r := (RX8, TX8, 8)) (v := rfG g v) hx hb hSF.1 (wv_P I.1) wv_D I.2.1.now q 4 qv 8 hq rfl (by rw [e9]; exact hqv) rfl hin hdg (fun H1 locs1 h1 _ hS => W.sz fun hz => kk H1 locs1 (I.wr he hq ?_ hS hz))
    show va_P g.1 classes ((wvG g h).set q (g.2.2.2 + a, .inl (g.2.1 4, n, .inr (.inr (.inr (.inr (fun j => (va_up f i.toNatClampNeg (some v) j).map (rfG g)))))))) H1
    rw [up_map]
    exact h1
  · cases h9
end ALLOC
