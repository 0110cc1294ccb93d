/-! Calls that make nothing, by what they answer; switches; answers that are references. -/
def fu : Nat := 10000
def qV (q : Option Nat) : Value := match q with
  | none => .null
  | some x => .ref x
theorem rZ_spec {x : Int32} {h : AH} {res : Int32 × AH} (hf : rZ x h = some res) : (x = 0 ∨ x = 1) ∧ res = (x, h) := by
  unfold rZ at hf
  split at hf
  · exact ⟨by assumption, (Option.some.inj hf).symm⟩
  · cases hf
theorem sw_out {x : Int32} {lo hi : Int} (h : ∀ k : Int, lo ≤ k → k ≤ hi → ¬ x = Int32.ofInt k) : x.toInt < lo ∨ hi < x.toInt := by
  by_cases h1 : x.toInt < lo
  · exact Or.inl h1
  · by_cases h2 : hi < x.toInt
    · exact Or.inr h2
    · exact absurd (Int32.ofInt_toInt x).symm (h _ (by omega) (by omega))
section CALLN
variable {g : GG} {p : Program} {l : Launch} {e : Env} {R : Room} {s : State} {m : MethodId} {args : Array Value} {below : List Frame} {meth : Method} {c : Code} {H : Heap} {locs : List Loc} {cells slots : Nat} {Q : State → Prop}
variable {cc : ByteArray} {nL : Nat} {own : String} {pc : Nat} {ls : Array Slot} {rest st0 : List Value} {n0 z0 : Nat} {h h1 : AH}
theorem k_Vi (X : Cx g p s m args meth c cc nL own) (I : Iv g s n0 z0 h H locs cells slots) {y : MethodName} {bytes : ByteArray} {maxL fr lo idx o n : Nat} {ret : Option FieldType} {cs : List Nat} {As : List Value} {r : Int32}
    (hM : CM l g y bytes maxL ret fr lo 0 0 (.ref (rfG g o) :: As) h (some (.int r)) h1) (hz : h1.1 = h.1 ∧ h1.2.1 = h.2.1) (hc : isC cs h o = some ()) (V : VK own idx cs y n) (hcode : Cond.code y bytes maxL ret ∈ TB) (hR : fr + 1 ≤ R.frames ∧ 8 + (maxL + 11) + lo ≤ R.locals) (hf : cells ≤ R.cells ∧ slots ≤ R.slots) 
    (hn : As.length = n) (hls : ls.size = nL) (hst : st0 = As.reverse ++ .ref (rfG g o) :: rest) (hroom : (rest.map fun v => v.category).sum ≤ 8) (hdg : decode cc pc = .ok (.invokevirtual idx, 3))
    (kk : ∀ (H : Heap) (locs : List Loc), Iv g s n0 z0 h1 H locs cells slots → W p l e R s m args below meth c H locs cells slots Q (F0 m (pc + 3) ls (.int r :: rest))) : W p l e R s m args below meth c H locs cells slots Q (F0 m pc ls st0) := by
  exact k_V (mc := 0) (ms := 0) X I hM hz hc V hcode hR hf hn hls hst hroom hdg kk
theorem k_Ui (X : Cx g p s m args meth c cc nL own) (I : Iv g s n0 z0 h H locs cells slots) {x y : MethodName} {owner : String} {bytes : ByteArray} {maxL fr lo idx o n ci : Nat} {ret : Option FieldType} {As : List Value} {r : Int32}
    (hM : CM l g y bytes maxL ret fr lo 0 0 (.ref (rfG g o) :: As) h (some (.int r)) h1) (hz : h1.1 = h.1 ∧ h1.2.1 = h.2.1) (hc : isC [ci] h o = some ()) (V : UK own idx ci x y owner n) (hcode : Cond.code y bytes maxL ret ∈ TB) (hR : fr + 1 ≤ R.frames ∧ 8 + (maxL + 11) + lo ≤ R.locals) (hf : cells ≤ R.cells ∧ slots ≤ R.slots) 
    (hn : As.length = n) (hls : ls.size = nL) (hst : st0 = As.reverse ++ .ref (rfG g o) :: rest) (hroom : (rest.map fun v => v.category).sum ≤ 8) (hdg : decode cc pc = .ok (.invokevirtual idx, 3))
    (kk : ∀ (H : Heap) (locs : List Loc), Iv g s n0 z0 h1 H locs cells slots → W p l e R s m args below meth c H locs cells slots Q (F0 m (pc + 3) ls (.int r :: rest))) : W p l e R s m args below meth c H locs cells slots Q (F0 m pc ls st0) := by
  exact k_U (mc := 0) (ms := 0) X I hM hz hc V hcode hR hf hn hls hst hroom hdg kk
theorem k_Si (X : Cx g p s m args meth c cc nL own) (I : Iv g s n0 z0 h H locs cells slots) {y : MethodName} {bytes : ByteArray} {maxL fr lo idx n : Nat} {ret : Option FieldType} {As : List Value} {r : Int32}
    (hM : CM l g y bytes maxL ret fr lo 0 0 As h (some (.int r)) h1) (hz : h1.1 = h.1 ∧ h1.2.1 = h.2.1) (V : SK own idx y n) (hcode : Cond.code y bytes maxL ret ∈ TB) (hR : fr + 1 ≤ R.frames ∧ 8 + (maxL + 11) + lo ≤ R.locals) (hf : cells ≤ R.cells ∧ slots ≤ R.slots) 
    (hn : As.length = n) (hls : ls.size = nL) (hst : st0 = As.reverse ++ rest) (hroom : (rest.map fun v => v.category).sum ≤ 8) (hdg : decode cc pc = .ok (.invokestatic idx, 3))
    (kk : ∀ (H : Heap) (locs : List Loc), Iv g s n0 z0 h1 H locs cells slots → W p l e R s m args below meth c H locs cells slots Q (F0 m (pc + 3) ls (.int r :: rest))) : W p l e R s m args below meth c H locs cells slots Q (F0 m pc ls st0) := by
  exact k_S (mc := 0) (ms := 0) X I hM hz V hcode hR hf hn hls hst hroom hdg kk
theorem k_Vl (X : Cx g p s m args meth c cc nL own) (I : Iv g s n0 z0 h H locs cells slots) {y : MethodName} {bytes : ByteArray} {maxL fr lo idx o n : Nat} {ret : Option FieldType} {cs : List Nat} {As : List Value} {r : Int64}
    (hM : CM l g y bytes maxL ret fr lo 0 0 (.ref (rfG g o) :: As) h (some (.long r)) h1) (hz : h1.1 = h.1 ∧ h1.2.1 = h.2.1) (hc : isC cs h o = some ()) (V : VK own idx cs y n) (hcode : Cond.code y bytes maxL ret ∈ TB) (hR : fr + 1 ≤ R.frames ∧ 8 + (maxL + 11) + lo ≤ R.locals) (hf : cells ≤ R.cells ∧ slots ≤ R.slots) 
    (hn : As.length = n) (hls : ls.size = nL) (hst : st0 = As.reverse ++ .ref (rfG g o) :: rest) (hroom : (rest.map fun v => v.category).sum ≤ 8) (hdg : decode cc pc = .ok (.invokevirtual idx, 3))
    (kk : ∀ (H : Heap) (locs : List Loc), Iv g s n0 z0 h1 H locs cells slots → W p l e R s m args below meth c H locs cells slots Q (F0 m (pc + 3) ls (.long r :: rest))) : W p l e R s m args below meth c H locs cells slots Q (F0 m pc ls st0) := by
  exact k_V (mc := 0) (ms := 0) X I hM hz hc V hcode hR hf hn hls hst hroom hdg kk
theorem k_Ul (X : Cx g p s m args meth c cc nL own) (I : Iv g s n0 z0 h H locs cells slots) {x y : MethodName} {owner : String} {bytes : ByteArray} {maxL fr lo idx o n ci : Nat} {ret : Option FieldType} {As : List Value} {r : Int64}
    (hM : CM l g y bytes maxL ret fr lo 0 0 (.ref (rfG g o) :: As) h (some (.long r)) h1) (hz : h1.1 = h.1 ∧ h1.2.1 = h.2.1) (hc : isC [ci] h o = some ()) (V : UK own idx ci x y owner n) (hcode : Cond.code y bytes maxL ret ∈ TB) (hR : fr + 1 ≤ R.frames ∧ 8 + (maxL + 11) + lo ≤ R.locals) (hf : cells ≤ R.cells ∧ slots ≤ R.slots) 
    (hn : As.length = n) (hls : ls.size = nL) (hst : st0 = As.reverse ++ .ref (rfG g o) :: rest) (hroom : (rest.map fun v => v.category).sum ≤ 8) (hdg : decode cc pc = .ok (.invokevirtual idx, 3))
    (kk : ∀ (H : Heap) (locs : List Loc), Iv g s n0 z0 h1 H locs cells slots → W p l e R s m args below meth c H locs cells slots Q (F0 m (pc + 3) ls (.long r :: rest))) : W p l e R s m args below meth c H locs cells slots Q (F0 m pc ls st0) := by
  exact k_U (mc := 0) (ms := 0) X I hM hz hc V hcode hR hf hn hls hst hroom hdg kk
theorem k_Sl (X : Cx g p s m args meth c cc nL own) (I : Iv g s n0 z0 h H locs cells slots) {y : MethodName} {bytes : ByteArray} {maxL fr lo idx n : Nat} {ret : Option FieldType} {As : List Value} {r : Int64}
    (hM : CM l g y bytes maxL ret fr lo 0 0 As h (some (.long r)) h1) (hz : h1.1 = h.1 ∧ h1.2.1 = h.2.1) (V : SK own idx y n) (hcode : Cond.code y bytes maxL ret ∈ TB) (hR : fr + 1 ≤ R.frames ∧ 8 + (maxL + 11) + lo ≤ R.locals) (hf : cells ≤ R.cells ∧ slots ≤ R.slots) 
    (hn : As.length = n) (hls : ls.size = nL) (hst : st0 = As.reverse ++ rest) (hroom : (rest.map fun v => v.category).sum ≤ 8) (hdg : decode cc pc = .ok (.invokestatic idx, 3))
    (kk : ∀ (H : Heap) (locs : List Loc), Iv g s n0 z0 h1 H locs cells slots → W p l e R s m args below meth c H locs cells slots Q (F0 m (pc + 3) ls (.long r :: rest))) : W p l e R s m args below meth c H locs cells slots Q (F0 m pc ls st0) := by
  exact k_S (mc := 0) (ms := 0) X I hM hz V hcode hR hf hn hls hst hroom hdg kk
theorem k_Vr (X : Cx g p s m args meth c cc nL own) (I : Iv g s n0 z0 h H locs cells slots) {y : MethodName} {bytes : ByteArray} {maxL fr lo idx o n : Nat} {ret : Option FieldType} {cs : List Nat} {As : List Value} {r : Nat}
    (hM : CM l g y bytes maxL ret fr lo 0 0 (.ref (rfG g o) :: As) h (some (.ref r)) h1) (hz : h1.1 = h.1 ∧ h1.2.1 = h.2.1) (hc : isC cs h o = some ()) (V : VK own idx cs y n) (hcode : Cond.code y bytes maxL ret ∈ TB) (hR : fr + 1 ≤ R.frames ∧ 8 + (maxL + 11) + lo ≤ R.locals) (hf : cells ≤ R.cells ∧ slots ≤ R.slots) 
    (hn : As.length = n) (hls : ls.size = nL) (hst : st0 = As.reverse ++ .ref (rfG g o) :: rest) (hroom : (rest.map fun v => v.category).sum ≤ 8) (hdg : decode cc pc = .ok (.invokevirtual idx, 3))
    (kk : ∀ (H : Heap) (locs : List Loc), Iv g s n0 z0 h1 H locs cells slots → W p l e R s m args below meth c H locs cells slots Q (F0 m (pc + 3) ls (.ref (rfG g r) :: rest))) : W p l e R s m args below meth c H locs cells slots Q (F0 m pc ls st0) := by
  exact k_V (mc := 0) (ms := 0) X I hM hz hc V hcode hR hf hn hls hst hroom hdg kk
theorem k_Ur (X : Cx g p s m args meth c cc nL own) (I : Iv g s n0 z0 h H locs cells slots) {x y : MethodName} {owner : String} {bytes : ByteArray} {maxL fr lo idx o n ci : Nat} {ret : Option FieldType} {As : List Value} {r : Nat}
    (hM : CM l g y bytes maxL ret fr lo 0 0 (.ref (rfG g o) :: As) h (some (.ref r)) h1) (hz : h1.1 = h.1 ∧ h1.2.1 = h.2.1) (hc : isC [ci] h o = some ()) (V : UK own idx ci x y owner n) (hcode : Cond.code y bytes maxL ret ∈ TB) (hR : fr + 1 ≤ R.frames ∧ 8 + (maxL + 11) + lo ≤ R.locals) (hf : cells ≤ R.cells ∧ slots ≤ R.slots) 
    (hn : As.length = n) (hls : ls.size = nL) (hst : st0 = As.reverse ++ .ref (rfG g o) :: rest) (hroom : (rest.map fun v => v.category).sum ≤ 8) (hdg : decode cc pc = .ok (.invokevirtual idx, 3))
    (kk : ∀ (H : Heap) (locs : List Loc), Iv g s n0 z0 h1 H locs cells slots → W p l e R s m args below meth c H locs cells slots Q (F0 m (pc + 3) ls (.ref (rfG g r) :: rest))) : W p l e R s m args below meth c H locs cells slots Q (F0 m pc ls st0) := by
  exact k_U (mc := 0) (ms := 0) X I hM hz hc V hcode hR hf hn hls hst hroom hdg kk
theorem k_Sr (X : Cx g p s m args meth c cc nL own) (I : Iv g s n0 z0 h H locs cells slots) {y : MethodName} {bytes : ByteArray} {maxL fr lo idx n : Nat} {ret : Option FieldType} {As : List Value} {r : Nat}
    (hM : CM l g y bytes maxL ret fr lo 0 0 As h (some (.ref r)) h1) (hz : h1.1 = h.1 ∧ h1.2.1 = h.2.1) (V : SK own idx y n) (hcode : Cond.code y bytes maxL ret ∈ TB) (hR : fr + 1 ≤ R.frames ∧ 8 + (maxL + 11) + lo ≤ R.locals) (hf : cells ≤ R.cells ∧ slots ≤ R.slots) 
    (hn : As.length = n) (hls : ls.size = nL) (hst : st0 = As.reverse ++ rest) (hroom : (rest.map fun v => v.category).sum ≤ 8) (hdg : decode cc pc = .ok (.invokestatic idx, 3))
    (kk : ∀ (H : Heap) (locs : List Loc), Iv g s n0 z0 h1 H locs cells slots → W p l e R s m args below meth c H locs cells slots Q (F0 m (pc + 3) ls (.ref (rfG g r) :: rest))) : W p l e R s m args below meth c H locs cells slots Q (F0 m pc ls st0) := by
  exact k_S (mc := 0) (ms := 0) X I hM hz V hcode hR hf hn hls hst hroom hdg kk
theorem k_Vv (X : Cx g p s m args meth c cc nL own) (I : Iv g s n0 z0 h H locs cells slots) {y : MethodName} {bytes : ByteArray} {maxL fr lo idx o n : Nat} {ret : Option FieldType} {cs : List Nat} {As : List Value} 
    (hM : CM l g y bytes maxL ret fr lo 0 0 (.ref (rfG g o) :: As) h none h1) (hz : h1.1 = h.1 ∧ h1.2.1 = h.2.1) (hc : isC cs h o = some ()) (V : VK own idx cs y n) (hcode : Cond.code y bytes maxL ret ∈ TB) (hR : fr + 1 ≤ R.frames ∧ 8 + (maxL + 11) + lo ≤ R.locals) (hf : cells ≤ R.cells ∧ slots ≤ R.slots) 
    (hn : As.length = n) (hls : ls.size = nL) (hst : st0 = As.reverse ++ .ref (rfG g o) :: rest) (hroom : (rest.map fun v => v.category).sum ≤ 8) (hdg : decode cc pc = .ok (.invokevirtual idx, 3))
    (kk : ∀ (H : Heap) (locs : List Loc), Iv g s n0 z0 h1 H locs cells slots → W p l e R s m args below meth c H locs cells slots Q (F0 m (pc + 3) ls (rest))) : W p l e R s m args below meth c H locs cells slots Q (F0 m pc ls st0) := by
  exact k_V (mc := 0) (ms := 0) X I hM hz hc V hcode hR hf hn hls hst hroom hdg kk
theorem k_Uv (X : Cx g p s m args meth c cc nL own) (I : Iv g s n0 z0 h H locs cells slots) {x y : MethodName} {owner : String} {bytes : ByteArray} {maxL fr lo idx o n ci : Nat} {ret : Option FieldType} {As : List Value} 
    (hM : CM l g y bytes maxL ret fr lo 0 0 (.ref (rfG g o) :: As) h none h1) (hz : h1.1 = h.1 ∧ h1.2.1 = h.2.1) (hc : isC [ci] h o = some ()) (V : UK own idx ci x y owner n) (hcode : Cond.code y bytes maxL ret ∈ TB) (hR : fr + 1 ≤ R.frames ∧ 8 + (maxL + 11) + lo ≤ R.locals) (hf : cells ≤ R.cells ∧ slots ≤ R.slots) 
    (hn : As.length = n) (hls : ls.size = nL) (hst : st0 = As.reverse ++ .ref (rfG g o) :: rest) (hroom : (rest.map fun v => v.category).sum ≤ 8) (hdg : decode cc pc = .ok (.invokevirtual idx, 3))
    (kk : ∀ (H : Heap) (locs : List Loc), Iv g s n0 z0 h1 H locs cells slots → W p l e R s m args below meth c H locs cells slots Q (F0 m (pc + 3) ls (rest))) : W p l e R s m args below meth c H locs cells slots Q (F0 m pc ls st0) := by
  exact k_U (mc := 0) (ms := 0) X I hM hz hc V hcode hR hf hn hls hst hroom hdg kk
theorem k_Sv (X : Cx g p s m args meth c cc nL own) (I : Iv g s n0 z0 h H locs cells slots) {y : MethodName} {bytes : ByteArray} {maxL fr lo idx n : Nat} {ret : Option FieldType} {As : List Value} 
    (hM : CM l g y bytes maxL ret fr lo 0 0 As h none h1) (hz : h1.1 = h.1 ∧ h1.2.1 = h.2.1) (V : SK own idx y n) (hcode : Cond.code y bytes maxL ret ∈ TB) (hR : fr + 1 ≤ R.frames ∧ 8 + (maxL + 11) + lo ≤ R.locals) (hf : cells ≤ R.cells ∧ slots ≤ R.slots) 
    (hn : As.length = n) (hls : ls.size = nL) (hst : st0 = As.reverse ++ rest) (hroom : (rest.map fun v => v.category).sum ≤ 8) (hdg : decode cc pc = .ok (.invokestatic idx, 3))
    (kk : ∀ (H : Heap) (locs : List Loc), Iv g s n0 z0 h1 H locs cells slots → W p l e R s m args below meth c H locs cells slots Q (F0 m (pc + 3) ls (rest))) : W p l e R s m args below meth c H locs cells slots Q (F0 m pc ls st0) := by
  exact k_S (mc := 0) (ms := 0) X I hM hz V hcode hR hf hn hls hst hroom hdg kk
theorem k_Vq (X : Cx g p s m args meth c cc nL own) (I : Iv g s n0 z0 h H locs cells slots) {y : MethodName} {bytes : ByteArray} {maxL fr lo idx o n : Nat} {ret : Option FieldType} {cs : List Nat} {As : List Value} {r : Option Nat}
    (hM : CM l g y bytes maxL ret fr lo 0 0 (.ref (rfG g o) :: As) h (some (qV r)) h1) (hz : h1.1 = h.1 ∧ h1.2.1 = h.2.1) (hc : isC cs h o = some ()) (V : VK own idx cs y n) (hcode : Cond.code y bytes maxL ret ∈ TB) (hR : fr + 1 ≤ R.frames ∧ 8 + (maxL + 11) + lo ≤ R.locals) (hf : cells ≤ R.cells ∧ slots ≤ R.slots) 
    (hn : As.length = n) (hls : ls.size = nL) (hst : st0 = As.reverse ++ .ref (rfG g o) :: rest) (hroom : (rest.map fun v => v.category).sum ≤ 8) (hdg : decode cc pc = .ok (.invokevirtual idx, 3))
    (kk : ∀ (H : Heap) (locs : List Loc), Iv g s n0 z0 h1 H locs cells slots → W p l e R s m args below meth c H locs cells slots Q (F0 m (pc + 3) ls (va_rf (r.map (rfG g)) :: rest))) : W p l e R s m args below meth c H locs cells slots Q (F0 m pc ls st0) := by
  cases r with
  | none => exact k_V (mc := 0) (ms := 0) X I hM hz hc V hcode hR hf hn hls hst hroom hdg kk
  | some x => exact k_V (mc := 0) (ms := 0) X I hM hz hc V hcode hR hf hn hls hst hroom hdg kk
theorem k_Uq (X : Cx g p s m args meth c cc nL own) (I : Iv g s n0 z0 h H locs cells slots) {x y : MethodName} {owner : String} {bytes : ByteArray} {maxL fr lo idx o n ci : Nat} {ret : Option FieldType} {As : List Value} {r : Option Nat}
    (hM : CM l g y bytes maxL ret fr lo 0 0 (.ref (rfG g o) :: As) h (some (qV r)) h1) (hz : h1.1 = h.1 ∧ h1.2.1 = h.2.1) (hc : isC [ci] h o = some ()) (V : UK own idx ci x y owner n) (hcode : Cond.code y bytes maxL ret ∈ TB) (hR : fr + 1 ≤ R.frames ∧ 8 + (maxL + 11) + lo ≤ R.locals) (hf : cells ≤ R.cells ∧ slots ≤ R.slots) 
    (hn : As.length = n) (hls : ls.size = nL) (hst : st0 = As.reverse ++ .ref (rfG g o) :: rest) (hroom : (rest.map fun v => v.category).sum ≤ 8) (hdg : decode cc pc = .ok (.invokevirtual idx, 3))
    (kk : ∀ (H : Heap) (locs : List Loc), Iv g s n0 z0 h1 H locs cells slots → W p l e R s m args below meth c H locs cells slots Q (F0 m (pc + 3) ls (va_rf (r.map (rfG g)) :: rest))) : W p l e R s m args below meth c H locs cells slots Q (F0 m pc ls st0) := by
  cases r with
  | none => exact k_U (mc := 0) (ms := 0) X I hM hz hc V hcode hR hf hn hls hst hroom hdg kk
  | some x => exact k_U (mc := 0) (ms := 0) X I hM hz hc V hcode hR hf hn hls hst hroom hdg kk
theorem k_Sq (X : Cx g p s m args meth c cc nL own) (I : Iv g s n0 z0 h H locs cells slots) {y : MethodName} {bytes : ByteArray} {maxL fr lo idx n : Nat} {ret : Option FieldType} {As : List Value} {r : Option Nat}
    (hM : CM l g y bytes maxL ret fr lo 0 0 As h (some (qV r)) h1) (hz : h1.1 = h.1 ∧ h1.2.1 = h.2.1) (V : SK own idx y n) (hcode : Cond.code y bytes maxL ret ∈ TB) (hR : fr + 1 ≤ R.frames ∧ 8 + (maxL + 11) + lo ≤ R.locals) (hf : cells ≤ R.cells ∧ slots ≤ R.slots) 
    (hn : As.length = n) (hls : ls.size = nL) (hst : st0 = As.reverse ++ rest) (hroom : (rest.map fun v => v.category).sum ≤ 8) (hdg : decode cc pc = .ok (.invokestatic idx, 3))
    (kk : ∀ (H : Heap) (locs : List Loc), Iv g s n0 z0 h1 H locs cells slots → W p l e R s m args below meth c H locs cells slots Q (F0 m (pc + 3) ls (va_rf (r.map (rfG g)) :: rest))) : W p l e R s m args below meth c H locs cells slots Q (F0 m pc ls st0) := by
  cases r with
  | none => exact k_S (mc := 0) (ms := 0) X I hM hz V hcode hR hf hn hls hst hroom hdg kk
  | some x => exact k_S (mc := 0) (ms := 0) X I hM hz V hcode hR hf hn hls hst hroom hdg kk
theorem k_rr (X : Cx g p s m args meth c cc nL own) (I : Iv g s n0 z0 h H locs cells slots) {rt : FieldType} (hr : meth.sig.returnType = some rt) (hrt : (∃ n, rt = .object n) ∨ ∃ t, rt = .array t) {x : Nat} (hdg : decode cc pc = .ok (.areturn, 1)) : W p l e R s m args below meth c H locs cells slots (MQ below (QG g (some (.ref x)) h) args s cells slots (AG g)) (F0 m pc ls [.ref (rfG g x)]) :=
  W.aret (v := .ref (rfG g x)) X.1 X.2.1 hr hrt (Or.inr ⟨_, rfl⟩) (k_end (v := some (.ref x)) I) I.2.1.2.2 hdg X.2.2.2.2.2.2
theorem k_rn (X : Cx g p s m args meth c cc nL own) (I : Iv g s n0 z0 h H locs cells slots) {rt : FieldType} (hr : meth.sig.returnType = some rt) (hrt : (∃ n, rt = .object n) ∨ ∃ t, rt = .array t) (hdg : decode cc pc = .ok (.areturn, 1)) : W p l e R s m args below meth c H locs cells slots (MQ below (QG g (some .null) h) args s cells slots (AG g)) (F0 m pc ls [.null]) :=
  W.aret (v := .null) X.1 X.2.1 hr hrt (Or.inl rfl) (k_end (v := some .null) I) I.2.1.2.2 hdg X.2.2.2.2.2.2
end CALLN
