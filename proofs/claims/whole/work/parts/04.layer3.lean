section VR3
variable {p : Program} {l : Launch} {e : Env} {R : Room} {s : State} {m : MethodId} {args : Array Value} {below : List Frame} {meth : Method} {c : Code} {nc ns : Nat} {Q : State → Prop} {E : gE} {nL : Nat} {F : gS} {pc : Nat} {lv : List (Nat × Value)} {st : List Value}
variable {cc : ByteArray} {own : String} {ret : Option FieldType}
theorem v_copy (hC : CX p s m args meth c cc own ret E nL) {idx k0 k1 n0 n1 n' : Nat} {n : Int32} {P : gS → Prop} (hl : Cond.methodLink own idx arraycopyName ∈ tblG) (hnat : Cond.native arraycopyName ∈ tblG) (hst : Cond.static arraycopyName ∈ tblG) (hi : Cond.initialized "java/lang/System" ∈ tblG)
    (hk0 : kd k0 = 1000 + n0) (hn0 : n0 < 1000) (hk1 : kd k1 = 1000 + n1) (hn1 : n1 < 1000) (h3 : ¬ n < 0) (hn' : n.toNatClampNeg = n') (h4 : n' ≤ n0) (h5 : n' ≤ n1) (hR : 1 ≤ R.frames ∧ (st.map fun v => v.category).sum + (nativeFrameWords "java/lang/System" "arraycopy" 5 + 11) ≤ R.locals) (hd : decode cc pc = .ok (.invokestatic idx, 3))
    (h : Nm (upR F k1 (va_cpy (F k0) (F k1) 0 0 n')) P) (kk : ∀ G, P G → VV p l e R s m args below meth c nc ns Q E nL G (pc + 3) lv st) : VV p l e R s m args below meth c nc ns Q E nL F pc lv (.int n :: .int 0 :: .ref (ad E k1) :: .int 0 :: .ref (ad E k0) :: st) := by
  intro H locs ls hP hS hls
  have hts := hC.2.2.2.2.1
  have z : (0 : Int32).toNatClampNeg = 0 := by decide +kernel
  refine va_copyi hC.1 hC.2.1 (hC.2.2.1.trans hls.1.symm) hC.2.2.2.1 (hts _ hl) (hts _ hnat) (hts _ hst) (hts _ hi) hC.2.2.2.2.2.1.1 hP (gD hC.2.2.2.2.2.1 F) hS k0 k1 0 0 (w_i hk0 hn0) (w_i hk1 hn1) rfl rfl rfl (by decide +kernel) (by decide +kernel) h3 (by rw [z, hn']; omega) (by rw [z, hn']; omega) (fun _ _ => rfl) hR.1 hR.2 hd (fun H1 locs1 hP1 _ hS1 => kk _ h H1 locs1 ls ?_ hS1 hls)
  rw [z, hn'] at hP1
  have e := gws_set E F (k := k1) (va_cpy (F k0) (F k1) 0 0 n')
  rw [hk1, cE_i E n1 k1 _ hn1] at e
  rw [e] at hP1
  exact hP1
theorem v_tin (hC : CX p s m args meth c cc own ret E nL) {dflt lo hi : Int} {offs : Array Int} {len : Nat} {x : Int32} {off : Int} {tgt : Nat} (hd : decode cc pc = .ok (.tableswitch dflt lo hi offs, len)) (k : Int) (hx : x.toInt = k) (h1 : ¬ k < lo) (h2 : ¬ hi < k) (ho : offs[(k - lo).toNat]? = some off) (ht : (pc : Int) + off = (tgt : Int)) (kk : VV p l e R s m args below meth c nc ns Q E nL F tgt lv st) : VV p l e R s m args below meth c nc ns Q E nL F pc lv (.int x :: st) :=
  fun H locs ls hP hS hl => lv_tableIn hC.1 hC.2.1 hd (by rw [hx]; exact h1) (by rw [hx]; exact h2) (by rw [hx]; exact ho) ht (kk H locs ls hP hS hl)
theorem v_tout (hC : CX p s m args meth c cc own ret E nL) {dflt lo hi : Int} {offs : Array Int} {len : Nat} {x : Int32} {tgt : Nat} (hd : decode cc pc = .ok (.tableswitch dflt lo hi offs, len)) (h : x.toInt < lo ∨ hi < x.toInt) (ht : (pc : Int) + dflt = (tgt : Int)) (kk : VV p l e R s m args below meth c nc ns Q E nL F tgt lv st) : VV p l e R s m args below meth c nc ns Q E nL F pc lv (.int x :: st) :=
  fun H locs ls hP hS hl => lv_tableOut hC.1 hC.2.1 hd h ht (kk H locs ls hP hS hl)
theorem v_ldcS (hC : CX p s m args meth c cc own ret E nL) {idx q : Nat} {tx : String} (hR : vk_R own idx tx q s) (hd : decode cc pc = .ok (.ldc idx, 2)) (kk : VV p l e R s m args below meth c nc ns Q E nL F (pc + 2) lv (.ref q :: st)) : VV p l e R s m args below meth c nc ns Q E nL F pc lv st :=
  fun H locs ls hP hS hl => va_ldcS hC.1 hC.2.1 hC.2.2.2.1 hR hd (kk H locs ls hP hS hl)
theorem v_sgetf (hC : CX p s m args meth c cc own ret E nL) {idx q : Nat} {o n d : String} {v : Value} (hE : va_OF o n d v q (gA E) s s.heap) (hw : Cond.fieldLink own idx o n d ∈ tblG) (hd : decode cc pc = .ok (.getfield idx, 3)) (kk : VV p l e R s m args below meth c nc ns Q E nL F (pc + 3) lv (v :: st)) : VV p l e R s m args below meth c nc ns Q E nL F pc lv (.ref q :: st) :=
  fun H locs ls hP hS hl => vk_getf hC.1 hC.2.1 hE hS hC.2.2.2.1 (hC.2.2.2.2.1 _ hw) (fun _ h => h) hd (kk H locs ls hP hS hl)
theorem v_tbald (hC : CX p s m args meth c cc own ret E nL) {t N : Nat} {f : Nat → Int32} {i : Int32} {P : Prop} (hT : va_T .byte t N (fun j => .int (f j)) (gA E) s s.heap) (hd : decode cc pc = .ok (.baload, 1)) (h : vp_in i N ∧ P) (kk : P → VV p l e R s m args below meth c nc ns Q E nL F (pc + 1) lv (.int (f i.toNatClampNeg) :: st)) : VV p l e R s m args below meth c nc ns Q E nL F pc lv (.int i :: .ref t :: st) :=
  fun H locs ls hP hS hl => va_tb hC.1 hC.2.1 hT hS h.1 rfl hd (kk h.2 H locs ls hP hS hl)
theorem v_tlen (hC : CX p s m args meth c cc own ret E nL) {ty : FieldType} {t N : Nat} {f : Nat → Value} {v : Int32} (hT : va_T ty t N f (gA E) s s.heap) (hv : Int32.ofNat N = v) (hd : decode cc pc = .ok (.arraylength, 1)) (kk : VV p l e R s m args below meth c nc ns Q E nL F (pc + 1) lv (.int v :: st)) : VV p l e R s m args below meth c nc ns Q E nL F pc lv (.ref t :: st) :=
  fun H locs ls hP hS hl => va_tlen hC.1 hC.2.1 hT hS hv hd (kk H locs ls hP hS hl)
theorem v_lcmp (hC : CX p s m args meth c cc own ret E nL) {x y : Int64} (hd : decode cc pc = .ok (.lcmp, 1)) (kk : VV p l e R s m args below meth c nc ns Q E nL F (pc + 1) lv (.int (if y < x then 1 else if x = y then 0 else -1) :: st)) : VV p l e R s m args below meth c nc ns Q E nL F pc lv (.long y :: .long x :: st) :=
  fun H locs ls hP hS hl => W.lcmp hC.1 hC.2.1 hd (kk H locs ls hP hS hl)
end VR3
/-- the cells of a kind: where its parts lie -/
theorem kd_part : ∀ k, k < 150 → (kd k = 0 → kd (k + 1) = 1016 ∧ kd (k + 2) = 1007) ∧ (kd k = 1 → kd (k + 1) = 1016 ∧ kd (k + 2) = 1016) ∧ (kd k = 7 → kd (k + 1) = 1006) := by decide +kernel
theorem kd_c1 {k : Nat} (h : kd k = 0) : kd (k + 1) = 1016 := ((kd_part k (kd_lt h (by decide))).1 h).1
theorem kd_c2 {k : Nat} (h : kd k = 0) : kd (k + 2) = 1007 := ((kd_part k (kd_lt h (by decide))).1 h).2
theorem kd_d1 {k : Nat} (h : kd k = 1) : kd (k + 1) = 1016 := ((kd_part k (kd_lt h (by decide))).2.1 h).1
theorem kd_d2 {k : Nat} (h : kd k = 1) : kd (k + 2) = 1016 := ((kd_part k (kd_lt h (by decide))).2.1 h).2
theorem kd_p1 {k : Nat} (h : kd k = 7) : kd (k + 1) = 1006 := (kd_part k (kd_lt h (by decide))).2.2 h
theorem kd_pl : ∀ i, i < 6 → kd (37 + 2 * i) = 7 := by decide +kernel
theorem kd_ck : ∀ i, i < 24 → kd (49 + 3 * i) = 0 := by decide +kernel
theorem in_lt {i : Int32} {n : Nat} (h : vp_in i n) : i.toNatClampNeg < n := Nat.not_le.mp fun q => h (Or.inr q)
