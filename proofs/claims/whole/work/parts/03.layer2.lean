/-! fields: a link of a class' pool, the field's class by its number, the field by its place -/
def FL (own : String) (idx ci j : Nat) : Prop := ∃ (C : String) (T : u_T) (N : Nat), vwCl[ci]? = some (C, T, N) ∧ j < N ∧ (∀ w ∈ u_ws C T N, w ∈ tblG) ∧ Cond.fieldLink own idx (T j).1 (T j).2.1 (T j).2.2.1 ∈ tblG ∧ ci < 99
def FP (own : String) (idx ci j : Nat) (ty : FieldType) : Prop := ∃ (C : String) (T : u_T) (N : Nat) (ty0 : Nat → FieldType), vwCl[ci]? = some (C, T, N) ∧ j < N ∧ (∀ w ∈ u_ws C T N, w ∈ tblG) ∧ Cond.fieldLink own idx (T j).1 (T j).2.1 (T j).2.2.1 ∈ tblG ∧ ci < 99 ∧
  (∀ k, k < N → parseFieldDescriptor (T k).2.2.1 = some (ty0 k)) ∧ (∀ a, a < N → ∀ b, b < N → a ≠ b → (T a).2.1 ≠ (T b).2.1) ∧ (T j).2.2.2 = false ∧ parseFieldDescriptor (T j).2.2.1 = some ty
/-- an instance method: its words -/
def MV (y : MethodName) (bytes : ByteArray) (maxL : Nat) (ret : Option FieldType) (n : Nat) : Prop :=
  Cond.instanceMethod y ∈ tblG ∧ Cond.selects y.cls y y ∈ tblG ∧ Cond.initialized y.cls ∈ tblG ∧ Cond.code y bytes maxL ret ∈ tblG ∧
  (y.cls ≠ "java/lang/invoke/MethodHandle" ∧ y.cls ≠ "java/lang/invoke/VarHandle" ∧ (parseMethodDescriptor y.desc).map (fun d => d.parameters.length) = some n)
def MSt (y : MethodName) (bytes : ByteArray) (maxL : Nat) (ret : Option FieldType) (n : Nat) : Prop :=
  Cond.static y ∈ tblG ∧ Cond.initialized y.cls ∈ tblG ∧ Cond.code y bytes maxL ret ∈ tblG ∧
  (y.cls ≠ "java/lang/invoke/MethodHandle" ∧ y.cls ≠ "java/lang/invoke/VarHandle" ∧ (parseMethodDescriptor y.desc).map (fun d => d.parameters.length) = some n)
abbrev wsG (y : MethodName) (bytes : ByteArray) (maxL : Nat) (ret : Option FieldType) : List Cond := Cond.code y bytes maxL ret :: tblG
theorem wsG_in {y : MethodName} {bytes : ByteArray} {maxL : Nat} {ret : Option FieldType} (h : Cond.code y bytes maxL ret ∈ tblG) : ∀ w ∈ wsG y bytes maxL ret, w ∈ tblG := fun w hw => by
  rcases List.mem_cons.mp hw with rfl | q
  · exact h
  · exact q
/-- contracts: an int, a long, nothing, the reference to a known cell -/
abbrev CtI (l : Launch) (E : gE) (y : MethodName) (bytes : ByteArray) (maxL : Nat) (ret : Option FieldType) (rm : Room) (av : List Value) (F : gS) (post : Int32 → gS → Prop) : Prop :=
  Met l y (wsG y bytes maxL ret) rm (va_Pc av (gP E F)) (va_Qi post (gB E) (gA E)) 0 0 (gA E)
abbrev CtL (l : Launch) (E : gE) (y : MethodName) (bytes : ByteArray) (maxL : Nat) (ret : Option FieldType) (rm : Room) (av : List Value) (F : gS) (post : Int64 → gS → Prop) : Prop :=
  Met l y (wsG y bytes maxL ret) rm (va_Pc av (gP E F)) (va_Ql post (gB E) (gA E)) 0 0 (gA E)
abbrev CtV (l : Launch) (E : gE) (y : MethodName) (bytes : ByteArray) (maxL : Nat) (ret : Option FieldType) (rm : Room) (av : List Value) (F : gS) (post : gS → Prop) : Prop :=
  Met l y (wsG y bytes maxL ret) rm (va_Pc av (gP E F)) (va_Qv post (gB E) (gA E)) 0 0 (gA E)
abbrev CtR (l : Launch) (E : gE) (y : MethodName) (bytes : ByteArray) (maxL : Nat) (ret : Option FieldType) (rm : Room) (av : List Value) (F : gS) (k : Nat) (post : gS → Prop) : Prop :=
  Met l y (wsG y bytes maxL ret) rm (va_Pc av (gP E F)) (va_Qr post (fun G r t => r = ad E k ∧ gB E G t) (gA E)) 0 0 (gA E)
/-- a method's walk, from its entry -/
theorem ct_of {l : Launch} {E : gE} {y : MethodName} {bytes : ByteArray} {maxL : Nat} {ret : Option FieldType} {rm : Room} {av : List Value} {F : gS} {Qc : Array Value → State → Outcome → State → Prop}
    (hy : plainName y.cls = true) (hn : (lg_sl av).length ≤ maxL)
    (body : ∀ (p : Program) (e : Env) (s : State) (m : MethodId) (below : List Frame) (meth : Method) (c : Code), CX p s m av.toArray meth c bytes y.cls ret E maxL →
      VV p l e rm s m av.toArray below meth c 0 0 (MQ below Qc av.toArray s 0 0 (gA E)) E maxL F 0 (lv_args 0 av) []) :
    Met l y (wsG y bytes maxL ret) rm (va_Pc av (gP E F)) Qc 0 0 (gA E) := by
  refine Met.ofW (cc := bytes) (maxL := maxL) (ret := ret) hy rfl ?_
  intro p e s m args below meth c s₁ B hml hv
  obtain ⟨rfl, hP, hG⟩ := hv
  have hts := atoms_spec (ws := wsG y bytes maxL ret) B.pre
  have hown : s.vm.findClass y.cls = some m.cls := findClass_of_methodNamed B.named
  have hC : CX p s m av.toArray meth c bytes y.cls ret E maxL := ⟨B.exec, B.bytes, hml, hown, fun w hw => hts w (List.mem_cons_of_mem _ hw), hG, B.returns, B.notSynchronized⟩
  have hl := lv_entry av (n := maxL) hn
  rw [lg_entry_eq]
  exact body p e s m below meth c hC s.heap [] _ hP va_S.rf hl
section VR2
variable {p : Program} {l : Launch} {e : Env} {R : Room} {s : State} {m : MethodId} {args : Array Value} {below : List Frame} {meth : Method} {c : Code} {nc ns : Nat} {Q : State → Prop} {E : gE} {nL : Nat} {F : gS} {pc : Nat} {lv : List (Nat × Value)} {st : List Value}
variable {cc : ByteArray} {own : String} {ret : Option FieldType}
theorem v_get (hC : CX p s m args meth c cc own ret E nL) {k ci j idx : Nat} {v : Value} (hf : FL own idx ci j) (hk : kd k = ci) (hv : (flds E ci k (F k))[j]? = some v) (hd : decode cc pc = .ok (.getfield idx, 3)) (kk : VV p l e R s m args below meth c nc ns Q E nL F (pc + 3) lv (v :: st)) : VV p l e R s m args below meth c nc ns Q E nL F pc lv (.ref (ad E k) :: st) := by
  intro H locs ls hP hS hl
  obtain ⟨C, T, N, h1, h2, h3, h4, h5⟩ := hf
  have hk2 := kd_lt hk (by omega)
  have hw := gws_at E F hk2
  rw [hk, cE_o E k (F k) (by omega)] at hw
  exact va_get hC.1 hC.2.1 hC.2.2.2.2.1 h3 hC.2.2.2.1 hC.2.2.2.2.2.1.1 hP k hw h1 j h2 (hC.2.2.2.2.1 _ h4) (fun _ h => h) hv hd (kk H locs ls hP hS hl)
theorem v_put (hC : CX p s m args meth c cc own ret E nL) {k ci j idx : Nat} {v : Value} {ty : FieldType} {f' : Nat → Int32} (hf : FP own idx ci j ty) (hk : kd k = ci) (hset : (flds E ci k (F k)).set j v = flds E ci k f') (hl0 : j < (flds E ci k (F k)).length) (hn : narrow ty v = v) (hfit : fits ty v = true) (hd : decode cc pc = .ok (.putfield idx, 3)) (kk : VV p l e R s m args below meth c nc ns Q E nL (upR F k f') (pc + 3) lv st) : VV p l e R s m args below meth c nc ns Q E nL F pc lv (v :: .ref (ad E k) :: st) := by
  intro H locs ls hP hS hl
  obtain ⟨C, T, N, ty0, h1, h2, h3, h4, h5, h6, h7, h8, h9⟩ := hf
  have hk2 := kd_lt hk (by omega)
  have hw := gws_at E F hk2
  rw [hk, cE_o E k (F k) (by omega)] at hw
  refine va_put hC.1 hC.2.1 hC.2.2.2.2.1 h3 ty0 h6 h7 hC.2.2.2.1 hC.2.2.2.2.2.1.1 hP (gD hC.2.2.2.2.2.1 F) hS k hw h1 j h2 (hC.2.2.2.2.1 _ h4) (fun _ h => h) h8 h9 hn hfit hl0 hd (fun H1 locs1 hP1 _ hS1 => kk H1 locs1 ls ?_ hS1 hl)
  rw [hset] at hP1
  have e := gws_set E F (k := k) f'
  rw [hk, cE_o E k f' (by omega)] at e
  rw [← e]
  exact hP1
theorem v_puti (hC : CX p s m args meth c cc own ret E nL) {k ci j idx : Nat} {v : Int32} {P : gS → Prop} (hf : FP own idx ci j .int) (hk : kd k = ci) (hset : (flds E ci k (F k)).set j (.int v) = flds E ci k (upd (F k) j v)) (hl0 : j < (flds E ci k (F k)).length) (hd : decode cc pc = .ok (.putfield idx, 3)) (h : Nm (upF F k j v) P) (kk : ∀ G, P G → VV p l e R s m args below meth c nc ns Q E nL G (pc + 3) lv st) : VV p l e R s m args below meth c nc ns Q E nL F pc lv (.int v :: .ref (ad E k) :: st) :=
  v_put hC hf hk hset hl0 rfl rfl hd (kk _ h)
theorem zb_n {v : Int32} (h : v = 0 ∨ v = 1) : narrow .boolean (.int v) = .int v ∧ fits .boolean (.int v) = true := by
  rcases h with rfl | rfl <;> decide +kernel
theorem v_putz (hC : CX p s m args meth c cc own ret E nL) {k ci j idx : Nat} {v : Int32} {P : gS → Prop} (hf : FP own idx ci j .boolean) (hk : kd k = ci) (hset : (flds E ci k (F k)).set j (.int v) = flds E ci k (upd (F k) j v)) (hl0 : j < (flds E ci k (F k)).length) (hd : decode cc pc = .ok (.putfield idx, 3)) (hv : v = 0 ∨ v = 1) (h : Nm (upF F k j v) P) (kk : ∀ G, P G → VV p l e R s m args below meth c nc ns Q E nL G (pc + 3) lv st) : VV p l e R s m args below meth c nc ns Q E nL F pc lv (.int v :: .ref (ad E k) :: st) :=
  v_put hC hf hk hset hl0 (zb_n hv).1 (zb_n hv).2 hd (kk _ h)
def upL (F : gS) (k j j2 : Nat) (v : Int64) : gS := fun q => if q = k then upd (upd (F k) j (gHi v)) j2 (gLo v) else F q
theorem v_putl (hC : CX p s m args meth c cc own ret E nL) {k ci j j2 idx : Nat} {v : Int64} {P : gS → Prop} (hf : FP own idx ci j .long) (hk : kd k = ci) (hset : (flds E ci k (F k)).set j (.long v) = flds E ci k (upd (upd (F k) j (gHi v)) j2 (gLo v))) (hl0 : j < (flds E ci k (F k)).length) (hd : decode cc pc = .ok (.putfield idx, 3)) (h : Nm (upL F k j j2 v) P) (kk : ∀ G, P G → VV p l e R s m args below meth c nc ns Q E nL G (pc + 3) lv st) : VV p l e R s m args below meth c nc ns Q E nL F pc lv (.long v :: .ref (ad E k) :: st) :=
  v_put hC hf hk hset hl0 rfl rfl hd (kk _ h)
/-! arrays -/
theorem w_i {E : gE} {F : gS} {k n : Nat} (hk : kd k = 1000 + n) (hn : n < 1000) : (gws E F)[k]? = some (ad E k, .inl (E.2.1 0, n, .inl (F k))) := by
  rw [gws_at E F (kd_lt hk (by omega)), hk, cE_i E n k (F k) hn]
theorem w_z {E : gE} {F : gS} {k n : Nat} (hk : kd k = 2000 + n) (hn : n < 1000) : (gws E F)[k]? = some (ad E k, .inl (E.2.1 1, n, .inl (F k))) := by
  rw [gws_at E F (kd_lt hk (by omega)), hk, cE_z E n k (F k) hn]
theorem w_b {E : gE} {F : gS} {k n : Nat} (hk : kd k = 3000 + n) (hn : n < 1000) : (gws E F)[k]? = some (ad E k, .inl (E.2.1 2, n, .inl (F k))) := by
  rw [gws_at E F (kd_lt hk (by omega)), hk, cE_b E n k (F k) hn]
theorem v_iald (hC : CX p s m args meth c cc own ret E nL) {k n : Nat} {i : Int32} {P : Prop} (hk : kd k = 1000 + n) (hn : n < 1000) (hd : decode cc pc = .ok (.iaload, 1)) (h : vp_in i n ∧ P) (kk : P → VV p l e R s m args below meth c nc ns Q E nL F (pc + 1) lv (.int (F k i.toNatClampNeg) :: st)) : VV p l e R s m args below meth c nc ns Q E nL F pc lv (.int i :: .ref (ad E k) :: st) :=
  fun H locs ls hP hS hl => va_iald hC.1 hC.2.1 hC.2.2.2.2.2.1.1 hP k 0 (w_i hk hn) rfl h.1 hd (kk h.2 H locs ls hP hS hl)
theorem v_zald (hC : CX p s m args meth c cc own ret E nL) {k n : Nat} {i : Int32} {P : Prop} (hk : kd k = 2000 + n) (hn : n < 1000) (hd : decode cc pc = .ok (.baload, 1)) (h : vp_in i n ∧ P) (kk : P → VV p l e R s m args below meth c nc ns Q E nL F (pc + 1) lv (.int (F k i.toNatClampNeg) :: st)) : VV p l e R s m args below meth c nc ns Q E nL F pc lv (.int i :: .ref (ad E k) :: st) :=
  fun H locs ls hP hS hl => va_zald hC.1 hC.2.1 hC.2.2.2.2.2.1.1 hP k 1 (w_z hk hn) rfl h.1 hd (kk h.2 H locs ls hP hS hl)
theorem v_bald (hC : CX p s m args meth c cc own ret E nL) {k n : Nat} {i : Int32} {P : Prop} (hk : kd k = 3000 + n) (hn : n < 1000) (hd : decode cc pc = .ok (.baload, 1)) (h : vp_in i n ∧ P) (kk : P → VV p l e R s m args below meth c nc ns Q E nL F (pc + 1) lv (.int (F k i.toNatClampNeg) :: st)) : VV p l e R s m args below meth c nc ns Q E nL F pc lv (.int i :: .ref (ad E k) :: st) :=
  fun H locs ls hP hS hl => va_bald hC.1 hC.2.1 hC.2.2.2.2.2.1.1 hP k 2 (w_b hk hn) rfl h.1 hd (kk h.2 H locs ls hP hS hl)
theorem v_alen (hC : CX p s m args meth c cc own ret E nL) {k n : Nat} {v : Int32} (hk : kd k = 1000 + n) (hn : n < 1000) (hv : Int32.ofNat n = v) (hd : decode cc pc = .ok (.arraylength, 1)) (kk : VV p l e R s m args below meth c nc ns Q E nL F (pc + 1) lv (.int v :: st)) : VV p l e R s m args below meth c nc ns Q E nL F pc lv (.ref (ad E k) :: st) :=
  fun H locs ls hP hS hl => va_alen hC.1 hC.2.1 hC.2.2.2.2.2.1.1 hP k 0 (w_i hk hn) rfl hv hd (kk H locs ls hP hS hl)
theorem v_iast (hC : CX p s m args meth c cc own ret E nL) {k n : Nat} {i x : Int32} {P : gS → Prop} (hk : kd k = 1000 + n) (hn : n < 1000) (hd : decode cc pc = .ok (.iastore, 1)) (h : vp_in i n ∧ Nm (upF F k i.toNatClampNeg x) P) (kk : ∀ G, P G → VV p l e R s m args below meth c nc ns Q E nL G (pc + 1) lv st) : VV p l e R s m args below meth c nc ns Q E nL F pc lv (.int x :: .int i :: .ref (ad E k) :: st) := by
  intro H locs ls hP hS hl
  refine va_iast hC.1 hC.2.1 hC.2.2.2.2.2.1.1 hP (gD hC.2.2.2.2.2.1 F) hS k 0 (w_i hk hn) rfl h.1 hd (fun H1 locs1 hP1 _ hS1 => kk _ h.2 H1 locs1 ls ?_ hS1 hl)
  have e := gws_set E F (k := k) (upd (F k) i.toNatClampNeg x)
  rw [hk, cE_i E n k _ hn] at e
  rw [e] at hP1
  exact hP1
theorem v_zast (hC : CX p s m args meth c cc own ret E nL) {k n : Nat} {i x : Int32} {P : gS → Prop} (hk : kd k = 2000 + n) (hn : n < 1000) (hd : decode cc pc = .ok (.bastore, 1)) (h : vp_in i n ∧ Nm (upF F k i.toNatClampNeg (vp_nar .boolean x)) P) (kk : ∀ G, P G → VV p l e R s m args below meth c nc ns Q E nL G (pc + 1) lv st) : VV p l e R s m args below meth c nc ns Q E nL F pc lv (.int x :: .int i :: .ref (ad E k) :: st) := by
  intro H locs ls hP hS hl
  refine va_zast hC.1 hC.2.1 hC.2.2.2.2.2.1.1 hP (gD hC.2.2.2.2.2.1 F) hS k 1 (w_z hk hn) rfl h.1 hd (fun H1 locs1 hP1 _ hS1 => kk _ h.2 H1 locs1 ls ?_ hS1 hl)
  have e := gws_set E F (k := k) (upd (F k) i.toNatClampNeg (vp_nar .boolean x))
  rw [hk, cE_z E n k _ hn] at e
  rw [e] at hP1
  exact hP1
theorem v_bast (hC : CX p s m args meth c cc own ret E nL) {k n : Nat} {i x : Int32} {P : gS → Prop} (hk : kd k = 3000 + n) (hn : n < 1000) (hd : decode cc pc = .ok (.bastore, 1)) (h : vp_in i n ∧ Nm (upF F k i.toNatClampNeg (vp_nar .byte x)) P) (kk : ∀ G, P G → VV p l e R s m args below meth c nc ns Q E nL G (pc + 1) lv st) : VV p l e R s m args below meth c nc ns Q E nL F pc lv (.int x :: .int i :: .ref (ad E k) :: st) := by
  intro H locs ls hP hS hl
  refine va_bast hC.1 hC.2.1 hC.2.2.2.2.2.1.1 hP (gD hC.2.2.2.2.2.1 F) hS k 2 (w_b hk hn) rfl h.1 hd (fun H1 locs1 hP1 _ hS1 => kk _ h.2 H1 locs1 ls ?_ hS1 hl)
  have e := gws_set E F (k := k) (upd (F k) i.toNatClampNeg (vp_nar .byte x))
  rw [hk, cE_b E n k _ hn] at e
  rw [e] at hP1
  exact hP1
theorem v_aaldP (hC : CX p s m args meth c cc own ret E nL) {i : Int32} {P : Prop} (hd : decode cc pc = .ok (.aaload, 1)) (h : vp_in i 6 ∧ P) (kk : P → VV p l e R s m args below meth c nc ns Q E nL F (pc + 1) lv (.ref (ad E (37 + 2 * i.toNatClampNeg)) :: st)) : VV p l e R s m args below meth c nc ns Q E nL F pc lv (.int i :: .ref (ad E 32) :: st) :=
  fun H locs ls hP hS hl => va_aldq (n := 6) hC.1 hC.2.1 hC.2.2.2.2.2.1.1 hP 32 3 (gws_at E F (by decide)) rfl h.1 hd (kk h.2 H locs ls hP hS hl)
theorem v_aaldC (hC : CX p s m args meth c cc own ret E nL) {i : Int32} {P : Prop} (hd : decode cc pc = .ok (.aaload, 1)) (h : vp_in i 24 ∧ P) (kk : P → VV p l e R s m args below meth c nc ns Q E nL F (pc + 1) lv (.ref (ad E (49 + 3 * i.toNatClampNeg)) :: st)) : VV p l e R s m args below meth c nc ns Q E nL F pc lv (.int i :: .ref (ad E 33) :: st) :=
  fun H locs ls hP hS hl => va_aldq (n := 24) hC.1 hC.2.1 hC.2.2.2.2.2.1.1 hP 33 4 (gws_at E F (by decide)) rfl h.1 hd (kk h.2 H locs ls hP hS hl)
/-! statics -/
theorem v_gets (hC : CX p s m args meth c cc own ret E nL) {idx : Nat} {C n d : String} {v : Value} (hZ : va_Z C n d v (gA E) s s.heap) (hw : Cond.fieldLink own idx C n d ∈ tblG) (hd : decode cc pc = .ok (.getstatic idx, 3)) (kk : VV p l e R s m args below meth c nc ns Q E nL F (pc + 3) lv (v :: st)) : VV p l e R s m args below meth c nc ns Q E nL F pc lv st :=
  fun H locs ls hP hS hl => va_gets hC.1 hC.2.1 hZ hS hC.2.2.2.1 (hC.2.2.2.2.1 _ hw) (fun _ h => h) hd (kk H locs ls hP hS hl)
theorem v_getsN (hC : CX p s m args meth c cc own ret E nL) {idx : Nat} {C n d host : String} {v : Value} (hZ : va_Z C n d v (gA E) s s.heap) (hw : Cond.fieldLinkNest own idx C n d host ∈ lw_tbl) (hd : decode cc pc = .ok (.getstatic idx, 3)) (kk : VV p l e R s m args below meth c nc ns Q E nL F (pc + 3) lv (v :: st)) : VV p l e R s m args below meth c nc ns Q E nL F pc lv st :=
  fun H locs ls hP hS hl => va_getsN hC.1 hC.2.1 hZ hS hC.2.2.2.1 ((hC.2.2.2.2.2.1.2.2.2.2.1 _ hw rfl).use rfl) (fun _ h => h) hd (kk H locs ls hP hS hl)
theorem v_tald (hC : CX p s m args meth c cc own ret E nL) {t N : Nat} {f : Nat → Int32} {i : Int32} {P : Prop} (hT : va_T .int t N (fun j => .int (f j)) (gA E) s s.heap) (hd : decode cc pc = .ok (.iaload, 1)) (h : vp_in i N ∧ P) (kk : P → VV p l e R s m args below meth c nc ns Q E nL F (pc + 1) lv (.int (f i.toNatClampNeg) :: st)) : VV p l e R s m args below meth c nc ns Q E nL F pc lv (.int i :: .ref t :: st) :=
  fun H locs ls hP hS hl => va_ti hC.1 hC.2.1 hT hS h.1 rfl hd (kk h.2 H locs ls hP hS hl)
/-! ends -/
theorem v_iret {post : Int32 → gS → Prop} {v : Int32} (hC : CX p s m args meth c cc own (some .int) E nL) (hd : decode cc pc = .ok (.ireturn, 1)) (h : post v F) : VV p l e R s m args below meth c nc ns (MQ below (va_Qi post (gB E) (gA E)) args s nc ns (gA E)) E nL F pc lv [.int v] :=
  fun H locs ls hP hS hl => W.iret hC.1 hC.2.1 hC.2.2.2.2.2.2.1 (fun t ht hW => ⟨⟨v, F, rfl, h, by show va_P _ _ _ t.heap; rw [ht]; exact hP⟩, hS.F ht⟩) hS.2.2 hd hC.2.2.2.2.2.2.2
theorem v_zret {post : Int32 → gS → Prop} {v : Int32} (hC : CX p s m args meth c cc own (some .boolean) E nL) (hd : decode cc pc = .ok (.ireturn, 1)) (hv : v = 0 ∨ v = 1) (h : post v F) : VV p l e R s m args below meth c nc ns (MQ below (va_Qi post (gB E) (gA E)) args s nc ns (gA E)) E nL F pc lv [.int v] :=
  fun H locs ls hP hS hl => W.zret hC.1 hC.2.1 hC.2.2.2.2.2.2.1 (zb_n hv).1 (fun t ht hW => ⟨⟨v, F, rfl, h, by show va_P _ _ _ t.heap; rw [ht]; exact hP⟩, hS.F ht⟩) hS.2.2 hd hC.2.2.2.2.2.2.2
theorem v_nret {ty : FieldType} {post : Int32 → gS → Prop} {v : Int32} (hC : CX p s m args meth c cc own (some ty) E nL) (hd : decode cc pc = .ok (.ireturn, 1)) (hv : narrow ty (.int v) = .int v) (h : post v F) : VV p l e R s m args below meth c nc ns (MQ below (va_Qi post (gB E) (gA E)) args s nc ns (gA E)) E nL F pc lv [.int v] :=
  fun H locs ls hP hS hl => W.zret hC.1 hC.2.1 hC.2.2.2.2.2.2.1 hv (fun t ht hW => ⟨⟨v, F, rfl, h, by show va_P _ _ _ t.heap; rw [ht]; exact hP⟩, hS.F ht⟩) hS.2.2 hd hC.2.2.2.2.2.2.2
theorem v_lret {post : Int64 → gS → Prop} {v : Int64} (hC : CX p s m args meth c cc own (some .long) E nL) (hd : decode cc pc = .ok (.lreturn, 1)) (h : post v F) : VV p l e R s m args below meth c nc ns (MQ below (va_Ql post (gB E) (gA E)) args s nc ns (gA E)) E nL F pc lv [.long v] :=
  fun H locs ls hP hS hl => W.lret hC.1 hC.2.1 hC.2.2.2.2.2.2.1 (fun t ht hW => ⟨⟨v, F, rfl, h, by show va_P _ _ _ t.heap; rw [ht]; exact hP⟩, hS.F ht⟩) hS.2.2 hd hC.2.2.2.2.2.2.2
theorem v_vret {post : gS → Prop} (hC : CX p s m args meth c cc own none E nL) (hd : decode cc pc = .ok (.return_, 1)) (h : post F) : VV p l e R s m args below meth c nc ns (MQ below (va_Qv post (gB E) (gA E)) args s nc ns (gA E)) E nL F pc lv [] :=
  fun H locs ls hP hS hl => W.vret hC.1 hC.2.1 hC.2.2.2.2.2.2.1 (fun t ht hW => ⟨⟨F, rfl, h, by show va_P _ _ _ t.heap; rw [ht]; exact hP⟩, hS.F ht⟩) hS.2.2 hd hC.2.2.2.2.2.2.2
theorem v_aret {post : gS → Prop} {k : Nat} {C : String} (hC : CX p s m args meth c cc own (some (.object C)) E nL) (hd : decode cc pc = .ok (.areturn, 1)) (h : post F) : VV p l e R s m args below meth c nc ns (MQ below (va_Qr post (fun G r t => r = ad E k ∧ gB E G t) (gA E)) args s nc ns (gA E)) E nL F pc lv [.ref (ad E k)] :=
  fun H locs ls hP hS hl => W.aret hC.1 hC.2.1 hC.2.2.2.2.2.2.1 (Or.inl ⟨_, rfl⟩) (Or.inr ⟨_, rfl⟩) (fun t ht hW => ⟨⟨F, ad E k, rfl, h, rfl, by show va_P _ _ _ t.heap; rw [ht]; exact hP⟩, hS.F ht⟩) hS.2.2 hd hC.2.2.2.2.2.2.2
/-! calls -/
theorem g_recv (hC : CX p s m args meth c cc own ret E nL) {k ci : Nat} {C : String} {T : u_T} {N : Nat} {H : Heap} (hP : va_P E.1 vwCl (gws E F) H) (hk : kd k = ci) (hci : vwCl[ci]? = some (C, T, N)) (h99 : ci < 99) : ∃ cell : Cell, H[ad E k]? = some cell ∧ cell.vm.isStatics = false ∧ s.vm.findClass C = some cell.cls := by
  have hw := gws_at E F (kd_lt hk (by omega))
  rw [hk, cE_o E k (F k) (by omega)] at hw
  exact va_recv hC.2.2.2.2.2.1.1 hP hci hw
theorem g_preV (hC : CX p s m args meth c cc own ret E nL) {k ci : Nat} {C : String} {T : u_T} {N : Nat} {H : Heap} {locs : List Loc} {As : List Value} (hP : va_P E.1 vwCl (gws E F) H) (hS : va_S (gA E) s.heap H locs) (hk : kd k = ci) (hci : vwCl[ci]? = some (C, T, N)) (h99 : ci < 99) : PreV s H C (ad E k) (va_Pc (.ref (ad E k) :: As) (gP E F)) As :=
  ⟨gP_blind E F _, g_recv hC hP hk hci h99, fun U hU hW => ⟨rfl, by show va_P _ _ _ U.heap; rw [hU]; exact hP, hC.2.2.2.2.2.1.call hS hU hW⟩⟩
theorem g_preS (hC : CX p s m args meth c cc own ret E nL) {H : Heap} {locs : List Loc} {As : List Value} (hP : va_P E.1 vwCl (gws E F) H) (hS : va_S (gA E) s.heap H locs) : PreS s H (va_Pc As (gP E F)) As :=
  ⟨gP_blind E F _, fun U hU hW => ⟨rfl, by show va_P _ _ _ U.heap; rw [hU]; exact hP, hC.2.2.2.2.2.1.call hS hU hW⟩⟩
/-- a call is set up: virtual; static; of a nest mate; of an abstract name -/
abbrev RunOf (p : Program) (l : Launch) (e : Env) (R : Room) (s : State) (m : MethodId) (args : Array Value) (below : List Frame) (meth : Method) (c : Code) (nc ns : Nat) (E : gE) (nL : Nat) (F : gS) (pc : Nat) (lv : List (Nat × Value)) (st rest : List Value) (Qa : State → Outcome → State → Prop) : Prop :=
  ∀ (H : Heap) (locs : List Loc) (ls : Array Slot), va_P E.1 vwCl (gws E F) H → va_S (gA E) s.heap H locs → lv_has ls nL lv → va_Run p l e R s m args below meth c H locs nc ns 0 0 (F0 m pc ls st) rest Qa (gA E)
theorem r_V (hC : CX p s m args meth c cc own ret E nL) {k ci idx maxL n : Nat} {y : MethodName} {bytes : ByteArray} {ret' : Option FieldType} {rm : Room} {As rest : List Value} {Qc : Array Value → State → Outcome → State → Prop} {T : u_T} {N : Nat}
    (hl : Cond.methodLink own idx y ∈ tblG) (hm : MV y bytes maxL ret' n) (hM : Met l y (wsG y bytes maxL ret') rm (va_Pc (.ref (ad E k) :: As) (gP E F)) Qc 0 0 (gA E)) (hrm : rm.cells = 0 ∧ rm.slots = 0) (hR : rm.frames + 1 ≤ R.frames ∧ 8 + (maxL + 11) + rm.locals ≤ R.locals) (hk : kd k = ci) (hci : vwCl[ci]? = some (y.cls, T, N)) (h99 : ci < 99) (hn : As.length = n) (hst : st = As.reverse ++ .ref (ad E k) :: rest) (hW : (rest.map fun v => v.category).sum ≤ 8) (hnc : nc ≤ R.cells ∧ ns ≤ R.slots) (hd : decode cc pc = .ok (.invokevirtual idx, 3)) :
    RunOf p l e R s m args below meth c nc ns E nL F pc lv st rest (Qc (Value.ref (ad E k) :: As).toArray) := by
  intro H locs ls hP hS hls
  obtain ⟨m1, m2, m3, m4, m5⟩ := hm
  have hG : GoodIn tblG (wsV own idx y.cls y (wsG y bytes maxL ret')) := tg_in (fun w hw => by
    rcases List.mem_append.mp hw with q | q
    · simp only [List.mem_cons, List.not_mem_nil, or_false] at q
      rcases q with rfl | rfl | rfl | rfl <;> assumption
    · exact wsG_in m4 w q)
  exact va_runV ⟨hC.1, hC.2.1, hC.2.2.1, hC.2.2.2.1, hC.2.2.2.2.1⟩ hM (cwV n hC.2.2.2.2.1 hG rfl hrm.1 hrm.2 ⟨rfl, m5⟩ hR) (g_preV hC hP hS hk hci h99) rfl hn hls.1 (by subst hst; rfl) (lv_room hW) hd ⟨hnc.1, hnc.2⟩
theorem r_S (hC : CX p s m args meth c cc own ret E nL) {idx maxL n : Nat} {y : MethodName} {bytes : ByteArray} {ret' : Option FieldType} {rm : Room} {As rest : List Value} {Qc : Array Value → State → Outcome → State → Prop}
    (hl : Cond.methodLink own idx y ∈ tblG) (hm : MSt y bytes maxL ret' n) (hM : Met l y (wsG y bytes maxL ret') rm (va_Pc As (gP E F)) Qc 0 0 (gA E)) (hrm : rm.cells = 0 ∧ rm.slots = 0) (hR : rm.frames + 1 ≤ R.frames ∧ 8 + (maxL + 11) + rm.locals ≤ R.locals) (hn : As.length = n) (hst : st = As.reverse ++ rest) (hW : (rest.map fun v => v.category).sum ≤ 8) (hnc : nc ≤ R.cells ∧ ns ≤ R.slots) (hd : decode cc pc = .ok (.invokestatic idx, 3)) :
    RunOf p l e R s m args below meth c nc ns E nL F pc lv st rest (Qc As.toArray) := by
  intro H locs ls hP hS hls
  obtain ⟨m1, m3, m4, m5⟩ := hm
  have hG : GoodIn tblG (va_wsS own idx y (wsG y bytes maxL ret')) := tg_in (fun w hw => by
    rcases List.mem_append.mp hw with q | q
    · simp only [List.mem_cons, List.not_mem_nil, or_false] at q
      rcases q with rfl | rfl | rfl <;> assumption
    · exact wsG_in m4 w q)
  exact va_runS ⟨hC.1, hC.2.1, hC.2.2.1, hC.2.2.2.1, hC.2.2.2.2.1⟩ hM (va_cwS n hC.2.2.2.2.1 hG rfl hrm.1 hrm.2 m5 hR) (g_preS hC hP hS) rfl hn hls.1 (by subst hst; rfl) (lv_room hW) hd ⟨hnc.1, hnc.2⟩
theorem r_VN (hC : CX p s m args meth c cc own ret E nL) {k ci idx maxL n : Nat} {y : MethodName} {host : String} {bytes : ByteArray} {ret' : Option FieldType} {rm : Room} {As rest : List Value} {Qc : Array Value → State → Outcome → State → Prop} {T : u_T} {N : Nat}
    (hl : Cond.methodLinkNest own idx y host ∈ lw_tbl) (hm : MV y bytes maxL ret' n) (hM : Met l y (wsG y bytes maxL ret') rm (va_Pc (.ref (ad E k) :: As) (gP E F)) Qc 0 0 (gA E)) (hrm : rm.cells = 0 ∧ rm.slots = 0) (hR : rm.frames + 1 ≤ R.frames ∧ 8 + (maxL + 11) + rm.locals ≤ R.locals) (hk : kd k = ci) (hci : vwCl[ci]? = some (y.cls, T, N)) (h99 : ci < 99) (hn : As.length = n) (hst : st = As.reverse ++ .ref (ad E k) :: rest) (hW : (rest.map fun v => v.category).sum ≤ 8) (hnc : nc ≤ R.cells ∧ ns ≤ R.slots) (hd : decode cc pc = .ok (.invokevirtual idx, 3)) :
    RunOf p l e R s m args below meth c nc ns E nL F pc lv st rest (Qc (Value.ref (ad E k) :: As).toArray) := by
  intro H locs ls hP hS hls
  obtain ⟨m1, m2, m3, m4, m5⟩ := hm
  have hts := hC.2.2.2.2.1
  exact va_runVN ⟨hC.1, hC.2.1, hC.2.2.1, hC.2.2.2.1, hts⟩ hM ⟨va_cnB n hts (tg_in (wsG_in m4)) rfl hrm.1 hrm.2 (hC.2.2.2.2.2.1.2.2.2.2.1 _ hl rfl) (hts _ m3) m5 hR, hts _ m1, hts _ m2⟩ (g_preV hC hP hS hk hci h99) rfl hn hls.1 (by subst hst; rfl) (lv_room hW) hd ⟨hnc.1, hnc.2⟩
theorem r_SN (hC : CX p s m args meth c cc own ret E nL) {idx maxL n : Nat} {y : MethodName} {host : String} {bytes : ByteArray} {ret' : Option FieldType} {rm : Room} {As rest : List Value} {Qc : Array Value → State → Outcome → State → Prop}
    (hl : Cond.methodLinkNest own idx y host ∈ lw_tbl) (hm : MSt y bytes maxL ret' n) (hM : Met l y (wsG y bytes maxL ret') rm (va_Pc As (gP E F)) Qc 0 0 (gA E)) (hrm : rm.cells = 0 ∧ rm.slots = 0) (hR : rm.frames + 1 ≤ R.frames ∧ 8 + (maxL + 11) + rm.locals ≤ R.locals) (hn : As.length = n) (hst : st = As.reverse ++ rest) (hW : (rest.map fun v => v.category).sum ≤ 8) (hnc : nc ≤ R.cells ∧ ns ≤ R.slots) (hd : decode cc pc = .ok (.invokestatic idx, 3)) :
    RunOf p l e R s m args below meth c nc ns E nL F pc lv st rest (Qc As.toArray) := by
  intro H locs ls hP hS hls
  obtain ⟨m1, m3, m4, m5⟩ := hm
  have hts := hC.2.2.2.2.1
  exact va_runSN ⟨hC.1, hC.2.1, hC.2.2.1, hC.2.2.2.1, hts⟩ hM ⟨va_cnB n hts (tg_in (wsG_in m4)) rfl hrm.1 hrm.2 (hC.2.2.2.2.2.1.2.2.2.2.1 _ hl rfl) (hts _ m3) m5 hR, hts _ m1, trivial⟩ (g_preS hC hP hS) rfl hn hls.1 (by subst hst; rfl) (lv_room hW) hd ⟨hnc.1, hnc.2⟩
theorem r_A (hC : CX p s m args meth c cc own ret E nL) {k ci idx maxL n : Nat} {x y : MethodName} {bytes : ByteArray} {ret' : Option FieldType} {rm : Room} {As rest : List Value} {Qc : Array Value → State → Outcome → State → Prop} {T : u_T} {N : Nat}
    (hl : Cond.methodLink own idx x ∈ tblG) (hs0 : Cond.sameMethod x.cls x.cls x.name x.desc ∈ tblG) (hse : Cond.selects y.cls x y ∈ tblG) (hdc : Cond.declares ⟨x.cls, x.name, x.desc⟩ ∈ lw_tbl) (hxx : x.cls ≠ "java/lang/invoke/MethodHandle" ∧ x.cls ≠ "java/lang/invoke/VarHandle" ∧ (parseMethodDescriptor x.desc).map (fun d => d.parameters.length) = some n)
    (hm : Cond.instanceMethod y ∈ tblG ∧ Cond.initialized y.cls ∈ tblG ∧ Cond.code y bytes maxL ret' ∈ tblG) (hM : Met l y (wsG y bytes maxL ret') rm (va_Pc (.ref (ad E k) :: As) (gP E F)) Qc 0 0 (gA E)) (hrm : rm.cells = 0 ∧ rm.slots = 0) (hR : rm.frames + 1 ≤ R.frames ∧ 8 + (maxL + 11) + rm.locals ≤ R.locals) (hk : kd k = ci) (hci : vwCl[ci]? = some (y.cls, T, N)) (h99 : ci < 99) (hn : As.length = n) (hst : st = As.reverse ++ .ref (ad E k) :: rest) (hW : (rest.map fun v => v.category).sum ≤ 8) (hnc : nc ≤ R.cells ∧ ns ≤ R.slots) (hd : decode cc pc = .ok (.invokevirtual idx, 3)) :
    RunOf p l e R s m args below meth c nc ns E nL F pc lv st rest (Qc (Value.ref (ad E k) :: As).toArray) := by
  intro H locs ls hP hS hls
  obtain ⟨m1, m3, m4⟩ := hm
  have hts := hC.2.2.2.2.1
  have hG : GoodIn tblG (va_wsU own idx y.cls x.cls x y (wsG y bytes maxL ret')) := tg_in (fun w hw => by
    rcases List.mem_append.mp hw with q | q
    · simp only [List.mem_cons, List.not_mem_nil, or_false] at q
      rcases q with rfl | rfl | rfl | rfl | rfl <;> assumption
    · exact wsG_in m4 w q)
  exact va_runU ⟨hC.1, hC.2.1, hC.2.2.1, hC.2.2.2.1, hts⟩ hM (va_cwA n hts hG rfl hrm.1 hrm.2 (hC.2.2.2.2.2.1.2.2.2.2.1 _ hdc rfl) hxx hR) (g_preV hC hP hS hk hci h99) rfl hn hls.1 (by subst hst; rfl) (lv_room hW) hd ⟨hnc.1, hnc.2⟩
/-- and goes on -/
theorem v_ci {rest : List Value} {a : Array Value} {post : Int32 → gS → Prop} (hr : RunOf p l e R s m args below meth c nc ns E nL F pc lv st rest (va_Qi post (gB E) (gA E) a)) (kk : ∀ (r : Int32) (G : gS), post r G → VV p l e R s m args below meth c nc ns Q E nL G (pc + 3) lv (.int r :: rest)) : VV p l e R s m args below meth c nc ns Q E nL F pc lv st :=
  fun H locs ls hP hS hl => va_calli (hr H locs ls hP hS hl) hS (fun _ _ h => h) (fun _ h => h) (fun r G t H1 locs1 ht _ hp hb _ _ hS1 => kk r G hp H1 locs1 ls (by have z : va_P _ _ _ t.heap := hb; rw [ht] at z; exact z) hS1 hl)
theorem v_cl {rest : List Value} {a : Array Value} {post : Int64 → gS → Prop} (hr : RunOf p l e R s m args below meth c nc ns E nL F pc lv st rest (va_Ql post (gB E) (gA E) a)) (kk : ∀ (r : Int64) (G : gS), post r G → VV p l e R s m args below meth c nc ns Q E nL G (pc + 3) lv (.long r :: rest)) : VV p l e R s m args below meth c nc ns Q E nL F pc lv st :=
  fun H locs ls hP hS hl => va_calll (hr H locs ls hP hS hl) hS (fun _ _ h => h) (fun _ h => h) (fun r G t H1 locs1 ht _ hp hb _ _ hS1 => kk r G hp H1 locs1 ls (by have z : va_P _ _ _ t.heap := hb; rw [ht] at z; exact z) hS1 hl)
theorem v_cv {rest : List Value} {a : Array Value} {post : gS → Prop} (hr : RunOf p l e R s m args below meth c nc ns E nL F pc lv st rest (va_Qv post (gB E) (gA E) a)) (kk : ∀ (G : gS), post G → VV p l e R s m args below meth c nc ns Q E nL G (pc + 3) lv rest) : VV p l e R s m args below meth c nc ns Q E nL F pc lv st :=
  fun H locs ls hP hS hl => va_callv (hr H locs ls hP hS hl) hS (fun _ _ h => h) (fun _ h => h) (fun G t H1 locs1 ht _ hp hb _ _ hS1 => kk G hp H1 locs1 ls (by have z : va_P _ _ _ t.heap := hb; rw [ht] at z; exact z) hS1 hl)
theorem v_cr {rest : List Value} {a : Array Value} {k : Nat} {post : gS → Prop} (hr : RunOf p l e R s m args below meth c nc ns E nL F pc lv st rest (va_Qr post (fun G r t => r = ad E k ∧ gB E G t) (gA E) a)) (kk : ∀ (G : gS), post G → VV p l e R s m args below meth c nc ns Q E nL G (pc + 3) lv (.ref (ad E k) :: rest)) : VV p l e R s m args below meth c nc ns Q E nL F pc lv st :=
  fun H locs ls hP hS hl => va_callr (hr H locs ls hP hS hl) hS (fun _ _ h => h) (fun _ h => h) (fun G ra t H1 locs1 ht _ hp hb _ _ hS1 => by
    obtain ⟨rfl, hb2⟩ := hb
    exact kk G hp H1 locs1 ls (by have z : va_P _ _ _ t.heap := hb2; rw [ht] at z; exact z) hS1 hl)
/-! Math -/
theorem v_max (hC : CX p s m args meth c cc own ret E nL) {idx : Nat} {x y : Int32} (hl : Cond.methodLink own idx Lib.Math.max.name ∈ tblG) (hs0 : Cond.static Lib.Math.max.name ∈ tblG) (hi : Cond.initialized "java/lang/Math" ∈ tblG) (hc : Cond.code Lib.Math.max.name Lib.Math.max.code 2 (some .int) ∈ tblG) (hR : 1 ≤ R.frames ∧ (st.map fun v => v.category).sum + 13 ≤ R.locals) (hnc : nc ≤ R.cells ∧ ns ≤ R.slots) (hd : decode cc pc = .ok (.invokestatic idx, 3)) (kk : VV p l e R s m args below meth c nc ns Q E nL F (pc + 3) lv (.int (if x < y then y else x) :: st)) : VV p l e R s m args below meth c nc ns Q E nL F pc lv (.int y :: .int x :: st) :=
  fun H locs ls hP hS hls => va_mmax hC.1 hC.2.1 (hC.2.2.1.trans hls.1.symm) hC.2.2.2.1 (hC.2.2.2.2.1 _ hl) (hC.2.2.2.2.1 _ hs0) (hC.2.2.2.2.1 _ hi) (hC.2.2.2.2.1 _ hc) hR.1 hR.2 hnc.1 hnc.2 hd (kk H locs ls hP hS hls)
theorem v_min (hC : CX p s m args meth c cc own ret E nL) {idx : Nat} {x y : Int32} (hl : Cond.methodLink own idx Lib.Math.min.name ∈ tblG) (hs0 : Cond.static Lib.Math.min.name ∈ tblG) (hi : Cond.initialized "java/lang/Math" ∈ tblG) (hc : Cond.code Lib.Math.min.name Lib.Math.min.code 2 (some .int) ∈ tblG) (hR : 1 ≤ R.frames ∧ (st.map fun v => v.category).sum + 13 ≤ R.locals) (hnc : nc ≤ R.cells ∧ ns ≤ R.slots) (hd : decode cc pc = .ok (.invokestatic idx, 3)) (kk : VV p l e R s m args below meth c nc ns Q E nL F (pc + 3) lv (.int (if y < x then y else x) :: st)) : VV p l e R s m args below meth c nc ns Q E nL F pc lv (.int y :: .int x :: st) :=
  fun H locs ls hP hS hls => va_mmin hC.1 hC.2.1 (hC.2.2.1.trans hls.1.symm) hC.2.2.2.1 (hC.2.2.2.2.1 _ hl) (hC.2.2.2.2.1 _ hs0) (hC.2.2.2.2.1 _ hi) (hC.2.2.2.2.1 _ hc) hR.1 hR.2 hnc.1 hnc.2 hd (kk H locs ls hP hS hls)
end VR2
