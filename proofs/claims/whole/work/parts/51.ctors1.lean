/-! constructors: calls of constructors, arrays of references, fields read back -/
def FF (own : String) (idx ci j : Nat) (ty : FieldType) : Prop := ∃ (C : String) (T : u_T) (N : Nat) (ty0 : Nat → FieldType), vwCl[ci]? = some (C, T, N) ∧ j < N ∧ (∀ w ∈ u_ws C T N, w ∈ tblG) ∧ Cond.fieldLink own idx (T j).1 (T j).2.1 (T j).2.2.1 ∈ tblG ∧
  (∀ k, k < N → parseFieldDescriptor (T k).2.2.1 = some (ty0 k)) ∧ (∀ a, a < N → ∀ b, b < N → a ≠ b → (T a).2.1 ≠ (T b).2.1) ∧ (T j).2.2.2 = true ∧ (T j).1 = own ∧ parseFieldDescriptor (T j).2.2.1 = some ty
/-- a class that can be made -/
def NW (own : String) (idx ci : Nat) (N : Nat) (fs : List Value) : Prop := ∃ (C : String) (T : u_T) (ty : Nat → FieldType), Cond.classLink own idx C ∈ tblG ∧ Cond.instantiable C N ∈ tblG ∧ Cond.initialized C ∈ tblG ∧ (∀ w ∈ u_ws C T N, w ∈ tblG) ∧ (∀ k, k < N → parseFieldDescriptor (T k).2.2.1 = some (ty k)) ∧ vwCl[ci]? = some (C, T, N) ∧ ∀ j, j < N → defaultValue (ty j) = vp_V fs j
/-- a constructor: its words -/
def MI (y : MethodName) (bytes : ByteArray) (maxL n : Nat) : Prop :=
  Cond.instanceMethod y ∈ tblG ∧ Cond.initialized y.cls ∈ tblG ∧ Cond.code y bytes maxL none ∈ tblG ∧ y.name = "<init>" ∧
  (y.cls ≠ "java/lang/invoke/MethodHandle" ∧ y.cls ≠ "java/lang/invoke/VarHandle" ∧ (parseMethodDescriptor y.desc).map (fun d => d.parameters.length) = some n)
theorem CW.swap {E : gE} {lo n : Nat} {X Y : List (Nat × va_E)} {H : Heap} (h : CW E lo n X H) (hY : ∀ y ∈ Y, ∃ x ∈ X, x.1 = y.1 ∧ (va_at E.1 vwCl (ad E x.1, x.2) H → va_at E.1 vwCl (ad E x.1, y.2) H)) (hX : ∀ x ∈ X, (∃ y ∈ Y, y.1 = x.1) ∨ (va_at E.1 vwCl (ad E x.1, x.2) H → va_at E.1 vwCl (ad E x.1, FC E x.1) H)) : CW E lo n Y H := by
  refine ⟨h.1, fun k h1 h2 h3 => ?_, fun y hy => ?_⟩
  · by_cases q : ∀ x ∈ X, x.1 ≠ k
    · exact h.2.1 k h1 h2 q
    · simp only [ne_eq, Classical.not_forall, Classical.not_not] at q
      obtain ⟨x, hx, hxk⟩ := q
      rcases hX x hx with ⟨y, hy, hyx⟩ | z
      · exact absurd (hyx.trans hxk) (h3 y hy)
      · have := z (h.2.2 x hx).2.2
        rw [hxk] at this
        exact this
  · obtain ⟨x, hx, e, z⟩ := hY y hy
    have := h.2.2 x hx
    rw [← e]
    exact ⟨this.1, this.2.1, z this.2.2⟩
section VCS
variable {p : Program} {l : Launch} {e : Env} {R : Room} {s : State} {m : MethodId} {args : Array Value} {below : List Frame} {meth : Method} {c : Code} {nc ns : Nat} {Q : State → Prop} {E : gE} {nL lo n : Nat} {X : List (Nat × va_E)} {pc : Nat} {lv : List (Nat × Value)} {st : List Value}
variable {cc : ByteArray} {own : String}
theorem k_swap {Y : List (Nat × va_E)} (hs : ∀ H, CW E lo n X H → CW E lo n Y H) (kk : VC p l e R s m args below meth c nc ns Q E nL lo n Y pc lv st) : VC p l e R s m args below meth c nc ns Q E nL lo n X pc lv st :=
  fun H locs ls hP hS hl => kk H locs ls (hs H hP) hS hl
theorem k_astore_n (hC : CB p s m args c cc own E nL) {k : Fin 4} {i : Nat} {x : Nat} {lv' : List (Nat × Value)} (hd : decode cc pc = .ok (.astore_n k, 1)) (hi : (k : Nat) = i) (hn : i < nL) (hl' : (i, Value.ref x) :: lv.filter (fun q => !(q.1 == i) && !(q.1 + 1 == i && q.2.category == 2)) = lv') (kk : VC p l e R s m args below meth c nc ns Q E nL lo n X (pc + 1) lv' st) : VC p l e R s m args below meth c nc ns Q E nL lo n X pc lv (.ref x :: st) :=
  fun H locs ls hP hS hl => lv_astore_n hC.1 hC.2.1 hd hi hl hn hl' (fun ls' h' => kk H locs ls' hP hS h')
theorem k_put (hC : CC p s m args meth c cc own E nL) {idx ci j k : Nat} {fs fs' : List Value} {v : Value} {ty : FieldType} {Z : List (Nat × va_E)} (hf : FF own idx ci j ty) (hnar : narrow ty v = v) (hfit : fits ty v = true) (hl : j < fs.length) (hZ : ∀ z ∈ Z, z.1 ≠ k) (hset : fs.set j v = fs') (hd : decode cc pc = .ok (.putfield idx, 3))
    (kk : VC p l e R s m args below meth c nc ns Q E nL lo n ((k, .inr (ci, fs')) :: Z) (pc + 3) lv st) : VC p l e R s m args below meth c nc ns Q E nL lo n ((k, .inr (ci, fs)) :: Z) pc lv (v :: .ref (ad E k) :: st) := by
  obtain ⟨C, T, N, ty0, h1, h2, h3, h4, h5, h6, h7, h8, h9⟩ := hf
  subst hset
  refine k_putF hC h4 h3 h5 h6 h1 h2 h7 h8 h9 hnar hfit hl List.mem_cons_self (fun x hx => ?_) (fun y hy => ?_) ⟨_, List.mem_cons_self, rfl⟩ hd kk
  · rcases List.mem_cons.mp hx with rfl | q
    · exact Or.inl rfl
    · exact Or.inr (List.mem_cons_of_mem _ q)
  · rcases List.mem_cons.mp hy with rfl | q
    · exact Or.inl rfl
    · exact Or.inr ⟨List.mem_cons_of_mem _ q, hZ y q⟩
theorem k_get (hC : CB p s m args c cc own E nL) {idx ci j k : Nat} {fs : List Value} {v : Value} {Z : List (Nat × va_E)} (hf : FL own idx ci j) (hv : fs[j]? = some v) (hd : decode cc pc = .ok (.getfield idx, 3)) (kk : VC p l e R s m args below meth c nc ns Q E nL lo n ((k, .inr (ci, fs)) :: Z) (pc + 3) lv (v :: st)) : VC p l e R s m args below meth c nc ns Q E nL lo n ((k, .inr (ci, fs)) :: Z) pc lv (.ref (ad E k) :: st) := by
  intro H locs ls hP hS hl
  obtain ⟨C, T, N, h1, h2, h3, h4, h5⟩ := hf
  have hat := (hP.2.2 _ List.mem_cons_self).2.2
  have hPw : va_P E.1 vwCl [(ad E k, .inr (ci, fs))] H := fun i q hq => by
    cases i with
    | zero => cases hq; exact hat
    | succ i => cases hq
  exact va_get hC.1 hC.2.1 hC.2.2.2.2.1 h3 hC.2.2.2.1 hC.2.2.2.2.2.1 hPw 0 rfl h1 j h2 (hC.2.2.2.2.1 _ h4) (fun _ h => h) hv hd (kk H locs ls hP hS hl)
theorem k_make (hC : CB p s m args c cc own E nL) {idx ci N : Nat} {fs : List Value} (hw : NW own idx ci N fs) (hlo : lo ≤ n) (hnc : nc + 1 ≤ R.cells ∧ ns + N ≤ R.slots) (hd : decode cc pc = .ok (.new idx, 3))
    (kk : VC p l e R s m args below meth c (nc + 1) (ns + N) Q E nL lo (n + 1) ((n, .inr (ci, fs)) :: X) (pc + 3) lv (.ref (ad E n) :: st)) : VC p l e R s m args below meth c nc ns Q E nL lo n X pc lv st := by
  obtain ⟨C, T, ty, h1, h2, h3, h4, h5, h6, h7⟩ := hw
  exact k_new hC h1 h2 h3 h4 h5 h6 h7 hlo hnc hd kk
theorem k_cv {k n2 mc ms : Nat} {X1 Y : List (Nat × va_E)} {rest : List Value} {a : Array Value} (hC : CB p s m args c cc own E nL) (hr : ∀ (H : Heap) (locs : List Loc) (ls : Array Slot), CW E lo (k + 1) X H → va_S (cA0 E lo) s.heap H locs → lv_has ls nL lv → va_Run p l e R s m args below meth c H locs nc ns mc ms (F0 m pc ls st) rest (va_Qv (fun _ : Unit => True) (fun _ t => CW E k n2 X1 t.heap) (cA0 E k) a) (cA0 E k)) (hlo : lo ≤ k) (hkn : k < n2)
    (hY : ∀ y ∈ Y, y ∈ X1 ∨ (y ∈ X ∧ y.1 < k)) (hX : ∀ x ∈ X, x.1 = k ∨ x ∈ Y) (hX1 : ∀ x ∈ X1, x ∈ Y) (kk : VC p l e R s m args below meth c (nc + mc) (ns + ms) Q E nL lo n2 Y (pc + 3) lv rest) : VC p l e R s m args below meth c nc ns Q E nL lo (k + 1) X pc lv st := by
  intro H locs ls hP hS hl
  have hEa := hC.2.2.2.2.2.2.1
  have hA : ∀ q, cA0 E k q → cA0 E lo q := fun q h => Nat.le_trans (Nat.add_le_add_left hlo _) h
  refine va_callv (hr H locs ls hP hS hl) hS (fun q _ h => hA q h) hA (fun u t H1 locs1 ht _ _ hb hsz hk hS1 => kk H1 locs1 ls ?_ hS1 hl)
  have hb' : CW E k n2 X1 H1 := by rw [← ht]; exact hb
  have old : ∀ j e0, j < k → va_at E.1 vwCl (ad E j, e0) H → va_at E.1 vwCl (ad E j, e0) H1 := fun j e0 hj h => h.kept (hk _ (by rw [hEa, hP.1]; omega) (by show ¬ (_ ≤ _); rw [hEa]; omega))
  refine ⟨hb'.1, fun j h1 h2 h3 => ?_, fun y hy => ?_⟩
  · by_cases q : j < k
    · refine old j _ q (hP.2.1 j h1 (by omega) (fun x hx e => ?_))
      rcases hX x hx with z | z
      · omega
      · exact h3 x z e
    · exact hb'.2.1 j (by omega) h2 (fun x hx => h3 x (hX1 x hx))
  · rcases hY y hy with z | ⟨z, z2⟩
    · have := hb'.2.2 y z
      exact ⟨by omega, this.2.1, this.2.2⟩
    · have := hP.2.2 y z
      exact ⟨this.1, by omega, old _ _ z2 this.2.2⟩
theorem k_pre (hC : CB p s m args c cc own E nL) {k : Nat} {e0 : va_E} {As : List Value} {H : Heap} (hP : CW E lo (k + 1) X H) (hkX : (k, e0) ∈ X) : PreS s H (va_Pc As (CP E k (k + 1) [(k, e0)])) As :=
  ⟨CP_blind E k (k + 1) [(k, e0)] As, fun U hU hW => ⟨rfl, by
    refine And.intro ?_ (hC.2.2.2.2.2.call hW)
    show CW _ _ _ _ U.heap
    rw [hU]
    refine ⟨hP.1, fun j h1 h2 h3 => ?_, fun x hx => ?_⟩
    · exact absurd (show k = j by omega) (h3 (k, e0) List.mem_cons_self)
    · rcases List.mem_cons.mp hx with rfl | q
      · exact ⟨Nat.le_refl _, (hP.2.2 _ hkX).2.1, (hP.2.2 _ hkX).2.2⟩
      · cases q⟩⟩
/-- a constructor of the pool's own links; of a nest mate -/
theorem k_callI (hC : CB p s m args c cc own E nL) {k n2 idx maxL n0 mc ms : Nat} {e0 : va_E} {X1 Y : List (Nat × va_E)} {y : MethodName} {bytes : ByteArray} {rm : Room} {As rest : List Value} (hl : Cond.methodLink own idx y ∈ tblG) (hm : MI y bytes maxL n0) (hM : CtC l E y bytes maxL rm (.ref (ad E k) :: As) k e0 n2 X1 mc ms) (hrm : rm.cells = mc ∧ rm.slots = ms) (hR : rm.frames + 1 ≤ R.frames ∧ 8 + (maxL + 11) + rm.locals ≤ R.locals) (hn : As.length = n0) (hst : st = As.reverse ++ .ref (ad E k) :: rest) (hW : (rest.map fun v => v.category).sum ≤ 8) (hnc : nc + mc ≤ R.cells ∧ ns + ms ≤ R.slots) (hd : decode cc pc = .ok (.invokespecial idx, 3))
    (hkX : (k, e0) ∈ X) (hlo : lo ≤ k) (hkn : k < n2) (hY : ∀ y ∈ Y, y ∈ X1 ∨ (y ∈ X ∧ y.1 < k)) (hX : ∀ x ∈ X, x.1 = k ∨ x ∈ Y) (hX1 : ∀ x ∈ X1, x ∈ Y) (kk : VC p l e R s m args below meth c (nc + mc) (ns + ms) Q E nL lo n2 Y (pc + 3) lv rest) : VC p l e R s m args below meth c nc ns Q E nL lo (k + 1) X pc lv st := by
  obtain ⟨m1, m3, m4, m5, m6⟩ := hm
  have hts := hC.2.2.2.2.1
  refine k_cv (a := (Value.ref (ad E k) :: As).toArray) hC (fun H locs ls hP hS hls => ?_) hlo hkn hY hX hX1 kk
  exact va_runI ⟨hC.1, hC.2.1, hC.2.2.1, hC.2.2.2.1, hts⟩ hM (cwI n0 hts (tg_in (wsG_in m4)) rfl hrm.1 hrm.2 (hts _ m3) (hts _ hl) (hts _ m1) m5 m6 hR) (k_pre hC hP hkX) rfl hn hls.1 (by subst hst; rfl) (lv_room hW) hd hnc
theorem k_callN (hC : CB p s m args c cc own E nL) {k n2 idx maxL n0 mc ms : Nat} {e0 : va_E} {X1 Y : List (Nat × va_E)} {y : MethodName} {host : String} {bytes : ByteArray} {rm : Room} {As rest : List Value} (hl : Cond.methodLinkNest own idx y host ∈ lw_tbl) (hm : MI y bytes maxL n0) (hM : CtC l E y bytes maxL rm (.ref (ad E k) :: As) k e0 n2 X1 mc ms) (hrm : rm.cells = mc ∧ rm.slots = ms) (hR : rm.frames + 1 ≤ R.frames ∧ 8 + (maxL + 11) + rm.locals ≤ R.locals) (hn : As.length = n0) (hst : st = As.reverse ++ .ref (ad E k) :: rest) (hW : (rest.map fun v => v.category).sum ≤ 8) (hnc : nc + mc ≤ R.cells ∧ ns + ms ≤ R.slots) (hd : decode cc pc = .ok (.invokespecial idx, 3))
    (hkX : (k, e0) ∈ X) (hlo : lo ≤ k) (hkn : k < n2) (hY : ∀ y ∈ Y, y ∈ X1 ∨ (y ∈ X ∧ y.1 < k)) (hX : ∀ x ∈ X, x.1 = k ∨ x ∈ Y) (hX1 : ∀ x ∈ X1, x ∈ Y) (kk : VC p l e R s m args below meth c (nc + mc) (ns + ms) Q E nL lo n2 Y (pc + 3) lv rest) : VC p l e R s m args below meth c nc ns Q E nL lo (k + 1) X pc lv st := by
  obtain ⟨m1, m3, m4, m5, m6⟩ := hm
  have hts := hC.2.2.2.2.1
  refine k_cv (a := (Value.ref (ad E k) :: As).toArray) hC (fun H locs ls hP hS hls => ?_) hlo hkn hY hX hX1 kk
  exact va_runIN ⟨hC.1, hC.2.1, hC.2.2.1, hC.2.2.2.1, hts⟩ hM ⟨va_cnB n0 hts (tg_in (wsG_in m4)) rfl hrm.1 hrm.2 (hC.2.2.2.2.2.2.2.1 _ hl rfl) (hts _ m3) m6 hR, m5, hts _ m1⟩ (k_pre hC hP hkX) rfl hn hls.1 (by subst hst; rfl) (lv_room hW) hd hnc
/-- an array of references -/
theorem k_anew (hC : CB p s m args c cc own E nL) {idx t0 N : Nat} {C : String} {v : Int32} (hw : Cond.classLink own idx C ∈ tblG) (ho : va_AO C s) (hv : v.toNatClampNeg = N) (hv0 : ¬ v < 0) (hb : N * 4 ≤ 536870912) (ht : (gT E)[t0]? = some (E.2.1 t0, .object C)) (hlo : lo ≤ n) (hnc : nc + 1 ≤ R.cells ∧ ns + N ≤ R.slots) (hd : decode cc pc = .ok (.anewarray idx, 3))
    (kk : VC p l e R s m args below meth c (nc + 1) (ns + N) Q E nL lo (n + 1) (X ++ [(n, .inl (E.2.1 t0, N, .inr (.inr (.inr (.inr (fun _ => none))))))]) (pc + 3) lv (.ref (ad E n) :: st)) : VC p l e R s m args below meth c nc ns Q E nL lo n X pc lv (.int v :: st) := by
  intro H locs ls hP hS hls
  have hEa := hC.2.2.2.2.2.2.1
  subst hv
  refine W.anew hC.1 hC.2.1 hC.2.2.2.1 (hC.2.2.2.2.1 _ hw) (va_AO.use ho) rfl hd rfl hv0 hb hnc.1 hnc.2 fun cA kA comp f1 f2 f3 f4 => ?_
  have hra := (hC.2.2.2.2.2.1.2 t0 _ ht).2
  have hcA : cA = E.2.1 t0 := by
    obtain ⟨_, _, -, -, -, h4⟩ := hra
    exact Option.some.inj (f1.symm.trans h4)
  subst hcA
  have hz : H.size = ad E n := by rw [hEa]; exact hP.1
  generalize hH1 : H.push ({ cls := E.2.1 t0, slots := Array.replicate v.toNatClampNeg .null, vm := .none } : Cell) = H1
  have z1 : H1.size = H.size + 1 := by rw [← hH1, Array.size_push]
  have e1 : H1[ad E n]? = some (arrV (E.2.1 t0) v.toNatClampNeg (fun _ => .null)) := by rw [← hz, ← hH1, Array.getElem?_push_size, ← arrV_new]
  have o1 : ∀ q : Nat, q < H.size → H1[q]? = H[q]? := fun q hq => by rw [← hH1, Array.getElem?_push, if_neg (Nat.ne_of_lt hq)]
  have h3 := CW.pushX (e := .inl (E.2.1 t0, v.toNatClampNeg, .inr (.inr (.inr (.inr (fun _ => none)))))) hP hlo z1 o1 hEa (by show H1[ad E n]? = some (vp_cell _ _); rw [e1, vp_cell_q]; rfl)
  rw [hz]
  refine kk H1 locs ls (h3.drop _ (fun x hx => ?_) (fun x hx => Or.inl ?_)) (sS_push hS z1 o1) hls
  · rcases List.mem_append.mp hx with q | q
    · exact List.mem_cons_of_mem _ q
    · rcases List.mem_cons.mp q with rfl | q
      · exact List.mem_cons_self
      · cases q
  · rcases List.mem_cons.mp hx with rfl | q
    · exact List.mem_append_right _ List.mem_cons_self
    · exact List.mem_append_left _ q
theorem k_aast (hC : CB p s m args c cc own E nL) {ka kb ci t0 N : Nat} {r : vw_C} {f g : Nat → Option Nat} {vs : List Value} {i : Int32} {Y : List (Nat × va_E)} (haX : (ka, .inl (E.2.1 t0, N, .inr (.inr (.inr (.inr f))))) ∈ X) (ht : (gT E)[t0]? = some (E.2.1 t0, .object r.1)) (hkb : lo ≤ kb ∧ kb < n) (hbX : ∀ x ∈ X, x.1 ≠ kb) (hF : FC E kb = .inr (ci, vs)) (hci : vwCl[ci]? = some r) (hin : vp_in i N) (hg : va_up f i.toNatClampNeg (some (ad E kb)) = g) (hX : ∀ x ∈ X, x.1 = ka ∨ x ∈ Y) (hY : ∀ y ∈ Y, y = (ka, .inl (E.2.1 t0, N, .inr (.inr (.inr (.inr g))))) ∨ (y ∈ X ∧ y.1 ≠ ka)) (hYk : ∃ y ∈ Y, y.1 = ka) (hd : decode cc pc = .ok (.aastore, 1))
    (kk : VC p l e R s m args below meth c nc ns Q E nL lo n Y (pc + 1) lv st) : VC p l e R s m args below meth c nc ns Q E nL lo n X pc lv (.ref (ad E kb) :: .int i :: .ref (ad E ka) :: st) := by
  intro H locs ls hP hS hls
  have hEa := hC.2.2.2.2.2.2.1
  have hK := hC.2.2.2.2.2.1
  subst hg
  have hlt : i.toNatClampNeg < N := Nat.not_le.mp fun q => hin (Or.inr q)
  have h0 : ¬ i < 0 := fun q => hin (Or.inl q)
  have hat := hP.2.2 _ haX
  have hAk : cA0 E lo (ad E ka) := by show _ ≤ _; rw [hEa]; exact Nat.add_le_add_left hat.1 _
  have hob := hP.2.1 kb hkb.1 hkb.2 hbX
  rw [hF] at hob
  obtain ⟨r', hr', cellV, g1, g2, g3, -⟩ := hob
  have hcls := (hK.1 ci r hci).2
  obtain ⟨kA, comp, k1, k2, k3, -⟩ := (hK.2 t0 _ ht).2
  have hcomp : comp = E.1.1 ci := Option.some.inj (k3.symm.trans hcls.1)
  subst hcomp
  obtain ⟨kC, hkC, -⟩ := hcls.2
  refine W.aast hC.1 hC.2.1 (show H[ad E ka]? = some (vp_cell (E.2.1 t0) (N, .inr (.inr (.inr (.inr f))))) from hat.2.2) (fun q h => by cases h) (fun h => by cases h) k1 k2 rfl hkC ⟨h0, by show _ < (arrV _ _ _).slots.size; rw [arrV_size]; exact hlt⟩ g1 (fun q h => by rw [g3] at h; cases h) (by rw [g2]; exact hkC) (by rw [g2]; exact va_assign hcls) rfl rfl hd fun H1 e z oq => ?_
  refine kk H1 _ ls (CW.put (k := ka) hEa hP z oq (?_ : va_at E.1 vwCl (ad E ka, .inl (E.2.1 t0, N, .inr (.inr (.inr (.inr (va_up f i.toNatClampNeg (some (ad E kb)))))))) H1) hX ⟨_, haX, rfl⟩ hY hYk) (hS.put z oq hAk) hls
  show H1[ad E ka]? = some (vp_cell _ _)
  rw [e, vp_cell_q, vp_cell_q, arrV_store]
  congr 2
  funext q
  by_cases hq : q = i.toNatClampNeg
  · subst hq
    simp [updV, va_up, va_rf]
  · simp [updV, va_up, hq]
end VCS
