/-! constructors: cells come one behind another, at the first new address and on; cell k is the k-th -/
/-- the order in which the cells come: as they are numbered, but that the one of number 14 comes ahead of 9 .. 13 -/
def kp (k : Nat) : Nat := if k < 9 then k else if k < 14 then k + 1 else if k = 14 then 9 else k
theorem kp_hi {k : Nat} (h : 15 ≤ k) : kp k = k := by unfold kp; rw [if_neg (by omega), if_neg (by omega), if_neg (by omega)]
theorem kp_lt {k : Nat} (h : k < 150) : kp k < 150 := by unfold kp; (repeat' split) <;> omega
theorem kp_inj {i j : Nat} (h : kp i = kp j) : i = j := by unfold kp at h; (repeat' split at h) <;> omega
/-- addresses in the order of coming (E), and by number -/
def pE (E : gE) : gE := (E.1, E.2.1, fun k => E.2.2.1 (kp k), E.2.2.2)
/-- what the k-th that comes holds at its end -/
def FC (E : gE) (k : Nat) : va_E := match k with
  | 0 => .inr (9, [.ref (ad E 1), .ref (ad E 3), .ref (ad E 6), .ref (ad E 9), .ref (ad E 10), .ref (ad E 26), .ref (ad E 29), .ref (ad E 32), .ref (ad E 33), .ref (ad E 34), .int 0, .int 0, .int 0, .int 0, .int 0, .int 0])
  | 9 => .inr (2, [.ref (ad E 10), .ref (ad E 15), .ref (ad E 18), .ref (ad E 21), .ref (ad E 24), .int 0, .int 0, .int 0])
  | 10 => cE E 5 10 (fun _ => 0)
  | 11 => cE E 1016 11 (fun _ => 0)
  | 12 => cE E 2016 12 (fun _ => 0)
  | 13 => cE E 2016 13 (fun _ => 0)
  | 14 => cE E 1016 14 (fun _ => 0)
  | k => cE E (kd k) k (fun _ => 0)
theorem FC_hi {E : gE} {k : Nat} (h : 15 ≤ k) : FC E k = cE E (kd k) k (fun _ => 0) := by
  unfold FC; split <;> first | omega | rfl
theorem k15 {k ci : Nat} (h : kd k = ci) (hc : ci = 0 ∨ ci = 1 ∨ ci = 7) : 15 ≤ k := by
  have q : ∀ k, k < 15 → kd k ≠ 0 ∧ kd k ≠ 1 ∧ kd k ≠ 7 := by decide +kernel
  rcases Nat.lt_or_ge k 15 with z | z
  · obtain ⟨q1, q2, q3⟩ := q k z
    rw [h] at q1 q2 q3
    rcases hc with c | c | c
    · exact absurd c q1
    · exact absurd c q2
    · exact absurd c q3
  · exact z
theorem FC_v {E : gE} {k ci j kk : Nat} (h : kd k = ci) (hc : ci = 0 ∨ ci = 1 ∨ ci = 7) (h2 : kd (k + j) = kk) : FC E (k + j) = cE E kk (k + j) (fun _ => 0) := by
  rw [FC_hi (by have := k15 h hc; omega), h2]
theorem FC_v0 {E : gE} {k ci : Nat} (h : kd k = ci) (hc : ci = 0 ∨ ci = 1 ∨ ci = 7) : FC E k = cE E ci k (fun _ => 0) := by
  rw [FC_hi (k15 h hc), h]
theorem ad_pE {E : gE} {k : Nat} (h : 15 ≤ k) : ad (pE E) k = ad E k := by
  show E.2.2.1 (kp k) = E.2.2.1 k
  rw [kp_hi h]
theorem flds_pE {E : gE} {ci k : Nat} {f : Nat → Int32} (h : 15 ≤ k) (h2 : ci ≠ 2) (h9 : ci ≠ 9) : flds (pE E) ci k f = flds E ci k f := by
  have e1 : ad (pE E) (k + 1) = ad E (k + 1) := ad_pE (by omega)
  have e2 : ad (pE E) (k + 2) = ad E (k + 2) := ad_pE (by omega)
  have e3 : ad (pE E) (k + 3) = ad E (k + 3) := ad_pE (by omega)
  have e4 : ad (pE E) (k + 4) = ad E (k + 4) := ad_pE (by omega)
  match ci, h2, h9 with
  | 0, _, _ => simp only [flds, e1, e2]
  | 1, _, _ => simp only [flds, e1, e2]
  | 2, h, _ => exact absurd rfl h
  | 3, _, _ => simp only [flds, e1, e2]
  | 4, _, _ => simp only [flds, e1]
  | 5, _, _ => simp only [flds, e1, e2, e3, e4]
  | 6, _, _ => simp only [flds, e1, e2]
  | 7, _, _ => simp only [flds, e1]
  | 8, _, _ => simp only [flds, e1, e2]
  | 9, _, h => exact absurd rfl h
  | 10, _, _ => rfl
  | ci + 11, _, _ => rfl
theorem cE_pE {E : gE} {kk k : Nat} {f : Nat → Int32} (h : 15 ≤ k) (h2 : kk ≠ 2) (h9 : kk ≠ 9) : cE (pE E) kk k f = cE E kk k f := by
  have e1 : (fun i => some (ad (pE E) (37 + 2 * i))) = fun i => some (ad E (37 + 2 * i)) := funext fun i => by rw [ad_pE (by omega)]
  have e2 : (fun i => some (ad (pE E) (49 + 3 * i))) = fun i => some (ad E (49 + 3 * i)) := funext fun i => by rw [ad_pE (by omega)]
  unfold cE
  rw [flds_pE h h2 h9, e1, e2]
  rfl
theorem FC_kp (E : gE) {k : Nat} (hk : k < 150) : FC E (kp k) = cE (pE E) (kd k) k (fun _ => 0) := by
  rcases Nat.lt_or_ge k 15 with z | z
  · match k, z with
    | 0, _ => rfl
    | 1, _ => rfl
    | 2, _ => rfl
    | 3, _ => rfl
    | 4, _ => rfl
    | 5, _ => rfl
    | 6, _ => rfl
    | 7, _ => rfl
    | 8, _ => rfl
    | 9, _ => rfl
    | 10, _ => rfl
    | 11, _ => rfl
    | 12, _ => rfl
    | 13, _ => rfl
    | 14, _ => rfl
    | k + 15, z => omega
  · have q : ∀ k, k < 150 → 15 ≤ k → kd k ≠ 2 ∧ kd k ≠ 9 := by decide +kernel
    rw [kp_hi z, FC_hi z]
    exact (cE_pE z (q k hk z).1 (q k hk z).2).symm
def cA0 (E : gE) (lo : Nat) : Nat → Prop := fun q => E.2.2.2 0 + lo ≤ q
/-- cells lo .. n are there; X: those that are under way -/
def CW (E : gE) (lo n : Nat) (X : List (Nat × va_E)) (H : Heap) : Prop :=
  H.size = E.2.2.2 0 + n ∧ (∀ k, lo ≤ k → k < n → (∀ x ∈ X, x.1 ≠ k) → va_at E.1 vwCl (ad E k, FC E k) H) ∧ ∀ x ∈ X, lo ≤ x.1 ∧ x.1 < n ∧ va_at E.1 vwCl (ad E x.1, x.2) H
def gC0 (E : gE) (s : State) : Prop :=
  va_K E.1 vwCl (gT E) s ∧ (∀ k, ad E k = E.2.2.2 0 + k) ∧ (∀ w ∈ lw_tbl, isN w = true → va_Nw w s) ∧ va_AO "FirstPancake$Plan" s ∧ va_AO "FirstPancake$Cake" s
theorem gC0.same {E : gE} {u U : State} (hv : U.vm = u.vm) (h : gC0 E u) : gC0 E U := by
  obtain ⟨h1, h2, h5, h6, h7⟩ := h
  have hal : u.vm.Alike U.vm := by rw [hv]; exact Vm.Alike.refl _
  exact ⟨h1.moved hal, h2, fun w hw hn => va_Nw.same (nw_tab hn) hv.symm (h5 w hw hn), h6.moved hal, h7.moved hal⟩
theorem gC0.call {E : gE} {s U : State} (h : gC0 E s) (hW : s.WarmedH U.vm) : gC0 E U := by
  obtain ⟨h1, h2, h5, h6, h7⟩ := h
  exact ⟨h1.moved hW.alike, h2, fun w hw hn => nw_warm hn hW (h5 w hw hn), h6.moved hW.alike, h7.moved hW.alike⟩
def CP (E : gE) (lo n : Nat) (X : List (Nat × va_E)) (U : State) : Prop := CW E lo n X U.heap ∧ gC0 E U
theorem CP_blind (E : gE) (lo n : Nat) (X : List (Nat × va_E)) (av : List Value) : FrameBlind (va_Pc av (CP E lo n X)) := fun a U g mk q => ⟨q.1, q.2.1, gC0.same (u := U) rfl q.2.2⟩
/-- a constructor's contract: its object is cell lo, the next is lo + 1; behind it all of lo .. n stand -/
abbrev CtC (l : Launch) (E : gE) (y : MethodName) (bytes : ByteArray) (maxL : Nat) (rm : Room) (av : List Value) (lo : Nat) (e0 : va_E) (n : Nat) (X1 : List (Nat × va_E)) (mc ms : Nat) : Prop :=
  Met l y (wsG y bytes maxL none) rm (va_Pc av (CP E lo (lo + 1) [(lo, e0)])) (va_Qv (fun _ : Unit => True) (fun _ t => CW E lo n X1 t.heap) (cA0 E lo)) mc ms (cA0 E lo)
def CB (p : Program) (s : State) (m : MethodId) (args : Array Value) (c : Code) (cc : ByteArray) (own : String) (E : gE) (nL : Nat) : Prop :=
  p.tables.exec = Jvm.exec ∧ c.code = cc ∧ c.maxLocals = nL ∧ s.vm.findClass own = some m.cls ∧ (∀ w ∈ tblG, w.before args s = true) ∧ gC0 E s
def CC (p : Program) (s : State) (m : MethodId) (args : Array Value) (meth : Method) (c : Code) (cc : ByteArray) (own : String) (E : gE) (nL : Nat) : Prop :=
  CB p s m args c cc own E nL ∧ meth.sig.returnType = none ∧ meth.locks = false ∧ meth.name = "<init>"
def VC (p : Program) (l : Launch) (e : Env) (R : Room) (s : State) (m : MethodId) (args : Array Value) (below : List Frame) (meth : Method) (c : Code) (nc ns : Nat) (Q : State → Prop) (E : gE) (nL lo n : Nat) (X : List (Nat × va_E)) (pc : Nat) (lv : List (Nat × Value)) (st : List Value) : Prop :=
  ∀ (H : Heap) (locs : List Loc) (ls : Array Slot), CW E lo n X H → va_S (cA0 E lo) s.heap H locs → lv_has ls nL lv → W p l e R s m args below meth c H locs nc ns Q (F0 m pc ls st)
theorem cc_of {l : Launch} {E : gE} {y : MethodName} {bytes : ByteArray} {maxL : Nat} {rm : Room} {av : List Value} {lo n mc ms : Nat} {e0 : va_E} {X1 : List (Nat × va_E)}
    (hy : plainName y.cls = true) (hyn : y.name = "<init>") (hn : (lg_sl av).length ≤ maxL)
    (body : ∀ (p : Program) (e : Env) (s : State) (m : MethodId) (below : List Frame) (meth : Method) (c : Code), CC p s m av.toArray meth c bytes y.cls E maxL →
      VC p l e rm s m av.toArray below meth c 0 0 (MQ below (va_Qv (fun _ : Unit => True) (fun _ t => CW E lo n X1 t.heap) (cA0 E lo)) av.toArray s mc ms (cA0 E lo)) E maxL lo (lo + 1) [(lo, e0)] 0 (lv_args 0 av) []) :
    CtC l E y bytes maxL rm av lo e0 n X1 mc ms := by
  refine Met.ofW (cc := bytes) (maxL := maxL) (ret := none) hy rfl ?_
  intro p e s m args below meth c s₁ B hml hv
  obtain ⟨rfl, hP, hG⟩ := hv
  have hts := atoms_spec (ws := wsG y bytes maxL none) B.pre
  have hown : s.vm.findClass y.cls = some m.cls := findClass_of_methodNamed B.named
  have hin : meth.name = y.name := (name_of_methodNamed B.named B.method).1
  have hC : CC p s m av.toArray meth c bytes y.cls E maxL := ⟨⟨B.exec, B.bytes, hml, hown, fun w hw => hts w (List.mem_cons_of_mem _ hw), hG⟩, B.returns, B.notSynchronized, hin.trans hyn⟩
  have hl := lv_entry av (n := maxL) hn
  rw [lg_entry_eq]
  exact body p e s m below meth c hC s.heap [] _ hP va_S.rf hl
theorem CW.drop {E : gE} {lo n : Nat} {X : List (Nat × va_E)} {H : Heap} (h : CW E lo n X H) (Y : List (Nat × va_E)) (hY : ∀ x ∈ Y, x ∈ X) (hX : ∀ x ∈ X, x ∈ Y ∨ x.2 = FC E x.1) : CW E lo n Y H := by
  refine ⟨h.1, fun k h1 h2 h3 => ?_, fun x hx => h.2.2 x (hY x hx)⟩
  by_cases q : ∀ x ∈ X, x.1 ≠ k
  · exact h.2.1 k h1 h2 q
  · simp only [ne_eq, Classical.not_forall, Classical.not_not] at q
    obtain ⟨x, hx, hxk⟩ := q
    rcases hX x hx with z | z
    · exact absurd hxk (h3 x z)
    · have := (h.2.2 x hx).2.2
      rw [z, hxk] at this
      exact this
/-- the rows that are kept when one address changes or comes -/
theorem CW.put {E : gE} {lo n k : Nat} {X Y : List (Nat × va_E)} {e : va_E} {H H1 : Heap} (hE : ∀ k, ad E k = E.2.2.2 0 + k) (h : CW E lo n X H) (hs : H1.size = H.size) (ho : ∀ q, q ≠ ad E k → H1[q]? = H[q]?) (he : va_at E.1 vwCl (ad E k, e) H1) (hX : ∀ x ∈ X, x.1 = k ∨ x ∈ Y) (hkX : ∃ x ∈ X, x.1 = k) (hY : ∀ y ∈ Y, y = (k, e) ∨ (y ∈ X ∧ y.1 ≠ k)) (hYk : ∃ y ∈ Y, y.1 = k) : CW E lo n Y H1 := by
  have inj : ∀ i j : Nat, ad E i = ad E j → i = j := fun i j q => by rw [hE, hE] at q; omega
  refine ⟨by rw [hs]; exact h.1, fun j h1 h2 h3 => ?_, fun y hy => ?_⟩
  · have hjk : j ≠ k := fun q => by obtain ⟨y, hy, e⟩ := hYk; exact h3 y hy (e.trans q.symm)
    have := h.2.1 j h1 h2 (fun x hx q => by
      rcases hX x hx with z | z
      · exact hjk (q.symm.trans z)
      · exact h3 x z q)
    exact this.kept (ho _ (fun q => hjk (inj _ _ q)))
  · rcases hY y hy with rfl | ⟨hy1, hy2⟩
    · obtain ⟨x, hx, e⟩ := hkX
      have := h.2.2 x hx
      rw [e] at this
      exact ⟨this.1, this.2.1, he⟩
    · have := h.2.2 y hy1
      exact ⟨this.1, this.2.1, this.2.2.kept (ho _ (fun q => hy2 (inj _ _ q)))⟩
theorem CW.push {E : gE} {lo n : Nat} {X : List (Nat × va_E)} {H H1 : Heap} (h : CW E lo n X H) (hs : H1.size = H.size + 1) (ho : ∀ q, q < H.size → H1[q]? = H[q]?) (hE : ∀ k, ad E k = E.2.2.2 0 + k) (he : va_at E.1 vwCl (ad E n, FC E n) H1) : CW E lo (n + 1) X H1 := by
  have hlt : ∀ k, k < n → ad E k < H.size := fun k q => by rw [hE, h.1]; omega
  refine ⟨by rw [hs, h.1]; omega, fun j h1 h2 h3 => ?_, fun y hy => ?_⟩
  · by_cases q : j = n
    · subst q; exact he
    · exact (h.2.1 j h1 (by omega) h3).kept (ho _ (hlt j (by omega)))
  · have := h.2.2 y hy
    exact ⟨this.1, by omega, this.2.2.kept (ho _ (hlt _ this.2.1))⟩
theorem CW.pushX {E : gE} {lo n : Nat} {X : List (Nat × va_E)} {e : va_E} {H H1 : Heap} (h : CW E lo n X H) (hlo : lo ≤ n) (hs : H1.size = H.size + 1) (ho : ∀ q, q < H.size → H1[q]? = H[q]?) (hE : ∀ k, ad E k = E.2.2.2 0 + k) (he : va_at E.1 vwCl (ad E n, e) H1) : CW E lo (n + 1) ((n, e) :: X) H1 := by
  have hlt : ∀ k, k < n → ad E k < H.size := fun k q => by rw [hE, h.1]; omega
  refine ⟨by rw [hs, h.1]; omega, fun j h1 h2 h3 => ?_, fun y hy => ?_⟩
  · have q : j ≠ n := fun q => h3 (n, e) List.mem_cons_self q.symm
    exact (h.2.1 j h1 (by omega) (fun x hx => h3 x (List.mem_cons_of_mem _ hx))).kept (ho _ (hlt j (by omega)))
  · rcases List.mem_cons.mp hy with rfl | hy
    · exact ⟨hlo, by omega, he⟩
    · have := h.2.2 y hy
      exact ⟨this.1, by omega, this.2.2.kept (ho _ (hlt _ this.2.1))⟩
theorem sS_push {A : Nat → Prop} {H0 H H1 : Heap} {locs : List Loc} (h : va_S A H0 H locs) (hs : H1.size = H.size + 1) (ho : ∀ q, q < H.size → H1[q]? = H[q]?) : va_S A H0 H1 locs :=
  ⟨Nat.le_trans h.1 (by omega), fun q h1 h2 => (ho q (Nat.lt_of_lt_of_le h1 h.1)).trans (h.2.1 q h1 h2), h.2.2⟩
section VCR
variable {p : Program} {l : Launch} {e : Env} {R : Room} {s : State} {m : MethodId} {args : Array Value} {below : List Frame} {meth : Method} {c : Code} {nc ns : Nat} {Q : State → Prop} {E : gE} {nL lo n : Nat} {X : List (Nat × va_E)} {pc : Nat} {lv : List (Nat × Value)} {st : List Value}
variable {cc : ByteArray} {own : String}
theorem k_sub {lv' : List (Nat × Value)} (ks : List Nat) (h : lv_pick lv ks = lv') (kk : VC p l e R s m args below meth c nc ns Q E nL lo n X pc lv' st) : VC p l e R s m args below meth c nc ns Q E nL lo n X pc lv st :=
  fun H locs ls hP hS hl => kk H locs ls hP hS (lv_sub hl ks h)
theorem k_iconst (hC : CB p s m args c cc own E nL) {n0 : Int} {v : Int32} (hd : decode cc pc = .ok (.iconst n0, 1)) (hv : Int32.ofInt n0 = v) (kk : VC p l e R s m args below meth c nc ns Q E nL lo n X (pc + 1) lv (.int v :: st)) : VC p l e R s m args below meth c nc ns Q E nL lo n X pc lv st :=
  fun H locs ls hP hS hl => lv_iconst hC.1 hC.2.1 hd hv (kk H locs ls hP hS hl)
theorem k_bipush (hC : CB p s m args c cc own E nL) {n0 : Int} {v : Int32} (hd : decode cc pc = .ok (.bipush n0, 2)) (hv : (Int8.ofInt n0).toInt32 = v) (kk : VC p l e R s m args below meth c nc ns Q E nL lo n X (pc + 2) lv (.int v :: st)) : VC p l e R s m args below meth c nc ns Q E nL lo n X pc lv st :=
  fun H locs ls hP hS hl => lv_bipush hC.1 hC.2.1 hd hv (kk H locs ls hP hS hl)
theorem k_sipush (hC : CB p s m args c cc own E nL) {n0 : Int} {v : Int32} (hd : decode cc pc = .ok (.sipush n0, 3)) (hv : (Int16.ofInt n0).toInt32 = v) (kk : VC p l e R s m args below meth c nc ns Q E nL lo n X (pc + 3) lv (.int v :: st)) : VC p l e R s m args below meth c nc ns Q E nL lo n X pc lv st :=
  fun H locs ls hP hS hl => lv_sipush hC.1 hC.2.1 hd hv (kk H locs ls hP hS hl)
theorem k_iload_n (hC : CB p s m args c cc own E nL) {k : Fin 4} {i : Nat} {x : Int32} (hd : decode cc pc = .ok (.iload_n k, 1)) (hi : (k : Nat) = i) (j : Nat) (hj : lv[j]? = some (i, .int x)) (kk : VC p l e R s m args below meth c nc ns Q E nL lo n X (pc + 1) lv (.int x :: st)) : VC p l e R s m args below meth c nc ns Q E nL lo n X pc lv st :=
  fun H locs ls hP hS hl => lv_iload_n hC.1 hC.2.1 hd hi (lv_at hl j hj) (kk H locs ls hP hS hl)
theorem k_aload_n (hC : CB p s m args c cc own E nL) {k : Fin 4} {i : Nat} {x : Nat} (hd : decode cc pc = .ok (.aload_n k, 1)) (hi : (k : Nat) = i) (j : Nat) (hj : lv[j]? = some (i, .ref x)) (kk : VC p l e R s m args below meth c nc ns Q E nL lo n X (pc + 1) lv (.ref x :: st)) : VC p l e R s m args below meth c nc ns Q E nL lo n X pc lv st :=
  fun H locs ls hP hS hl => lv_aload_n hC.1 hC.2.1 hd hi (lv_at hl j hj) (kk H locs ls hP hS hl)
theorem k_istore_n (hC : CB p s m args c cc own E nL) {k : Fin 4} {i : Nat} {x : Int32} {lv' : List (Nat × Value)} (hd : decode cc pc = .ok (.istore_n k, 1)) (hi : (k : Nat) = i) (hn : i < nL) (hl' : (i, Value.int x) :: lv.filter (fun q => !(q.1 == i) && !(q.1 + 1 == i && q.2.category == 2)) = lv') (kk : VC p l e R s m args below meth c nc ns Q E nL lo n X (pc + 1) lv' st) : VC p l e R s m args below meth c nc ns Q E nL lo n X pc lv (.int x :: st) :=
  fun H locs ls hP hS hl => lv_istore_n hC.1 hC.2.1 hd hi hl hn hl' (fun ls' h' => kk H locs ls' hP hS h')
theorem k_iinc (hC : CB p s m args c cc own E nL) {i : Nat} {n0 : Int} {x v : Int32} {lv' : List (Nat × Value)} (hd : decode cc pc = .ok (.iinc i n0, 3)) (j : Nat) (hj : lv[j]? = some (i, .int x)) (hn : i < nL) (hv : x + Int32.ofInt n0 = v) (hl' : (i, Value.int v) :: lv.filter (fun q => !(q.1 == i) && !(q.1 + 1 == i && q.2.category == 2)) = lv') (kk : VC p l e R s m args below meth c nc ns Q E nL lo n X (pc + 3) lv' st) : VC p l e R s m args below meth c nc ns Q E nL lo n X pc lv st :=
  fun H locs ls hP hS hl => lv_iinc hC.1 hC.2.1 hd hl hj hv hn hl' (fun ls' h' => kk H locs ls' hP hS h')
theorem k_dup (hC : CB p s m args c cc own E nL) {va : Value} (hd : decode cc pc = .ok (.dup, 1)) (hva : va.category = 1) (kk : VC p l e R s m args below meth c nc ns Q E nL lo n X (pc + 1) lv (va :: va :: st)) : VC p l e R s m args below meth c nc ns Q E nL lo n X pc lv (va :: st) :=
  fun H locs ls hP hS hl => lv_dup hC.1 hC.2.1 hd hva (kk H locs ls hP hS hl)
theorem k_goto (hC : CB p s m args c cc own E nL) {off : Int} {tgt : Nat} (hd : decode cc pc = .ok (.goto off, 3)) (ht : (pc : Int) + off = (tgt : Int)) (kk : VC p l e R s m args below meth c nc ns Q E nL lo n X tgt lv st) : VC p l e R s m args below meth c nc ns Q E nL lo n X pc lv st :=
  fun H locs ls hP hS hl => lv_goto hC.1 hC.2.1 hd ht (kk H locs ls hP hS hl)
theorem k_ge_n (hC : CB p s m args c cc own E nL) {x y : Int32} {off : Int} {tgt : Nat} (hd : decode cc pc = .ok (.if_icmp .ge off, 3)) (ht : (pc : Int) + off = (tgt : Int)) (h : ¬ y ≤ x) (kk : VC p l e R s m args below meth c nc ns Q E nL lo n X (pc + 3) lv st) : VC p l e R s m args below meth c nc ns Q E nL lo n X pc lv (.int y :: .int x :: st) :=
  fun H locs ls hP hS hl => lv_icmp_ge hC.1 hC.2.1 hd ht (fun q => absurd q h) (fun _ => kk H locs ls hP hS hl)
theorem k_ge_y (hC : CB p s m args c cc own E nL) {x y : Int32} {off : Int} {tgt : Nat} (hd : decode cc pc = .ok (.if_icmp .ge off, 3)) (ht : (pc : Int) + off = (tgt : Int)) (h : y ≤ x) (kk : VC p l e R s m args below meth c nc ns Q E nL lo n X tgt lv st) : VC p l e R s m args below meth c nc ns Q E nL lo n X pc lv (.int y :: .int x :: st) :=
  fun H locs ls hP hS hl => lv_icmp_ge hC.1 hC.2.1 hd ht (fun _ => kk H locs ls hP hS hl) (fun q => absurd h q)
theorem k_obj (hC : CB p s m args c cc own E nL) {idx : Nat} {a : Nat} (hl : Cond.methodLink own idx objectInit ∈ tblG) (hi : Cond.instanceMethod objectInit ∈ tblG) (hc : Cond.code objectInit ⟨#[0xb1]⟩ 1 none ∈ tblG) (hd : decode cc pc = .ok (.invokespecial idx, 3)) (hR : 1 ≤ R.frames ∧ (st.map fun v => v.category).sum + 12 ≤ R.locals) (kk : VC p l e R s m args below meth c nc ns Q E nL lo n X (pc + 3) lv st) : VC p l e R s m args below meth c nc ns Q E nL lo n X pc lv (.ref a :: st) :=
  fun H locs ls hP hS hls => W.objInit hC.1 hC.2.1 hC.2.2.2.1 (hC.2.2.2.2.1 _ hl) (hC.2.2.2.2.1 _ hi) (hC.2.2.2.2.1 _ hc) rfl (by rw [hC.2.2.1]; exact hls.1) rfl hd hR.1 (by show 2 * 0 + _ + 12 ≤ _; have := hR.2; omega) (W.eq rfl (kk H locs ls hP hS hls))
theorem k_ret (hC : CC p s m args meth c cc own E nL) (hd : decode cc pc = .ok (.return_, 1)) {X1 : List (Nat × va_E)} (hX1 : ∀ x ∈ X1, x ∈ X) (hX : ∀ x ∈ X, x ∈ X1 ∨ x.2 = FC E x.1) : VC p l e R s m args below meth c nc ns (MQ below (va_Qv (fun _ : Unit => True) (fun _ t => CW E lo n X1 t.heap) (cA0 E lo)) args s nc ns (cA0 E lo)) E nL lo n X pc lv [] :=
  fun H locs ls hP hS hl => W.vret hC.1.1 hC.1.2.1 hC.2.1 (fun t ht hW => ⟨⟨(), rfl, trivial, by show CW E lo n X1 t.heap; rw [ht]; exact hP.drop X1 hX1 hX⟩, hS.F ht⟩) hS.2.2 hd hC.2.2.1
/-- a new array of numbers, whole at once -/
theorem k_newa (hC : CB p s m args c cc own E nL) {atype : ArrayType} {t0 N : Nat} {v : Int32} (hw : Cond.arrayClass (newarray.typeOf atype) ∈ tblG) (hv : v.toNatClampNeg = N) (hv0 : ¬ v < 0) (hb : N * componentBytes (newarray.typeOf atype) ≤ 536870912) (ht : (gT E)[t0]? = some (E.2.1 t0, newarray.typeOf atype)) (hnar : refKind (newarray.typeOf atype) = false) (hz : defaultValue (newarray.typeOf atype) = .int 0) (hF : FC E n = .inl (E.2.1 t0, N, .inl (fun _ => 0))) (hnc : nc + 1 ≤ R.cells ∧ ns + N ≤ R.slots) (hd : decode cc pc = .ok (.newarray atype, 2))
    (kk : VC p l e R s m args below meth c (nc + 1) (ns + N) Q E nL lo (n + 1) X (pc + 2) lv (.ref (ad E n) :: st)) : VC p l e R s m args below meth c nc ns Q E nL lo n X pc lv (.int v :: st) := by
  intro H locs ls hP hS hls
  have hEa := hC.2.2.2.2.2.2.1
  refine va_newaK hC.1 hC.2.1 (hC.2.2.2.2.1 _ hw) rfl hd rfl hv0 hv hb hnc.1 hnc.2 (h := ad E n) (by rw [hEa]; exact hP.1) (fun H' cA h1 h2 h3 _ h5 => ?_)
  have hra := (hC.2.2.2.2.2.1.2 t0 _ ht).2
  have hcA : cA = E.2.1 t0 := by
    have : s.vm.findClass ("[" ++ (newarray.typeOf atype).toString) = some (E.2.1 t0) := by
      cases hty : newarray.typeOf atype <;> rw [hty] at hra hnar <;> first | exact hra | cases hnar
    exact Option.some.inj (h5.symm.trans this)
  subst hcA
  have hsz : H'.size = H.size + 1 := by rw [h2, hP.1, hEa]
  have hold : ∀ q, q < H.size → H'[q]? = H[q]? := fun q hq => h3 q (by rw [hEa, ← hP.1]; exact hq)
  refine kk H' locs ls (hP.push hsz hold hEa ?_) (sS_push hS hsz hold) hls
  rw [hF]
  show H'[ad E n]? = some (vp_cell _ _)
  rw [h1, vp_cell_i, hz]
/-- a new object, its fields as they begin -/
theorem k_new (hC : CB p s m args c cc own E nL) {idx ci : Nat} {C : String} {T : u_T} {N : Nat} {ty : Nat → FieldType} {fs : List Value} (hw : Cond.classLink own idx C ∈ tblG) (hi : Cond.instantiable C N ∈ tblG) (hini : Cond.initialized C ∈ tblG) (hin : ∀ w ∈ u_ws C T N, w ∈ tblG) (hty : ∀ k, k < N → parseFieldDescriptor (T k).2.2.1 = some (ty k)) (hci : vwCl[ci]? = some (C, T, N)) (hfs : ∀ j, j < N → defaultValue (ty j) = vp_V fs j) (hlo : lo ≤ n) (hnc : nc + 1 ≤ R.cells ∧ ns + N ≤ R.slots) (hd : decode cc pc = .ok (.new idx, 3))
    (kk : VC p l e R s m args below meth c (nc + 1) (ns + N) Q E nL lo (n + 1) ((n, .inr (ci, fs)) :: X) (pc + 3) lv (.ref (ad E n) :: st)) : VC p l e R s m args below meth c nc ns Q E nL lo n X pc lv st := by
  intro H locs ls hP hS hls
  have hEa := hC.2.2.2.2.2.2.1
  have hts := hC.2.2.2.2.1
  have hKn := hC.2.2.2.2.2.1.1 ci _ hci
  refine W.newcK hC.1 hC.2.1 hC.2.2.2.1 (hts _ hw) (hts _ hi) (hts _ hini) rfl hd hnc.1 hnc.2 hKn.2.1 (h := ad E n) (by rw [hEa]; exact hP.1) (fun H1 kC hkC e1 z1 o1 => ?_)
  have hsz : H1.size = H.size + 1 := by rw [z1, hP.1, hEa]
  have hold : ∀ q, q < H.size → H1[q]? = H[q]? := fun q hq => o1 q (by rw [hEa, ← hP.1]; exact hq)
  exact kk H1 locs ls (hP.pushX hlo hsz hold hEa ⟨_, hci, (u_born ty hts hin hKn hkC e1 hty).to hfs⟩) (sS_push hS hsz hold) hls
/-- a final field is set in its own constructor -/
theorem k_putF (hC : CC p s m args meth c cc own E nL) {idx ci j k : Nat} {C : String} {T : u_T} {N : Nat} {ty0 : Nat → FieldType} {fs : List Value} {v : Value} {ty : FieldType} {Y : List (Nat × va_E)} (hw : Cond.fieldLink own idx (T j).1 (T j).2.1 (T j).2.2.1 ∈ tblG) (hin : ∀ w ∈ u_ws C T N, w ∈ tblG) (hty : ∀ k, k < N → parseFieldDescriptor (T k).2.2.1 = some (ty0 k)) (hnm : ∀ a, a < N → ∀ b, b < N → a ≠ b → (T a).2.1 ≠ (T b).2.1) (hci : vwCl[ci]? = some (C, T, N)) (hj : j < N) (hfin : (T j).2.2.2 = true) (hdecl : (T j).1 = own) (hpd : parseFieldDescriptor (T j).2.2.1 = some ty) (hnar : narrow ty v = v) (hfit : fits ty v = true) (hl : j < fs.length)
    (hkX : (k, .inr (ci, fs)) ∈ X) (hX : ∀ x ∈ X, x.1 = k ∨ x ∈ Y) (hY : ∀ y ∈ Y, y = (k, .inr (ci, fs.set j v)) ∨ (y ∈ X ∧ y.1 ≠ k)) (hYk : ∃ y ∈ Y, y.1 = k) (hd : decode cc pc = .ok (.putfield idx, 3))
    (kk : VC p l e R s m args below meth c nc ns Q E nL lo n Y (pc + 3) lv st) : VC p l e R s m args below meth c nc ns Q E nL lo n X pc lv (v :: .ref (ad E k) :: st) := by
  intro H locs ls hP hS hls
  have hEa := hC.1.2.2.2.2.2.2.1
  have hts := hC.1.2.2.2.2.1
  have hat := (hP.2.2 _ hkX)
  have hAk : cA0 E lo (ad E k) := by show _ ≤ _; rw [hEa]; exact Nat.add_le_add_left hat.1 _
  have hK := hC.1.2.2.2.2.2.1
  have hap := va_apart (own := own) hts hin ty0 hty hnm hK hci
  obtain ⟨r, h1, cell, q1, q2, q3, q4⟩ := hat.2.2
  have hr : r = (C, T, N) := Option.some.inj (h1.symm.trans hci)
  subst hr
  obtain ⟨hSl, hfc, kC, hkC, hkind⟩ := hK.1 ci _ hci
  obtain ⟨cf, kf, fi, f, hi, hsl⟩ := hSl j hj
  have hlay := hts _ (hin _ (u_in_lay hj))
  unfold u_lay at hlay
  rw [if_pos hfin] at hlay
  have hst := (u_facts hfc hkC (u_lays hts hin hj) hi).1
  have hcf : m.cls = cf := by
    obtain ⟨_, _, c', _, _, _, -, -, hf', -, -, -, hown2, -⟩ := Cond.laysFinal_spec hlay
    have e1 : c' = cf := by have := hi.symm.trans hf'; simp at this; exact this.1.symm
    rw [hdecl] at hown2
    rw [← e1]; exact Option.some.inj (hC.1.2.2.2.1.symm.trans hown2)
  have h6 := u_fits hfc hkC hkind (Or.inr hlay) hi hpd hnar hfit
  refine W.putFinK hC.1.1 hC.1.2.1 hC.1.2.2.2.1 (hts _ hw) hi hst hcf hC.2.2.2 (by rw [q2]; exact h6) q1 q3 (by rw [hsl]; exact k2_hasslot (q4 j hj)) rfl rfl hd fun H' e1 e2 e3 => ?_
  rw [hsl] at e1 ⊢
  refine kk H' _ ls (CW.put (k := k) (e := .inr (ci, fs.set j v)) hEa hP e2 e3 ⟨_, hci, t_OB.to (V := updV (vp_V fs) j v) ⟨_, e1, q2, q3, t_set q4 hap hj v⟩ (fun i _ => vp_updV_set hl v i)⟩ hX ⟨_, hkX, rfl⟩ hY hYk) (hS.put e2 e3 hAk) hls
end VCR
