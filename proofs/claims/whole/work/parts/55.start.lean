/-! THE CLAIM OUT OF ONE WALK OF THE LAW'S BODY. Your part is whole_start (and what it stands on); all else here is the same for every law, but numbers. -/
def R_law : String := "FirstPancakeLaw"
def lw_P (b : Addr) (xs : List Int32) (args : Array Value) (s : State) : Prop := args = #[.ref b] ∧ s.IntsAt b xs ∧ xs.length ≤ 3584 ∧ (Jvm.Cond.and given_1 narrow_1).before args s = true
def lw_Q (_ : Array Value) (s : State) (o : Outcome) (t : State) : Prop := o = .returned (some (.int 1)) ∧ Framed s o t [] 600000 7302250
def lw_Z (below : List Frame) (a : Array Value) (s : State) : State → Prop := fun t => ∃ o, t.status = .running ∧ Ended t below o ∧ lw_Q a s o t
/-- the law's own end, with 1 on the stack, nothing written that was there before, its room as the claim has it -/
theorem lw_ret {p : Program} {l : Launch} {e : Env} {s : State} {m : MethodId} {below : List Frame} {meth : Method} {c : Code} {b : Nat} (hx : p.tables.exec = Jvm.exec) (hb : c.code = code) (hr : meth.sig.returnType = ret) (hlocks : meth.locks = false) {pc : Nat} {H : Heap} {ls : Array Slot} (hdg : decode code pc = .ok (.ireturn, 1)) : W p l e room_1 s m #[Value.ref b] below meth c H [] 600000 7302250 (lw_Z below #[Value.ref b] s) (F0 m pc ls [.int 1]) := by
  intro T hT X
  obtain ⟨fs, hret, hrun, hended, hW, hframe⟩ := X.leave (v := some (.int 1)) (hlocks := hlocks) (fun h => by rw [hr] at h; cases h)
  have hmeth' : T.vm.method? m = some meth := X.method'
  refine ⟨T.setFrames fs, ?_, .returned (some (.int 1)), hrun, hended, rfl, ⟨_, rfl⟩, hW, hframe⟩
  jvm_step X.here [X.here.top, hx, hb, hdg, hmeth', hr, ret, narrow_b1]
  (try refine ⟨rfl, ?_⟩); (try refine ⟨rfl, ?_⟩)
  first | (intro acts; rw [hret _ acts rfl rfl rfl]) | rw [hret _ _ rfl rfl rfl]
  exact Steps.refl _
/-- what holds at the law's entry: the machine, the code, the tables' words (any of lw_tbl by 'hts w (by decide +kernel)'), the script of L ints xs at the cell b, what the Statement gives of the start (any of its parts by flat_of_before) -/
def lw_At (p : Program) (s : State) (m : MethodId) (meth : Method) (c : Code) (b L : Nat) (xs : Nat → Int32) : Prop :=
  p.tables.exec = Jvm.exec ∧ c.code = code ∧ meth.sig.returnType = ret ∧ c.maxLocals = 4 ∧ s.vm.findClass R_law = some m.cls ∧ (∀ w ∈ lw_tbl, w.before #[Value.ref b] s = true) ∧ va_X b L xs s s.heap ∧ b < s.heap.size ∧ meth.locks = false ∧ (Jvm.Cond.and given_1 narrow_1).before #[Value.ref b] s = true
def gSl (n t1 t2 t3 : Nat) (k v : Nat → Nat) : Nat → Nat
  | 0 => n
  | 1 => t1
  | 2 => t2
  | 3 => t3
  | 4 => k 0
  | 5 => k 1
  | 6 => v 0
  | _ => v 1
def gFl : List Cond := flatC (Jvm.Cond.and given_1 narrow_1)
theorem gf_a1 : Cond.arrayOf (.static "FirstPancake" "WORTHS" "[I") .int ∈ gFl := by decide +kernel
theorem gf_l1 : Cond.eq (.length (.static "FirstPancake" "WORTHS" "[I")) (.int (Int32.ofNat 6)) ∈ gFl := by decide +kernel
theorem gf_e1 : ∀ j, j < 6 → Cond.eq (.elem (.static "FirstPancake" "WORTHS" "[I") (.int (Int32.ofNat j))) (.int (gWorth.getD j 0)) ∈ gFl := by decide +kernel
theorem gf_a2 : Cond.arrayOf (.static "FirstPancake" "ABOVE" "[I") .int ∈ gFl := by decide +kernel
theorem gf_l2 : Cond.eq (.length (.static "FirstPancake" "ABOVE" "[I")) (.int (Int32.ofNat 6)) ∈ gFl := by decide +kernel
theorem gf_e2 : ∀ j, j < 6 → Cond.eq (.elem (.static "FirstPancake" "ABOVE" "[I") (.int (Int32.ofNat j))) (.int (gAbove.getD j 0)) ∈ gFl := by decide +kernel
theorem gf_a3 : Cond.arrayOf (.static "FirstPancake$PlanText" "MOST" "[I") .int ∈ gFl := by decide +kernel
theorem gf_l3 : Cond.eq (.length (.static "FirstPancake$PlanText" "MOST" "[I")) (.int (Int32.ofNat 5)) ∈ gFl := by decide +kernel
theorem gf_e3 : ∀ j, j < 5 → Cond.eq (.elem (.static "FirstPancake$PlanText" "MOST" "[I") (.int (Int32.ofNat j))) (.int (gMost.getD j 0)) ∈ gFl := by decide +kernel
def gTm (i : Nat) : Term := if i = 0 then .string "FirstPancake$PlanText" 38 else .string "FirstPancake$PlanText" 55
theorem gf_c : Cond.eq (.static "java/lang/String" "COMPACT_STRINGS" "Z") (.int 1) ∈ gFl := by decide +kernel
theorem gf_f : Cond.isRef (.static "jdk/internal/util/Preconditions" "SIOOBE_FORMATTER" "Ljava/util/function/BiFunction;") ∈ gFl := by decide +kernel
theorem gf_x : ∀ i, i < 2 → Cond.exactly (gTm i) "java/lang/String" ∈ gFl := by decide +kernel
theorem gf_o : ∀ i, i < 2 → Cond.eq (.field (gTm i) "java/lang/String" "coder" "B") (.int 0) ∈ gFl := by decide +kernel
theorem gf_v : ∀ i, i < 2 → Cond.arrayOf (.field (gTm i) "java/lang/String" "value" "[B") .byte ∈ gFl := by decide +kernel
theorem gf_n : ∀ i, i < 2 → Cond.eq (.length (.field (gTm i) "java/lang/String" "value" "[B")) (.int (Int32.ofNat (([4, 4] : List Nat).getD i 0))) ∈ gFl := by decide +kernel
theorem gf_b : ∀ i, i < 2 → ∀ j, j < ([4, 4] : List Nat).getD i 0 → Cond.eq (.elem (.field (gTm i) "java/lang/String" "value" "[B") (.int (Int32.ofNat j))) (.int ((gText.getD i []).getD j 0)) ∈ gFl := by decide +kernel
theorem gf_d : Cond.not (Cond.eq (gTm 0) (gTm 1)) ∈ gFl := by decide +kernel
theorem g_start {p : Program} {s : State} {m : MethodId} {meth : Method} {c : Code} {b L : Nat} {xs : Nat → Int32} (C0 : lw_At p s m meth c b L xs) : ∃ E : gE, E.2.2.2 0 = s.heap.size ∧ gC (pE E) s ∧ gC0 E s := by
  obtain ⟨hx, hb, hr, hml, hown, hts, hX, hbl, hlocks, hgv⟩ := id C0
  have hs : ∀ w ∈ gFl, w.before #[Value.ref b] s = true := flat_of_before _ hgv
  have htg : ∀ w ∈ tblG, w.before #[Value.ref b] s = true := fun w hw => hts w (List.mem_filter.mp hw).1
  have hA : ∀ a : Nat, a < s.heap.size → ¬ (fun q : Nat => s.heap.size ≤ q) a := fun a h => Nat.not_le.mpr h
  obtain ⟨c0, i0, k0⟩ := u_known (C := RX0) (T := TX0) (N := 2) (n := 2) htg ig_X0 (htg _ (tg_t (tb1 (List.mem_of_getElem? (i := 166) (by decide +kernel))) rfl))
  obtain ⟨c1, i1, k1⟩ := u_known (C := RX1) (T := TX1) (N := 3) (n := 3) htg ig_X1 (htg _ (tg_t (tb1 (List.mem_of_getElem? (i := 143) (by decide +kernel))) rfl))
  obtain ⟨c2, i2, k2⟩ := u_known (C := RX2) (T := TX2) (N := 8) (n := 8) htg ig_X2 (htg _ (tg_t (tb1 (List.mem_of_getElem? (i := 106) (by decide +kernel))) rfl))
  obtain ⟨c3, i3, k3⟩ := u_known (C := RX3) (T := TX3) (N := 4) (n := 4) htg ig_X3 (htg _ (tg_t (tb2 (List.mem_of_getElem? (i := 12) (by decide +kernel))) rfl))
  obtain ⟨c4, i4, k4⟩ := u_known (C := RX4) (T := TX4) (N := 2) (n := 2) htg ig_X4 (htg _ (tg_t (tb1 (List.mem_of_getElem? (i := 31) (by decide +kernel))) rfl))
  obtain ⟨c5, i5, k5⟩ := u_known (C := RX5) (T := TX5) (N := 7) (n := 7) htg ig_X5 (htg _ (tg_t (tb1 (List.mem_of_getElem? (i := 112) (by decide +kernel))) rfl))
  obtain ⟨c6, i6, k6⟩ := u_known (C := RX6) (T := TX6) (N := 7) (n := 7) htg ig_X6 (htg _ (tg_t (tb1 (List.mem_of_getElem? (i := 47) (by decide +kernel))) rfl))
  obtain ⟨c7, i7, k7⟩ := u_known (C := RX7) (T := TX7) (N := 6) (n := 6) htg ig_X7 (htg _ (tg_t (tb1 (List.mem_of_getElem? (i := 183) (by decide +kernel))) rfl))
  obtain ⟨c8, i8, k8⟩ := u_known (C := RX8) (T := TX8) (N := 4) (n := 4) htg ig_X8 (htg _ (tg_t (tb1 (List.mem_of_getElem? (i := 84) (by decide +kernel))) rfl))
  obtain ⟨c9, i9, k9⟩ := u_known (C := RX11) (T := TX11) (N := 16) (n := 16) htg ig_X11 (htg _ (tg_t (tb1 (List.mem_of_getElem? (i := 23) (by decide +kernel))) rfl))
  obtain ⟨c10, i10, k10⟩ := u_known (C := RX12) (T := TX12) (N := 67) (n := 67) htg ig_X12 (htg _ (tg_t (tb4 (List.mem_of_getElem? (i := 155) (by decide +kernel))) rfl))
  obtain ⟨dC, dI, hKc⟩ : ∃ (dC : Nat → ClassId) (dI : Nat → Nat → Nat), ∀ (k : Nat) (q : vw_C), vwCl[k]? = some q → u_Kn s q.1 q.2.1 q.2.2 (dC k) (dI k) := by
    refine ⟨fun k => [c0, c1, c2, c3, c4, c5, c6, c7, c8, c9, c10].getD k 0, fun k => [i0, i1, i2, i3, i4, i5, i6, i7, i8, i9, i10].getD k (fun _ => 0), ?_⟩
    intro k q hq
    match k, hq with
    | 0, hq => cases hq; exact k0
    | 1, hq => cases hq; exact k1
    | 2, hq => cases hq; exact k2
    | 3, hq => cases hq; exact k3
    | 4, hq => cases hq; exact k4
    | 5, hq => cases hq; exact k5
    | 6, hq => cases hq; exact k6
    | 7, hq => cases hq; exact k7
    | 8, hq => cases hq; exact k8
    | 9, hq => cases hq; exact k9
    | 10, hq => cases hq; exact k10
    | k + 11, hq => cases hq
  obtain ⟨a0, kA0, cm0, f0, g0, h0⟩ := Cond.arrayClass_spec (htg _ ar_int)
  obtain ⟨a1, kA1, cm1, f1, g1, h1⟩ := Cond.arrayClass_spec (htg _ ar_boolean)
  obtain ⟨a2, kA2, cm2, f2, g2, h2⟩ := Cond.arrayClass_spec (htg _ ar_byte)
  have ho3 := hts (Cond.arrayOver (.object "FirstPancake$Plan")) (List.mem_append_right _ (tb2 (List.mem_of_getElem? (i := 8) (by decide +kernel))))
  obtain ⟨cm3, a3, kA3, q31, q32, q33, q34, q35⟩ := Cond.arrayOver_spec ho3
  have ho4 := hts (Cond.arrayOver (.object "FirstPancake$Cake")) (List.mem_append_right _ (tb2 (List.mem_of_getElem? (i := 10) (by decide +kernel))))
  obtain ⟨cm4, a4, kA4, q41, q42, q43, q44, q45⟩ := Cond.arrayOver_spec ho4
  obtain ⟨t1, e1, hT1⟩ := va_Tof (tm := (.static "FirstPancake" "WORTHS" "[I")) (N := 6) (f := fun j => .int (gWorth.getD j 0)) (A := fun q : Nat => s.heap.size ≤ q) (by decide) (hs _ gf_a1) (va_eqt (hs _ gf_l1)) (fun j hj => va_eqt (hs _ (gf_e1 j hj))) hA
  have hZ1 := va_Zof (A := fun q : Nat => s.heap.size ≤ q) (hts _ (List.mem_append_right _ (tb3 (List.mem_of_getElem? (i := 188) (by decide +kernel))))) (htg _ (tg_t (tb1 (List.mem_of_getElem? (i := 1) (by decide +kernel))) rfl)) e1 hA
  obtain ⟨t2, e2, hT2⟩ := va_Tof (tm := (.static "FirstPancake" "ABOVE" "[I")) (N := 6) (f := fun j => .int (gAbove.getD j 0)) (A := fun q : Nat => s.heap.size ≤ q) (by decide) (hs _ gf_a2) (va_eqt (hs _ gf_l2)) (fun j hj => va_eqt (hs _ (gf_e2 j hj))) hA
  have hZ2 := va_Zof (A := fun q : Nat => s.heap.size ≤ q) (hts _ (List.mem_append_right _ (tb3 (List.mem_of_getElem? (i := 206) (by decide +kernel))))) (htg _ (tg_t (tb1 (List.mem_of_getElem? (i := 1) (by decide +kernel))) rfl)) e2 hA
  obtain ⟨t3, e3, hT3⟩ := va_Tof (tm := (.static "FirstPancake$PlanText" "MOST" "[I")) (N := 5) (f := fun j => .int (gMost.getD j 0)) (A := fun q : Nat => s.heap.size ≤ q) (by decide) (hs _ gf_a3) (va_eqt (hs _ gf_l3)) (fun j hj => va_eqt (hs _ (gf_e3 j hj))) hA
  have hZ3 := va_Zof (A := fun q : Nat => s.heap.size ≤ q) (hts _ (List.mem_append_right _ (tb2 (List.mem_of_getElem? (i := 156) (by decide +kernel))))) (htg _ (tg_t (tb1 (List.mem_of_getElem? (i := 5) (by decide +kernel))) rfl)) e3 hA
  have hZc := va_Zof (A := fun q : Nat => s.heap.size ≤ q) (hts _ (List.mem_append_right _ (tb2 (List.mem_of_getElem? (i := 171) (by decide +kernel))))) (htg _ (tg_t (tb1 (List.mem_of_getElem? (i := 14) (by decide +kernel))) rfl)) (va_eqi (hs _ gf_c)) hA
  have hZf := va_Zqof (A := fun q : Nat => s.heap.size ≤ q) (hts _ (List.mem_append_right _ (tb2 (List.mem_of_getElem? (i := 214) (by decide +kernel))))) (htg _ (tg_t (tb1 (List.mem_of_getElem? (i := 18) (by decide +kernel))) rfl)) (hs _ gf_f) hA
  obtain ⟨adK, adV, hSt, hEv⟩ := vk_Sof (N := 2) (tm := gTm) (len := [4, 4]) (byt := gText) (A := fun q : Nat => s.heap.size ≤ q) (by decide) (fun i hi => hs _ (gf_x i hi)) (fun i hi => hs _ (gf_o i hi)) (fun i hi => hs _ (gf_v i hi)) (fun i hi => hs _ (gf_n i hi)) (fun i hi j hj => hs _ (gf_b i hi j hj)) (fun i j hi hj hij => by
    rcases (show (i = 0 ∧ j = 1) ∨ (i = 1 ∧ j = 0) by omega) with ⟨rfl, rfl⟩ | ⟨rfl, rfl⟩
    · exact Or.inl (hs _ gf_d)
    · exact Or.inr (hs _ gf_d)) hA
  have hKK : va_K (dC, dI) vwCl [(a0, .int), (a1, .boolean), (a2, .byte), (a3, .object "FirstPancake$Plan"), (a4, .object "FirstPancake$Cake")] s := by
    refine ⟨hKc, fun k q hq => ?_⟩
    match k, hq with
    | 0, hq => cases hq; exact ⟨fun n z => ⟨fun k h => (by cases h), kA0, g0, cm0, h0⟩, f0⟩
    | 1, hq => cases hq; exact ⟨fun n z => ⟨fun k h => (by cases h), kA1, g1, cm1, h1⟩, f1⟩
    | 2, hq => cases hq; exact ⟨fun n z => ⟨fun k h => (by cases h), kA2, g2, cm2, h2⟩, f2⟩
    | 3, hq => cases hq; exact ⟨fun n z => ⟨fun k h => (by cases h), kA3, q33, cm3, q34⟩, kA3, cm3, q33, q34, q31, q35⟩
    | 4, hq => cases hq; exact ⟨fun n z => ⟨fun k h => (by cases h), kA4, q43, cm4, q44⟩, kA4, cm4, q43, q44, q41, q45⟩
    | k + 5, hq => cases hq
  have hN : ∀ w ∈ lw_tbl, isN w = true → va_Nw w s := fun w hw hn => va_Nw.of (nw_tab hn) (hts w hw)
  have hSS : vk_S 2 [4, 4] gText (fun i => gSl s.heap.size t1 t2 t3 adK adV (4 + i)) (fun i => gSl s.heap.size t1 t2 t3 adK adV (6 + i)) (fun q : Nat => s.heap.size ≤ q) s s.heap := by
    refine ⟨fun i hi => ?_, fun i j hi hj e => ?_⟩
    · rcases (show i = 0 ∨ i = 1 by omega) with rfl | rfl
      · exact hSt.1 0 (by decide)
      · exact hSt.1 1 (by decide)
    · rcases (show i = 0 ∨ i = 1 by omega) with rfl | rfl <;> rcases (show j = 0 ∨ j = 1 by omega) with rfl | rfl
      · rfl
      · exact hSt.2 0 1 (by decide) (by decide) e
      · exact hSt.2 1 0 (by decide) (by decide) e
      · rfl
  have hR1 : vk_R "FirstPancake$PlanText" 38 "nesw" (adK 0) s := vk_R.of (hts _ (List.mem_append_right _ (tb2 (List.mem_of_getElem? (i := 157) (by decide +kernel))))) (hEv 0 (by decide))
  have hR2 : vk_R "FirstPancake$PlanText" 55 "fatu" (adK 1) s := vk_R.of (hts _ (List.mem_append_right _ (tb3 (List.mem_of_getElem? (i := 12) (by decide +kernel))))) (hEv 1 (by decide))
  refine ⟨((dC, dI), (fun k => [a0, a1, a2, a3, a4].getD k 0), (fun k => s.heap.size + k), gSl s.heap.size t1 t2 t3 adK adV), rfl, ?_, ?_⟩
  · refine ⟨hKK, fun i j _ _ h => ?_, fun i _ => Nat.le_add_right _ _, ⟨hZ1, hT1, hZ2, hT2, hZ3, hT3, hZc, hZf, hSS⟩, hN, hR1, hR2⟩
    exact kp_inj (Nat.add_left_cancel h)
  · exact ⟨hKK, fun k => rfl, hN, va_AO.of ho3, va_AO.of ho4⟩
