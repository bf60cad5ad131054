theorem tail_lt {k : Nat} {e0 : va_E} {Z X1 : List (Nat × va_E)} (h : ∀ z ∈ Z, z.1 < k) : ∀ y ∈ Z, y ∈ X1 ∨ (y ∈ (k, e0) :: Z ∧ y.1 < k) := fun y hy => Or.inr ⟨List.mem_cons_of_mem _ hy, h y hy⟩
theorem head_or {k : Nat} {e0 : va_E} {Z : List (Nat × va_E)} : ∀ x ∈ (k, e0) :: Z, x.1 = k ∨ x ∈ Z := fun x hx => by
  rcases List.mem_cons.mp hx with rfl | q
  · exact Or.inl rfl
  · exact Or.inr q
def rc_X9 : Room := { frames := 1, cells := 0, slots := 0, locals := 12 }
theorem c_X9_init (l : Launch) (E : gE) (lo : Nat) (e0 : va_E) : CtC l E yX9_init cX9_init 1 rc_X9 [.ref (ad E lo)] lo e0 (lo + 1) [(lo, e0)] 0 0 := by
  refine cc_of (by decide) rfl (Nat.le_of_ble_eq_true rfl) (fun p e s m below meth c hC => ?_)
  generalize ([.ref (ad E lo)] : List Value).toArray = args at hC ⊢
  have hB := hC.1
  refine k_sub (lv' := [(0, .ref (ad E lo))]) [0] rfl ?_
  refine k_aload_n (pc := 0) hB dX9_init_0 rfl 0 rfl ?_
  refine k_obj (pc := 1) hB oi_X9_1 oi_m oi_c dX9_init_1 ⟨Nat.le_of_ble_eq_true rfl, Nat.le_of_ble_eq_true rfl⟩ ?_
  exact k_ret (pc := 4) hC dX9_init_4 (fun x h => h) (fun x h => Or.inl h)
def rc_X0 : Room := { frames := 1, cells := 2, slots := 23, locals := 12 }
theorem c_X0_init (l : Launch) (E : gE) {lo : Nat} (hk : kd lo = 0) : CtC l E yX0_init cX0_init 1 rc_X0 [.ref (ad E lo)] lo (.inr (0, [.null, .null])) (lo + 3) [] 2 23 := by
  refine cc_of (by decide) rfl (Nat.le_of_ble_eq_true rfl) (fun p e s m below meth c hC => ?_)
  generalize ([.ref (ad E lo)] : List Value).toArray = args at hC ⊢
  have hB := hC.1
  refine k_sub (lv' := [(0, .ref (ad E lo))]) [0] rfl ?_
  refine k_aload_n (pc := 0) hB dX0_init_0 rfl 0 rfl ?_
  refine k_obj (pc := 1) hB oi_X0_3 oi_m oi_c dX0_init_1 ⟨Nat.le_of_ble_eq_true rfl, Nat.le_of_ble_eq_true rfl⟩ ?_
  refine k_aload_n (pc := 4) hB dX0_init_4 rfl 0 rfl ?_
  refine k_bipush (pc := 5) (v := 16) hB dX0_init_5 (by decide) ?_
  refine k_newa (pc := 7) (atype := .int) (t0 := 0) (N := 16) hB ar_int (by decide +kernel) (by decide) (by decide) rfl rfl rfl (FC_v hk (by decide) (kd_c1 hk)) ⟨Nat.le_of_ble_eq_true rfl, Nat.le_of_ble_eq_true rfl⟩ dX0_init_7 ?_
  refine k_put (pc := 9) (fs' := [.ref (ad E (lo + 1)), .null]) hC ff_X0_9 rfl rfl (Nat.le_of_ble_eq_true rfl) (fun _ h => by cases h) rfl dX0_init_9 ?_
  refine k_aload_n (pc := 12) hB dX0_init_12 rfl 0 rfl ?_
  refine k_bipush (pc := 13) (v := 7) hB dX0_init_13 (by decide) ?_
  refine k_newa (pc := 15) (atype := .int) (t0 := 0) (N := 7) hB ar_int (by decide +kernel) (by decide) (by decide) rfl rfl rfl (FC_v hk (by decide) (kd_c2 hk)) ⟨Nat.le_of_ble_eq_true rfl, Nat.le_of_ble_eq_true rfl⟩ dX0_init_15 ?_
  refine k_put (pc := 17) (fs' := [.ref (ad E (lo + 1)), .ref (ad E (lo + 2))]) hC ff_X0_15 rfl rfl (Nat.le_of_ble_eq_true rfl) (fun _ h => by cases h) rfl dX0_init_17 ?_
  exact k_ret (pc := 20) hC dX0_init_20 (fun x h => by cases h) (fun x hx => by rcases List.mem_cons.mp hx with rfl | q; exact Or.inr (FC_v0 hk (by decide)).symm; cases q)
def rc_X1 : Room := { frames := 1, cells := 2, slots := 32, locals := 12 }
theorem c_X1_init (l : Launch) (E : gE) {lo : Nat} (hk : kd lo = 1) : CtC l E yX1_init cX1_init 1 rc_X1 [.ref (ad E lo)] lo (.inr (1, [.null, .null, .int 0])) (lo + 3) [] 2 32 := by
  refine cc_of (by decide) rfl (Nat.le_of_ble_eq_true rfl) (fun p e s m below meth c hC => ?_)
  generalize ([.ref (ad E lo)] : List Value).toArray = args at hC ⊢
  have hB := hC.1
  refine k_sub (lv' := [(0, .ref (ad E lo))]) [0] rfl ?_
  refine k_aload_n (pc := 0) hB dX1_init_0 rfl 0 rfl ?_
  refine k_obj (pc := 1) hB oi_X1_3 oi_m oi_c dX1_init_1 ⟨Nat.le_of_ble_eq_true rfl, Nat.le_of_ble_eq_true rfl⟩ ?_
  refine k_aload_n (pc := 4) hB dX1_init_4 rfl 0 rfl ?_
  refine k_bipush (pc := 5) (v := 16) hB dX1_init_5 (by decide) ?_
  refine k_newa (pc := 7) (atype := .int) (t0 := 0) (N := 16) hB ar_int (by decide +kernel) (by decide) (by decide) rfl rfl rfl (FC_v hk (by decide) (kd_d1 hk)) ⟨Nat.le_of_ble_eq_true rfl, Nat.le_of_ble_eq_true rfl⟩ dX1_init_7 ?_
  refine k_put (pc := 9) (fs' := [.ref (ad E (lo + 1)), .null, .int 0]) hC ff_X1_9 rfl rfl (Nat.le_of_ble_eq_true rfl) (fun _ h => by cases h) rfl dX1_init_9 ?_
  refine k_aload_n (pc := 12) hB dX1_init_12 rfl 0 rfl ?_
  refine k_bipush (pc := 13) (v := 16) hB dX1_init_13 (by decide) ?_
  refine k_newa (pc := 15) (atype := .int) (t0 := 0) (N := 16) hB ar_int (by decide +kernel) (by decide) (by decide) rfl rfl rfl (FC_v hk (by decide) (kd_d2 hk)) ⟨Nat.le_of_ble_eq_true rfl, Nat.le_of_ble_eq_true rfl⟩ dX1_init_15 ?_
  refine k_put (pc := 17) (fs' := [.ref (ad E (lo + 1)), .ref (ad E (lo + 2)), .int 0]) hC ff_X1_15 rfl rfl (Nat.le_of_ble_eq_true rfl) (fun _ h => by cases h) rfl dX1_init_17 ?_
  exact k_ret (pc := 20) hC dX1_init_20 (fun x h => by cases h) (fun x hx => by rcases List.mem_cons.mp hx with rfl | q; exact Or.inr (FC_v0 hk (by decide)).symm; cases q)
def rc_X7 : Room := { frames := 1, cells := 1, slots := 6, locals := 12 }
theorem c_X7_init (l : Launch) (E : gE) {lo : Nat} (hk : kd lo = 7) : CtC l E yX7_init cX7_init 1 rc_X7 [.ref (ad E lo)] lo (.inr (7, [.null, .int 0, .int 0, .int 0, .int 0, .int 0])) (lo + 2) [] 1 6 := by
  refine cc_of (by decide) rfl (Nat.le_of_ble_eq_true rfl) (fun p e s m below meth c hC => ?_)
  generalize ([.ref (ad E lo)] : List Value).toArray = args at hC ⊢
  have hB := hC.1
  refine k_sub (lv' := [(0, .ref (ad E lo))]) [0] rfl ?_
  refine k_aload_n (pc := 0) hB dX7_init_0 rfl 0 rfl ?_
  refine k_obj (pc := 1) hB oi_X7_3 oi_m oi_c dX7_init_1 ⟨Nat.le_of_ble_eq_true rfl, Nat.le_of_ble_eq_true rfl⟩ ?_
  refine k_aload_n (pc := 4) hB dX7_init_4 rfl 0 rfl ?_
  refine k_bipush (pc := 5) (v := 6) hB dX7_init_5 (by decide) ?_
  refine k_newa (pc := 7) (atype := .int) (t0 := 0) (N := 6) hB ar_int (by decide +kernel) (by decide) (by decide) rfl rfl rfl (FC_v hk (by decide) (kd_p1 hk)) ⟨Nat.le_of_ble_eq_true rfl, Nat.le_of_ble_eq_true rfl⟩ dX7_init_7 ?_
  refine k_put (pc := 9) (fs' := [.ref (ad E (lo + 1)), .int 0, .int 0, .int 0, .int 0, .int 0]) hC ff_X7_9 rfl rfl (Nat.le_of_ble_eq_true rfl) (fun _ h => by cases h) rfl dX7_init_9 ?_
  exact k_ret (pc := 12) hC dX7_init_12 (fun x h => by cases h) (fun x hx => by rcases List.mem_cons.mp hx with rfl | q; exact Or.inr (FC_v0 hk (by decide)).symm; cases q)
def rc_X4 : Room := { frames := 1, cells := 1, slots := 40, locals := 12 }
theorem c_X4_init (l : Launch) (E : gE) : CtC l E yX4_init cX4_init 1 rc_X4 [.ref (ad E 1)] 1 (.inr (4, [.null, .int 0])) 3 [] 1 40 := by
  refine cc_of (by decide) rfl (Nat.le_of_ble_eq_true rfl) (fun p e s m below meth c hC => ?_)
  generalize ([.ref (ad E 1)] : List Value).toArray = args at hC ⊢
  have hB := hC.1
  refine k_sub (lv' := [(0, .ref (ad E 1))]) [0] rfl ?_
  refine k_aload_n (pc := 0) hB dX4_init_0 rfl 0 rfl ?_
  refine k_obj (pc := 1) hB oi_X4_3 oi_m oi_c dX4_init_1 ⟨Nat.le_of_ble_eq_true rfl, Nat.le_of_ble_eq_true rfl⟩ ?_
  refine k_aload_n (pc := 4) hB dX4_init_4 rfl 0 rfl ?_
  refine k_bipush (pc := 5) (v := 40) hB dX4_init_5 (by decide) ?_
  refine k_newa (pc := 7) (atype := .int) (t0 := 0) (N := 40) hB ar_int (by decide +kernel) (by decide) (by decide) rfl rfl rfl rfl ⟨Nat.le_of_ble_eq_true rfl, Nat.le_of_ble_eq_true rfl⟩ dX4_init_7 ?_
  refine k_put (pc := 9) (fs' := [.ref (ad E 2), .int 0]) hC ff_X4_9 rfl rfl (Nat.le_of_ble_eq_true rfl) (fun _ h => by cases h) rfl dX4_init_9 ?_
  exact k_ret (pc := 12) hC dX4_init_12 (fun x h => by cases h) (fun x hx => by rcases List.mem_cons.mp hx with rfl | q; exact Or.inr rfl; cases q)
def rc_X6 : Room := { frames := 2, cells := 2, slots := 32, locals := 32 }
theorem c_X6_init (l : Launch) (E : gE) : CtC l E yX6_init cX6_init 1 rc_X6 [.ref (ad E 3)] 3 (.inr (6, [.null, .null, .int 0, .int 0, .int 0, .int 0, .int 0])) 6 [] 2 32 := by
  refine cc_of (by decide) rfl (Nat.le_of_ble_eq_true rfl) (fun p e s m below meth c hC => ?_)
  generalize ([.ref (ad E 3)] : List Value).toArray = args at hC ⊢
  have hB := hC.1
  refine k_sub (lv' := [(0, .ref (ad E 3))]) [0] rfl ?_
  refine k_aload_n (pc := 0) hB dX6_init_0 rfl 0 rfl ?_
  refine k_callN (pc := 1) (k := 3) (X1 := [(3, .inr (6, [.null, .null, .int 0, .int 0, .int 0, .int 0, .int 0]))]) (Y := [(3, .inr (6, [.null, .null, .int 0, .int 0, .int 0, .int 0, .int 0]))]) (As := []) (rest := []) hB mn_X6_3 mi_X9 (c_X9_init l E 3 _) ⟨rfl, rfl⟩ ⟨Nat.le_of_ble_eq_true rfl, Nat.le_of_ble_eq_true rfl⟩ rfl rfl (Nat.le_of_ble_eq_true rfl) ⟨Nat.le_of_ble_eq_true rfl, Nat.le_of_ble_eq_true rfl⟩ dX6_init_1 List.mem_cons_self (Nat.le_of_ble_eq_true rfl) (Nat.le_of_ble_eq_true rfl) (fun y h => Or.inl h) (fun x h => Or.inr h) (fun x h => h) ?_
  refine k_aload_n (pc := 4) hB dX6_init_4 rfl 0 rfl ?_
  refine k_bipush (pc := 5) (v := 16) hB dX6_init_5 (by decide) ?_
  refine k_newa (pc := 7) (atype := .int) (t0 := 0) (N := 16) hB ar_int (by decide +kernel) (by decide) (by decide) rfl rfl rfl rfl ⟨Nat.le_of_ble_eq_true rfl, Nat.le_of_ble_eq_true rfl⟩ dX6_init_7 ?_
  refine k_put (pc := 9) (fs' := [.ref (ad E 4), .null, .int 0, .int 0, .int 0, .int 0, .int 0]) hC ff_X6_9 rfl rfl (Nat.le_of_ble_eq_true rfl) (fun _ h => by cases h) rfl dX6_init_9 ?_
  refine k_aload_n (pc := 12) hB dX6_init_12 rfl 0 rfl ?_
  refine k_bipush (pc := 13) (v := 16) hB dX6_init_13 (by decide) ?_
  refine k_newa (pc := 15) (atype := .boolean) (t0 := 1) (N := 16) hB ar_boolean (by decide +kernel) (by decide) (by decide) rfl rfl rfl rfl ⟨Nat.le_of_ble_eq_true rfl, Nat.le_of_ble_eq_true rfl⟩ dX6_init_15 ?_
  refine k_put (pc := 17) (fs' := [.ref (ad E 4), .ref (ad E 5), .int 0, .int 0, .int 0, .int 0, .int 0]) hC ff_X6_15 rfl rfl (Nat.le_of_ble_eq_true rfl) (fun _ h => by cases h) rfl dX6_init_17 ?_
  exact k_ret (pc := 20) hC dX6_init_20 (fun x h => by cases h) (fun x hx => by rcases List.mem_cons.mp hx with rfl | q; exact Or.inr rfl; cases q)
def rc_X8 : Room := { frames := 2, cells := 2, slots := 11, locals := 32 }
theorem c_X8_init (l : Launch) (E : gE) : CtC l E yX8_init cX8_init 1 rc_X8 [.ref (ad E 6)] 6 (.inr (8, [.null, .null, .int 0, .int 0])) 9 [] 2 11 := by
  refine cc_of (by decide) rfl (Nat.le_of_ble_eq_true rfl) (fun p e s m below meth c hC => ?_)
  generalize ([.ref (ad E 6)] : List Value).toArray = args at hC ⊢
  have hB := hC.1
  refine k_sub (lv' := [(0, .ref (ad E 6))]) [0] rfl ?_
  refine k_aload_n (pc := 0) hB dX8_init_0 rfl 0 rfl ?_
  refine k_callN (pc := 1) (k := 6) (X1 := [(6, .inr (8, [.null, .null, .int 0, .int 0]))]) (Y := [(6, .inr (8, [.null, .null, .int 0, .int 0]))]) (As := []) (rest := []) hB mn_X8_3 mi_X9 (c_X9_init l E 6 _) ⟨rfl, rfl⟩ ⟨Nat.le_of_ble_eq_true rfl, Nat.le_of_ble_eq_true rfl⟩ rfl rfl (Nat.le_of_ble_eq_true rfl) ⟨Nat.le_of_ble_eq_true rfl, Nat.le_of_ble_eq_true rfl⟩ dX8_init_1 List.mem_cons_self (Nat.le_of_ble_eq_true rfl) (Nat.le_of_ble_eq_true rfl) (fun y h => Or.inl h) (fun x h => Or.inr h) (fun x h => h) ?_
  refine k_aload_n (pc := 4) hB dX8_init_4 rfl 0 rfl ?_
  refine k_iconst (pc := 5) (v := 5) hB dX8_init_5 (by decide) ?_
  refine k_newa (pc := 6) (atype := .int) (t0 := 0) (N := 5) hB ar_int (by decide +kernel) (by decide) (by decide) rfl rfl rfl rfl ⟨Nat.le_of_ble_eq_true rfl, Nat.le_of_ble_eq_true rfl⟩ dX8_init_6 ?_
  refine k_put (pc := 8) (fs' := [.ref (ad E 7), .null, .int 0, .int 0]) hC ff_X8_9 rfl rfl (Nat.le_of_ble_eq_true rfl) (fun _ h => by cases h) rfl dX8_init_8 ?_
  refine k_aload_n (pc := 11) hB dX8_init_11 rfl 0 rfl ?_
  refine k_bipush (pc := 12) (v := 6) hB dX8_init_12 (by decide) ?_
  refine k_newa (pc := 14) (atype := .int) (t0 := 0) (N := 6) hB ar_int (by decide +kernel) (by decide) (by decide) rfl rfl rfl rfl ⟨Nat.le_of_ble_eq_true rfl, Nat.le_of_ble_eq_true rfl⟩ dX8_init_14 ?_
  refine k_put (pc := 16) (fs' := [.ref (ad E 7), .ref (ad E 8), .int 0, .int 0]) hC ff_X8_15 rfl rfl (Nat.le_of_ble_eq_true rfl) (fun _ h => by cases h) rfl dX8_init_16 ?_
  exact k_ret (pc := 19) hC dX8_init_19 (fun x h => by cases h) (fun x hx => by rcases List.mem_cons.mp hx with rfl | q; exact Or.inr rfl; cases q)
def rc_X5 : Room := { frames := 1, cells := 4, slots := 64, locals := 12 }
theorem c_X5_init (l : Launch) (E : gE) : CtC l E yX5_init cX5_init 1 rc_X5 [.ref (ad E 10)] 10 (.inr (5, [.null, .null, .int 0, .int 0, .int 0, .null, .null])) 15 [] 4 64 := by
  refine cc_of (by decide) rfl (Nat.le_of_ble_eq_true rfl) (fun p e s m below meth c hC => ?_)
  generalize ([.ref (ad E 10)] : List Value).toArray = args at hC ⊢
  have hB := hC.1
  refine k_sub (lv' := [(0, .ref (ad E 10))]) [0] rfl ?_
  refine k_aload_n (pc := 0) hB dX5_init_0 rfl 0 rfl ?_
  refine k_obj (pc := 1) hB oi_X5_3 oi_m oi_c dX5_init_1 ⟨Nat.le_of_ble_eq_true rfl, Nat.le_of_ble_eq_true rfl⟩ ?_
  refine k_aload_n (pc := 4) hB dX5_init_4 rfl 0 rfl ?_
  refine k_bipush (pc := 5) (v := 16) hB dX5_init_5 (by decide) ?_
  refine k_newa (pc := 7) (atype := .int) (t0 := 0) (N := 16) hB ar_int (by decide +kernel) (by decide) (by decide) rfl rfl rfl rfl ⟨Nat.le_of_ble_eq_true rfl, Nat.le_of_ble_eq_true rfl⟩ dX5_init_7 ?_
  refine k_put (pc := 9) (fs' := [.ref (ad E 11), .null, .int 0, .int 0, .int 0, .null, .null]) hC ff_X5_9 rfl rfl (Nat.le_of_ble_eq_true rfl) (fun _ h => by cases h) rfl dX5_init_9 ?_
  refine k_aload_n (pc := 12) hB dX5_init_12 rfl 0 rfl ?_
  refine k_bipush (pc := 13) (v := 16) hB dX5_init_13 (by decide) ?_
  refine k_newa (pc := 15) (atype := .boolean) (t0 := 1) (N := 16) hB ar_boolean (by decide +kernel) (by decide) (by decide) rfl rfl rfl rfl ⟨Nat.le_of_ble_eq_true rfl, Nat.le_of_ble_eq_true rfl⟩ dX5_init_15 ?_
  refine k_put (pc := 17) (fs' := [.ref (ad E 11), .ref (ad E 12), .int 0, .int 0, .int 0, .null, .null]) hC ff_X5_15 rfl rfl (Nat.le_of_ble_eq_true rfl) (fun _ h => by cases h) rfl dX5_init_17 ?_
  refine k_aload_n (pc := 20) hB dX5_init_20 rfl 0 rfl ?_
  refine k_bipush (pc := 21) (v := 16) hB dX5_init_21 (by decide) ?_
  refine k_newa (pc := 23) (atype := .boolean) (t0 := 1) (N := 16) hB ar_boolean (by decide +kernel) (by decide) (by decide) rfl rfl rfl rfl ⟨Nat.le_of_ble_eq_true rfl, Nat.le_of_ble_eq_true rfl⟩ dX5_init_23 ?_
  refine k_put (pc := 25) (fs' := [.ref (ad E 11), .ref (ad E 12), .int 0, .int 0, .int 0, .ref (ad E 13), .null]) hC ff_X5_19 rfl rfl (Nat.le_of_ble_eq_true rfl) (fun _ h => by cases h) rfl dX5_init_25 ?_
  refine k_aload_n (pc := 28) hB dX5_init_28 rfl 0 rfl ?_
  refine k_bipush (pc := 29) (v := 16) hB dX5_init_29 (by decide) ?_
  refine k_newa (pc := 31) (atype := .int) (t0 := 0) (N := 16) hB ar_int (by decide +kernel) (by decide) (by decide) rfl rfl rfl rfl ⟨Nat.le_of_ble_eq_true rfl, Nat.le_of_ble_eq_true rfl⟩ dX5_init_31 ?_
  refine k_put (pc := 33) (fs' := [.ref (ad E 11), .ref (ad E 12), .int 0, .int 0, .int 0, .ref (ad E 13), .ref (ad E 14)]) hC ff_X5_22 rfl rfl (Nat.le_of_ble_eq_true rfl) (fun _ h => by cases h) rfl dX5_init_33 ?_
  exact k_ret (pc := 36) hC dX5_init_36 (fun x h => by cases h) (fun x hx => by rcases List.mem_cons.mp hx with rfl | q; exact Or.inr rfl; cases q)
def rc_X3 : Room := { frames := 1, cells := 2, slots := 18, locals := 12 }
theorem c_X3_init (l : Launch) (E : gE) : CtC l E yX3_init cX3_init 1 rc_X3 [.ref (ad E 34)] 34 (.inr (3, [.null, .null, .int 0, .int 0])) 37 [] 2 18 := by
  refine cc_of (by decide) rfl (Nat.le_of_ble_eq_true rfl) (fun p e s m below meth c hC => ?_)
  generalize ([.ref (ad E 34)] : List Value).toArray = args at hC ⊢
  have hB := hC.1
  refine k_sub (lv' := [(0, .ref (ad E 34))]) [0] rfl ?_
  refine k_aload_n (pc := 0) hB dX3_init_0 rfl 0 rfl ?_
  refine k_obj (pc := 1) hB oi_X3_3 oi_m oi_c dX3_init_1 ⟨Nat.le_of_ble_eq_true rfl, Nat.le_of_ble_eq_true rfl⟩ ?_
  refine k_aload_n (pc := 4) hB dX3_init_4 rfl 0 rfl ?_
  refine k_bipush (pc := 5) (v := 9) hB dX3_init_5 (by decide) ?_
  refine k_newa (pc := 7) (atype := .int) (t0 := 0) (N := 9) hB ar_int (by decide +kernel) (by decide) (by decide) rfl rfl rfl rfl ⟨Nat.le_of_ble_eq_true rfl, Nat.le_of_ble_eq_true rfl⟩ dX3_init_7 ?_
  refine k_put (pc := 9) (fs' := [.ref (ad E 35), .null, .int 0, .int 0]) hC ff_X3_9 rfl rfl (Nat.le_of_ble_eq_true rfl) (fun _ h => by cases h) rfl dX3_init_9 ?_
  refine k_aload_n (pc := 12) hB dX3_init_12 rfl 0 rfl ?_
  refine k_bipush (pc := 13) (v := 9) hB dX3_init_13 (by decide) ?_
  refine k_newa (pc := 15) (atype := .int) (t0 := 0) (N := 9) hB ar_int (by decide +kernel) (by decide) (by decide) rfl rfl rfl rfl ⟨Nat.le_of_ble_eq_true rfl, Nat.le_of_ble_eq_true rfl⟩ dX3_init_15 ?_
  refine k_put (pc := 17) (fs' := [.ref (ad E 35), .ref (ad E 36), .int 0, .int 0]) hC ff_X3_15 rfl rfl (Nat.le_of_ble_eq_true rfl) (fun _ h => by cases h) rfl dX3_init_17 ?_
  exact k_ret (pc := 20) hC dX3_init_20 (fun x h => by cases h) (fun x hx => by rcases List.mem_cons.mp hx with rfl | q; exact Or.inr rfl; cases q)
def rc_X2 : Room := { frames := 2, cells := 16, slots := 178, locals := 32 }
theorem c_X2_init (l : Launch) (E : gE) : CtC l E yX2_init cX2_init 1 rc_X2 [.ref (ad E 9)] 9 (.inr (2, [.null, .null, .null, .null, .null, .int 0, .int 0, .int 0])) 26 [] 16 178 := by
  refine cc_of (by decide) rfl (Nat.le_of_ble_eq_true rfl) (fun p e s m below meth c hC => ?_)
  generalize ([.ref (ad E 9)] : List Value).toArray = args at hC ⊢
  have hB := hC.1
  refine k_sub (lv' := [(0, .ref (ad E 9))]) [0] rfl ?_
  refine k_aload_n (pc := 0) hB dX2_init_0 rfl 0 rfl ?_
  refine k_obj (pc := 1) hB oi_X2_3 oi_m oi_c dX2_init_1 ⟨Nat.le_of_ble_eq_true rfl, Nat.le_of_ble_eq_true rfl⟩ ?_
  refine k_aload_n (pc := 4) hB dX2_init_4 rfl 0 rfl ?_
  refine k_make (pc := 5) hB nw_X2_9 (Nat.le_of_ble_eq_true rfl) ⟨Nat.le_of_ble_eq_true rfl, Nat.le_of_ble_eq_true rfl⟩ dX2_init_5 ?_
  refine k_dup (pc := 8) hB dX2_init_8 rfl ?_
  refine k_callN (pc := 9) (k := 10) (Y := [(9, .inr (2, [.null, .null, .null, .null, .null, .int 0, .int 0, .int 0]))]) (As := []) (rest := [.ref (ad E 10), .ref (ad E 9)]) hB mn_X2_11 mi_X5 (c_X5_init l E ) ⟨rfl, rfl⟩ ⟨Nat.le_of_ble_eq_true rfl, Nat.le_of_ble_eq_true rfl⟩ rfl rfl (Nat.le_of_ble_eq_true rfl) ⟨Nat.le_of_ble_eq_true rfl, Nat.le_of_ble_eq_true rfl⟩ dX2_init_9 List.mem_cons_self (Nat.le_of_ble_eq_true rfl) (Nat.le_of_ble_eq_true rfl) (tail_lt (List.forall_mem_cons.mpr ⟨Nat.le_of_ble_eq_true rfl, (fun _ h => by cases h)⟩)) head_or (fun x h => by cases h) ?_
  refine k_put (pc := 12) (fs' := [.ref (ad E 10), .null, .null, .null, .null, .int 0, .int 0, .int 0]) hC ff_X2_12 rfl rfl (Nat.le_of_ble_eq_true rfl) (fun _ h => by cases h) rfl dX2_init_12 ?_
  refine k_aload_n (pc := 15) hB dX2_init_15 rfl 0 rfl ?_
  refine k_make (pc := 16) hB nw_X2_18 (Nat.le_of_ble_eq_true rfl) ⟨Nat.le_of_ble_eq_true rfl, Nat.le_of_ble_eq_true rfl⟩ dX2_init_16 ?_
  refine k_dup (pc := 19) hB dX2_init_19 rfl ?_
  refine k_callN (pc := 20) (k := 15) (Y := [(9, .inr (2, [.ref (ad E 10), .null, .null, .null, .null, .int 0, .int 0, .int 0]))]) (As := []) (rest := [.ref (ad E 15), .ref (ad E 9)]) hB mn_X2_20 mi_X1 (c_X1_init l E (lo := 15) kq_15) ⟨rfl, rfl⟩ ⟨Nat.le_of_ble_eq_true rfl, Nat.le_of_ble_eq_true rfl⟩ rfl rfl (Nat.le_of_ble_eq_true rfl) ⟨Nat.le_of_ble_eq_true rfl, Nat.le_of_ble_eq_true rfl⟩ dX2_init_20 List.mem_cons_self (Nat.le_of_ble_eq_true rfl) (Nat.le_of_ble_eq_true rfl) (tail_lt (List.forall_mem_cons.mpr ⟨Nat.le_of_ble_eq_true rfl, (fun _ h => by cases h)⟩)) head_or (fun x h => by cases h) ?_
  refine k_put (pc := 23) (fs' := [.ref (ad E 10), .ref (ad E 15), .null, .null, .null, .int 0, .int 0, .int 0]) hC ff_X2_21 rfl rfl (Nat.le_of_ble_eq_true rfl) (fun _ h => by cases h) rfl dX2_init_23 ?_
  refine k_aload_n (pc := 26) hB dX2_init_26 rfl 0 rfl ?_
  refine k_make (pc := 27) hB nw_X2_18 (Nat.le_of_ble_eq_true rfl) ⟨Nat.le_of_ble_eq_true rfl, Nat.le_of_ble_eq_true rfl⟩ dX2_init_27 ?_
  refine k_dup (pc := 30) hB dX2_init_30 rfl ?_
  refine k_callN (pc := 31) (k := 18) (Y := [(9, .inr (2, [.ref (ad E 10), .ref (ad E 15), .null, .null, .null, .int 0, .int 0, .int 0]))]) (As := []) (rest := [.ref (ad E 18), .ref (ad E 9)]) hB mn_X2_20 mi_X1 (c_X1_init l E (lo := 18) kq_18) ⟨rfl, rfl⟩ ⟨Nat.le_of_ble_eq_true rfl, Nat.le_of_ble_eq_true rfl⟩ rfl rfl (Nat.le_of_ble_eq_true rfl) ⟨Nat.le_of_ble_eq_true rfl, Nat.le_of_ble_eq_true rfl⟩ dX2_init_31 List.mem_cons_self (Nat.le_of_ble_eq_true rfl) (Nat.le_of_ble_eq_true rfl) (tail_lt (List.forall_mem_cons.mpr ⟨Nat.le_of_ble_eq_true rfl, (fun _ h => by cases h)⟩)) head_or (fun x h => by cases h) ?_
  refine k_put (pc := 34) (fs' := [.ref (ad E 10), .ref (ad E 15), .ref (ad E 18), .null, .null, .int 0, .int 0, .int 0]) hC ff_X2_25 rfl rfl (Nat.le_of_ble_eq_true rfl) (fun _ h => by cases h) rfl dX2_init_34 ?_
  refine k_aload_n (pc := 37) hB dX2_init_37 rfl 0 rfl ?_
  refine k_make (pc := 38) hB nw_X2_28 (Nat.le_of_ble_eq_true rfl) ⟨Nat.le_of_ble_eq_true rfl, Nat.le_of_ble_eq_true rfl⟩ dX2_init_38 ?_
  refine k_dup (pc := 41) hB dX2_init_41 rfl ?_
  refine k_callN (pc := 42) (k := 21) (Y := [(9, .inr (2, [.ref (ad E 10), .ref (ad E 15), .ref (ad E 18), .null, .null, .int 0, .int 0, .int 0]))]) (As := []) (rest := [.ref (ad E 21), .ref (ad E 9)]) hB mn_X2_30 mi_X0 (c_X0_init l E (lo := 21) kq_21) ⟨rfl, rfl⟩ ⟨Nat.le_of_ble_eq_true rfl, Nat.le_of_ble_eq_true rfl⟩ rfl rfl (Nat.le_of_ble_eq_true rfl) ⟨Nat.le_of_ble_eq_true rfl, Nat.le_of_ble_eq_true rfl⟩ dX2_init_42 List.mem_cons_self (Nat.le_of_ble_eq_true rfl) (Nat.le_of_ble_eq_true rfl) (tail_lt (List.forall_mem_cons.mpr ⟨Nat.le_of_ble_eq_true rfl, (fun _ h => by cases h)⟩)) head_or (fun x h => by cases h) ?_
  refine k_put (pc := 45) (fs' := [.ref (ad E 10), .ref (ad E 15), .ref (ad E 18), .ref (ad E 21), .null, .int 0, .int 0, .int 0]) hC ff_X2_31 rfl rfl (Nat.le_of_ble_eq_true rfl) (fun _ h => by cases h) rfl dX2_init_45 ?_
  refine k_aload_n (pc := 48) hB dX2_init_48 rfl 0 rfl ?_
  refine k_make (pc := 49) hB nw_X2_35 (Nat.le_of_ble_eq_true rfl) ⟨Nat.le_of_ble_eq_true rfl, Nat.le_of_ble_eq_true rfl⟩ dX2_init_49 ?_
  refine k_dup (pc := 52) hB dX2_init_52 rfl ?_
  refine k_callN (pc := 53) (k := 24) (Y := [(9, .inr (2, [.ref (ad E 10), .ref (ad E 15), .ref (ad E 18), .ref (ad E 21), .null, .int 0, .int 0, .int 0]))]) (As := []) (rest := [.ref (ad E 24), .ref (ad E 9)]) hB mn_X2_37 mi_X7 (c_X7_init l E (lo := 24) kq_24) ⟨rfl, rfl⟩ ⟨Nat.le_of_ble_eq_true rfl, Nat.le_of_ble_eq_true rfl⟩ rfl rfl (Nat.le_of_ble_eq_true rfl) ⟨Nat.le_of_ble_eq_true rfl, Nat.le_of_ble_eq_true rfl⟩ dX2_init_53 List.mem_cons_self (Nat.le_of_ble_eq_true rfl) (Nat.le_of_ble_eq_true rfl) (tail_lt (List.forall_mem_cons.mpr ⟨Nat.le_of_ble_eq_true rfl, (fun _ h => by cases h)⟩)) head_or (fun x h => by cases h) ?_
  refine k_put (pc := 56) (fs' := [.ref (ad E 10), .ref (ad E 15), .ref (ad E 18), .ref (ad E 21), .ref (ad E 24), .int 0, .int 0, .int 0]) hC ff_X2_38 rfl rfl (Nat.le_of_ble_eq_true rfl) (fun _ h => by cases h) rfl dX2_init_56 ?_
  exact k_ret (pc := 59) hC dX2_init_59 (fun x h => by cases h) (fun x hx => by rcases List.mem_cons.mp hx with rfl | q; exact Or.inr rfl; cases q)
theorem fin_X12 {E : gE} : (.inr (10, [.int 0, .int 0, .int 0, .ref (ad E 122), .ref (ad E 123), .ref (ad E 124), .ref (ad E 125), .int 0, .int 0, .ref (ad E 126), .ref (ad E 127), .ref (ad E 128), .ref (ad E 129), .ref (ad E 130), .ref (ad E 131), .int 0, .ref (ad E 132), .ref (ad E 133), .int 0, .int 0, .ref (ad E 134), .int 0, .int 0, .int 0, .int 0, .ref (ad E 135), .ref (ad E 136), .int 0, .int 0, .int 0, .int 0, .int 0, .int 0, .ref (ad E 137), .ref (ad E 138), .int 0, .int 0, .int 0, .int 0, .int 0, .ref (ad E 139), .ref (ad E 140), .ref (ad E 141), .int 0, .int 0, .int 0, .int 0, .int 0, .int 0, .ref (ad E 142), .ref (ad E 143), .ref (ad E 144), .ref (ad E 145), .ref (ad E 146), .int 0, .int 0, .int 0, .int 0, .int 0, .int 0, .int 0, .int 0, .int 0, .ref (ad E 147), .ref (ad E 148), .ref (ad E 149), .long 0]) : va_E) = FC E 121 := rfl
def rc_X12 : Room := { frames := 1, cells := 28, slots := 944, locals := 12 }
theorem c_X12_init (l : Launch) (E : gE) : CtC l E yX12_init cX12_init 1 rc_X12 [.ref (ad E 121)] 121 (.inr (10, [.int 0, .int 0, .int 0, .null, .null, .null, .null, .int 0, .int 0, .null, .null, .null, .null, .null, .null, .int 0, .null, .null, .int 0, .int 0, .null, .int 0, .int 0, .int 0, .int 0, .null, .null, .int 0, .int 0, .int 0, .int 0, .int 0, .int 0, .null, .null, .int 0, .int 0, .int 0, .int 0, .int 0, .null, .null, .null, .int 0, .int 0, .int 0, .int 0, .int 0, .int 0, .null, .null, .null, .null, .null, .int 0, .int 0, .int 0, .int 0, .int 0, .int 0, .int 0, .int 0, .int 0, .null, .null, .null, .long 0])) 150 [] 28 944 := by
  refine cc_of (by decide) rfl (Nat.le_of_ble_eq_true rfl) (fun p e s m below meth c hC => ?_)
  generalize ([.ref (ad E 121)] : List Value).toArray = args at hC ⊢
  have hB := hC.1
  refine k_sub (lv' := [(0, .ref (ad E 121))]) [0] rfl ?_
  refine k_aload_n (pc := 0) hB dX12_init_0 rfl 0 rfl ?_
  refine k_obj (pc := 1) hB oi_X12_1 oi_m oi_c dX12_init_1 ⟨Nat.le_of_ble_eq_true rfl, Nat.le_of_ble_eq_true rfl⟩ ?_
  refine k_aload_n (pc := 4) hB dX12_init_4 rfl 0 rfl ?_
  refine k_bipush (pc := 5) (v := 16) hB dX12_init_5 (by decide) ?_
  refine k_newa (pc := 7) (atype := .int) (t0 := 0) (N := 16) hB ar_int (by decide +kernel) (by decide) (by decide) rfl rfl rfl rfl ⟨Nat.le_of_ble_eq_true rfl, Nat.le_of_ble_eq_true rfl⟩ dX12_init_7 ?_
  refine k_put (pc := 9) (fs' := [.int 0, .int 0, .int 0, .ref (ad E 122), .null, .null, .null, .int 0, .int 0, .null, .null, .null, .null, .null, .null, .int 0, .null, .null, .int 0, .int 0, .null, .int 0, .int 0, .int 0, .int 0, .null, .null, .int 0, .int 0, .int 0, .int 0, .int 0, .int 0, .null, .null, .int 0, .int 0, .int 0, .int 0, .int 0, .null, .null, .null, .int 0, .int 0, .int 0, .int 0, .int 0, .int 0, .null, .null, .null, .null, .null, .int 0, .int 0, .int 0, .int 0, .int 0, .int 0, .int 0, .int 0, .int 0, .null, .null, .null, .long 0]) hC ff_X12_7 rfl rfl (Nat.le_of_ble_eq_true rfl) (fun _ h => by cases h) rfl dX12_init_9 ?_
  refine k_aload_n (pc := 12) hB dX12_init_12 rfl 0 rfl ?_
  refine k_bipush (pc := 13) (v := 16) hB dX12_init_13 (by decide) ?_
  refine k_newa (pc := 15) (atype := .boolean) (t0 := 1) (N := 16) hB ar_boolean (by decide +kernel) (by decide) (by decide) rfl rfl rfl rfl ⟨Nat.le_of_ble_eq_true rfl, Nat.le_of_ble_eq_true rfl⟩ dX12_init_15 ?_
  refine k_put (pc := 17) (fs' := [.int 0, .int 0, .int 0, .ref (ad E 122), .ref (ad E 123), .null, .null, .int 0, .int 0, .null, .null, .null, .null, .null, .null, .int 0, .null, .null, .int 0, .int 0, .null, .int 0, .int 0, .int 0, .int 0, .null, .null, .int 0, .int 0, .int 0, .int 0, .int 0, .int 0, .null, .null, .int 0, .int 0, .int 0, .int 0, .int 0, .null, .null, .null, .int 0, .int 0, .int 0, .int 0, .int 0, .int 0, .null, .null, .null, .null, .null, .int 0, .int 0, .int 0, .int 0, .int 0, .int 0, .int 0, .int 0, .int 0, .null, .null, .null, .long 0]) hC ff_X12_13 rfl rfl (Nat.le_of_ble_eq_true rfl) (fun _ h => by cases h) rfl dX12_init_17 ?_
  refine k_aload_n (pc := 20) hB dX12_init_20 rfl 0 rfl ?_
  refine k_bipush (pc := 21) (v := 16) hB dX12_init_21 (by decide) ?_
  refine k_newa (pc := 23) (atype := .int) (t0 := 0) (N := 16) hB ar_int (by decide +kernel) (by decide) (by decide) rfl rfl rfl rfl ⟨Nat.le_of_ble_eq_true rfl, Nat.le_of_ble_eq_true rfl⟩ dX12_init_23 ?_
  refine k_put (pc := 25) (fs' := [.int 0, .int 0, .int 0, .ref (ad E 122), .ref (ad E 123), .ref (ad E 124), .null, .int 0, .int 0, .null, .null, .null, .null, .null, .null, .int 0, .null, .null, .int 0, .int 0, .null, .int 0, .int 0, .int 0, .int 0, .null, .null, .int 0, .int 0, .int 0, .int 0, .int 0, .int 0, .null, .null, .int 0, .int 0, .int 0, .int 0, .int 0, .null, .null, .null, .int 0, .int 0, .int 0, .int 0, .int 0, .int 0, .null, .null, .null, .null, .null, .int 0, .int 0, .int 0, .int 0, .int 0, .int 0, .int 0, .int 0, .int 0, .null, .null, .null, .long 0]) hC ff_X12_17 rfl rfl (Nat.le_of_ble_eq_true rfl) (fun _ h => by cases h) rfl dX12_init_25 ?_
  refine k_aload_n (pc := 28) hB dX12_init_28 rfl 0 rfl ?_
  refine k_bipush (pc := 29) (v := 16) hB dX12_init_29 (by decide) ?_
  refine k_newa (pc := 31) (atype := .int) (t0 := 0) (N := 16) hB ar_int (by decide +kernel) (by decide) (by decide) rfl rfl rfl rfl ⟨Nat.le_of_ble_eq_true rfl, Nat.le_of_ble_eq_true rfl⟩ dX12_init_31 ?_
  refine k_put (pc := 33) (fs' := [.int 0, .int 0, .int 0, .ref (ad E 122), .ref (ad E 123), .ref (ad E 124), .ref (ad E 125), .int 0, .int 0, .null, .null, .null, .null, .null, .null, .int 0, .null, .null, .int 0, .int 0, .null, .int 0, .int 0, .int 0, .int 0, .null, .null, .int 0, .int 0, .int 0, .int 0, .int 0, .int 0, .null, .null, .int 0, .int 0, .int 0, .int 0, .int 0, .null, .null, .null, .int 0, .int 0, .int 0, .int 0, .int 0, .int 0, .null, .null, .null, .null, .null, .int 0, .int 0, .int 0, .int 0, .int 0, .int 0, .int 0, .int 0, .int 0, .null, .null, .null, .long 0]) hC ff_X12_20 rfl rfl (Nat.le_of_ble_eq_true rfl) (fun _ h => by cases h) rfl dX12_init_33 ?_
  refine k_aload_n (pc := 36) hB dX12_init_36 rfl 0 rfl ?_
  refine k_bipush (pc := 37) (v := 6) hB dX12_init_37 (by decide) ?_
  refine k_newa (pc := 39) (atype := .int) (t0 := 0) (N := 6) hB ar_int (by decide +kernel) (by decide) (by decide) rfl rfl rfl rfl ⟨Nat.le_of_ble_eq_true rfl, Nat.le_of_ble_eq_true rfl⟩ dX12_init_39 ?_
  refine k_put (pc := 41) (fs' := [.int 0, .int 0, .int 0, .ref (ad E 122), .ref (ad E 123), .ref (ad E 124), .ref (ad E 125), .int 0, .int 0, .ref (ad E 126), .null, .null, .null, .null, .null, .int 0, .null, .null, .int 0, .int 0, .null, .int 0, .int 0, .int 0, .int 0, .null, .null, .int 0, .int 0, .int 0, .int 0, .int 0, .int 0, .null, .null, .int 0, .int 0, .int 0, .int 0, .int 0, .null, .null, .null, .int 0, .int 0, .int 0, .int 0, .int 0, .int 0, .null, .null, .null, .null, .null, .int 0, .int 0, .int 0, .int 0, .int 0, .int 0, .int 0, .int 0, .int 0, .null, .null, .null, .long 0]) hC ff_X12_23 rfl rfl (Nat.le_of_ble_eq_true rfl) (fun _ h => by cases h) rfl dX12_init_41 ?_
  refine k_aload_n (pc := 44) hB dX12_init_44 rfl 0 rfl ?_
  refine k_bipush (pc := 45) (v := 6) hB dX12_init_45 (by decide) ?_
  refine k_newa (pc := 47) (atype := .int) (t0 := 0) (N := 6) hB ar_int (by decide +kernel) (by decide) (by decide) rfl rfl rfl rfl ⟨Nat.le_of_ble_eq_true rfl, Nat.le_of_ble_eq_true rfl⟩ dX12_init_47 ?_
  refine k_put (pc := 49) (fs' := [.int 0, .int 0, .int 0, .ref (ad E 122), .ref (ad E 123), .ref (ad E 124), .ref (ad E 125), .int 0, .int 0, .ref (ad E 126), .ref (ad E 127), .null, .null, .null, .null, .int 0, .null, .null, .int 0, .int 0, .null, .int 0, .int 0, .int 0, .int 0, .null, .null, .int 0, .int 0, .int 0, .int 0, .int 0, .int 0, .null, .null, .int 0, .int 0, .int 0, .int 0, .int 0, .null, .null, .null, .int 0, .int 0, .int 0, .int 0, .int 0, .int 0, .null, .null, .null, .null, .null, .int 0, .int 0, .int 0, .int 0, .int 0, .int 0, .int 0, .int 0, .int 0, .null, .null, .null, .long 0]) hC ff_X12_26 rfl rfl (Nat.le_of_ble_eq_true rfl) (fun _ h => by cases h) rfl dX12_init_49 ?_
  refine k_aload_n (pc := 52) hB dX12_init_52 rfl 0 rfl ?_
  refine k_bipush (pc := 53) (v := 6) hB dX12_init_53 (by decide) ?_
  refine k_newa (pc := 55) (atype := .int) (t0 := 0) (N := 6) hB ar_int (by decide +kernel) (by decide) (by decide) rfl rfl rfl rfl ⟨Nat.le_of_ble_eq_true rfl, Nat.le_of_ble_eq_true rfl⟩ dX12_init_55 ?_
  refine k_put (pc := 57) (fs' := [.int 0, .int 0, .int 0, .ref (ad E 122), .ref (ad E 123), .ref (ad E 124), .ref (ad E 125), .int 0, .int 0, .ref (ad E 126), .ref (ad E 127), .ref (ad E 128), .null, .null, .null, .int 0, .null, .null, .int 0, .int 0, .null, .int 0, .int 0, .int 0, .int 0, .null, .null, .int 0, .int 0, .int 0, .int 0, .int 0, .int 0, .null, .null, .int 0, .int 0, .int 0, .int 0, .int 0, .null, .null, .null, .int 0, .int 0, .int 0, .int 0, .int 0, .int 0, .null, .null, .null, .null, .null, .int 0, .int 0, .int 0, .int 0, .int 0, .int 0, .int 0, .int 0, .int 0, .null, .null, .null, .long 0]) hC ff_X12_29 rfl rfl (Nat.le_of_ble_eq_true rfl) (fun _ h => by cases h) rfl dX12_init_57 ?_
  refine k_aload_n (pc := 60) hB dX12_init_60 rfl 0 rfl ?_
  refine k_bipush (pc := 61) (v := 6) hB dX12_init_61 (by decide) ?_
  refine k_newa (pc := 63) (atype := .int) (t0 := 0) (N := 6) hB ar_int (by decide +kernel) (by decide) (by decide) rfl rfl rfl rfl ⟨Nat.le_of_ble_eq_true rfl, Nat.le_of_ble_eq_true rfl⟩ dX12_init_63 ?_
  refine k_put (pc := 65) (fs' := [.int 0, .int 0, .int 0, .ref (ad E 122), .ref (ad E 123), .ref (ad E 124), .ref (ad E 125), .int 0, .int 0, .ref (ad E 126), .ref (ad E 127), .ref (ad E 128), .ref (ad E 129), .null, .null, .int 0, .null, .null, .int 0, .int 0, .null, .int 0, .int 0, .int 0, .int 0, .null, .null, .int 0, .int 0, .int 0, .int 0, .int 0, .int 0, .null, .null, .int 0, .int 0, .int 0, .int 0, .int 0, .null, .null, .null, .int 0, .int 0, .int 0, .int 0, .int 0, .int 0, .null, .null, .null, .null, .null, .int 0, .int 0, .int 0, .int 0, .int 0, .int 0, .int 0, .int 0, .int 0, .null, .null, .null, .long 0]) hC ff_X12_32 rfl rfl (Nat.le_of_ble_eq_true rfl) (fun _ h => by cases h) rfl dX12_init_65 ?_
  refine k_aload_n (pc := 68) hB dX12_init_68 rfl 0 rfl ?_
  refine k_bipush (pc := 69) (v := 6) hB dX12_init_69 (by decide) ?_
  refine k_newa (pc := 71) (atype := .int) (t0 := 0) (N := 6) hB ar_int (by decide +kernel) (by decide) (by decide) rfl rfl rfl rfl ⟨Nat.le_of_ble_eq_true rfl, Nat.le_of_ble_eq_true rfl⟩ dX12_init_71 ?_
  refine k_put (pc := 73) (fs' := [.int 0, .int 0, .int 0, .ref (ad E 122), .ref (ad E 123), .ref (ad E 124), .ref (ad E 125), .int 0, .int 0, .ref (ad E 126), .ref (ad E 127), .ref (ad E 128), .ref (ad E 129), .ref (ad E 130), .null, .int 0, .null, .null, .int 0, .int 0, .null, .int 0, .int 0, .int 0, .int 0, .null, .null, .int 0, .int 0, .int 0, .int 0, .int 0, .int 0, .null, .null, .int 0, .int 0, .int 0, .int 0, .int 0, .null, .null, .null, .int 0, .int 0, .int 0, .int 0, .int 0, .int 0, .null, .null, .null, .null, .null, .int 0, .int 0, .int 0, .int 0, .int 0, .int 0, .int 0, .int 0, .int 0, .null, .null, .null, .long 0]) hC ff_X12_35 rfl rfl (Nat.le_of_ble_eq_true rfl) (fun _ h => by cases h) rfl dX12_init_73 ?_
  refine k_aload_n (pc := 76) hB dX12_init_76 rfl 0 rfl ?_
  refine k_bipush (pc := 77) (v := 36) hB dX12_init_77 (by decide) ?_
  refine k_newa (pc := 79) (atype := .int) (t0 := 0) (N := 36) hB ar_int (by decide +kernel) (by decide) (by decide) rfl rfl rfl rfl ⟨Nat.le_of_ble_eq_true rfl, Nat.le_of_ble_eq_true rfl⟩ dX12_init_79 ?_
  refine k_put (pc := 81) (fs' := [.int 0, .int 0, .int 0, .ref (ad E 122), .ref (ad E 123), .ref (ad E 124), .ref (ad E 125), .int 0, .int 0, .ref (ad E 126), .ref (ad E 127), .ref (ad E 128), .ref (ad E 129), .ref (ad E 130), .ref (ad E 131), .int 0, .null, .null, .int 0, .int 0, .null, .int 0, .int 0, .int 0, .int 0, .null, .null, .int 0, .int 0, .int 0, .int 0, .int 0, .int 0, .null, .null, .int 0, .int 0, .int 0, .int 0, .int 0, .null, .null, .null, .int 0, .int 0, .int 0, .int 0, .int 0, .int 0, .null, .null, .null, .null, .null, .int 0, .int 0, .int 0, .int 0, .int 0, .int 0, .int 0, .int 0, .int 0, .null, .null, .null, .long 0]) hC ff_X12_38 rfl rfl (Nat.le_of_ble_eq_true rfl) (fun _ h => by cases h) rfl dX12_init_81 ?_
  refine k_aload_n (pc := 84) hB dX12_init_84 rfl 0 rfl ?_
  refine k_sipush (pc := 85) (v := 168) hB dX12_init_85 (by decide) ?_
  refine k_newa (pc := 88) (atype := .int) (t0 := 0) (N := 168) hB ar_int (by decide +kernel) (by decide) (by decide) rfl rfl rfl rfl ⟨Nat.le_of_ble_eq_true rfl, Nat.le_of_ble_eq_true rfl⟩ dX12_init_88 ?_
  refine k_put (pc := 90) (fs' := [.int 0, .int 0, .int 0, .ref (ad E 122), .ref (ad E 123), .ref (ad E 124), .ref (ad E 125), .int 0, .int 0, .ref (ad E 126), .ref (ad E 127), .ref (ad E 128), .ref (ad E 129), .ref (ad E 130), .ref (ad E 131), .int 0, .ref (ad E 132), .null, .int 0, .int 0, .null, .int 0, .int 0, .int 0, .int 0, .null, .null, .int 0, .int 0, .int 0, .int 0, .int 0, .int 0, .null, .null, .int 0, .int 0, .int 0, .int 0, .int 0, .null, .null, .null, .int 0, .int 0, .int 0, .int 0, .int 0, .int 0, .null, .null, .null, .null, .null, .int 0, .int 0, .int 0, .int 0, .int 0, .int 0, .int 0, .int 0, .int 0, .null, .null, .null, .long 0]) hC ff_X12_41 rfl rfl (Nat.le_of_ble_eq_true rfl) (fun _ h => by cases h) rfl dX12_init_90 ?_
  refine k_aload_n (pc := 93) hB dX12_init_93 rfl 0 rfl ?_
  refine k_sipush (pc := 94) (v := 384) hB dX12_init_94 (by decide) ?_
  refine k_newa (pc := 97) (atype := .int) (t0 := 0) (N := 384) hB ar_int (by decide +kernel) (by decide) (by decide) rfl rfl rfl rfl ⟨Nat.le_of_ble_eq_true rfl, Nat.le_of_ble_eq_true rfl⟩ dX12_init_97 ?_
  refine k_put (pc := 99) (fs' := [.int 0, .int 0, .int 0, .ref (ad E 122), .ref (ad E 123), .ref (ad E 124), .ref (ad E 125), .int 0, .int 0, .ref (ad E 126), .ref (ad E 127), .ref (ad E 128), .ref (ad E 129), .ref (ad E 130), .ref (ad E 131), .int 0, .ref (ad E 132), .ref (ad E 133), .int 0, .int 0, .null, .int 0, .int 0, .int 0, .int 0, .null, .null, .int 0, .int 0, .int 0, .int 0, .int 0, .int 0, .null, .null, .int 0, .int 0, .int 0, .int 0, .int 0, .null, .null, .null, .int 0, .int 0, .int 0, .int 0, .int 0, .int 0, .null, .null, .null, .null, .null, .int 0, .int 0, .int 0, .int 0, .int 0, .int 0, .int 0, .int 0, .int 0, .null, .null, .null, .long 0]) hC ff_X12_44 rfl rfl (Nat.le_of_ble_eq_true rfl) (fun _ h => by cases h) rfl dX12_init_99 ?_
  refine k_aload_n (pc := 102) hB dX12_init_102 rfl 0 rfl ?_
  refine k_bipush (pc := 103) (v := 40) hB dX12_init_103 (by decide) ?_
  refine k_newa (pc := 105) (atype := .byte) (t0 := 2) (N := 40) hB ar_byte (by decide +kernel) (by decide) (by decide) rfl rfl rfl rfl ⟨Nat.le_of_ble_eq_true rfl, Nat.le_of_ble_eq_true rfl⟩ dX12_init_105 ?_
  refine k_put (pc := 107) (fs' := [.int 0, .int 0, .int 0, .ref (ad E 122), .ref (ad E 123), .ref (ad E 124), .ref (ad E 125), .int 0, .int 0, .ref (ad E 126), .ref (ad E 127), .ref (ad E 128), .ref (ad E 129), .ref (ad E 130), .ref (ad E 131), .int 0, .ref (ad E 132), .ref (ad E 133), .int 0, .int 0, .ref (ad E 134), .int 0, .int 0, .int 0, .int 0, .null, .null, .int 0, .int 0, .int 0, .int 0, .int 0, .int 0, .null, .null, .int 0, .int 0, .int 0, .int 0, .int 0, .null, .null, .null, .int 0, .int 0, .int 0, .int 0, .int 0, .int 0, .null, .null, .null, .null, .null, .int 0, .int 0, .int 0, .int 0, .int 0, .int 0, .int 0, .int 0, .int 0, .null, .null, .null, .long 0]) hC ff_X12_47 rfl rfl (Nat.le_of_ble_eq_true rfl) (fun _ h => by cases h) rfl dX12_init_107 ?_
  refine k_aload_n (pc := 110) hB dX12_init_110 rfl 0 rfl ?_
  refine k_bipush (pc := 111) (v := 16) hB dX12_init_111 (by decide) ?_
  refine k_newa (pc := 113) (atype := .int) (t0 := 0) (N := 16) hB ar_int (by decide +kernel) (by decide) (by decide) rfl rfl rfl rfl ⟨Nat.le_of_ble_eq_true rfl, Nat.le_of_ble_eq_true rfl⟩ dX12_init_113 ?_
  refine k_put (pc := 115) (fs' := [.int 0, .int 0, .int 0, .ref (ad E 122), .ref (ad E 123), .ref (ad E 124), .ref (ad E 125), .int 0, .int 0, .ref (ad E 126), .ref (ad E 127), .ref (ad E 128), .ref (ad E 129), .ref (ad E 130), .ref (ad E 131), .int 0, .ref (ad E 132), .ref (ad E 133), .int 0, .int 0, .ref (ad E 134), .int 0, .int 0, .int 0, .int 0, .ref (ad E 135), .null, .int 0, .int 0, .int 0, .int 0, .int 0, .int 0, .null, .null, .int 0, .int 0, .int 0, .int 0, .int 0, .null, .null, .null, .int 0, .int 0, .int 0, .int 0, .int 0, .int 0, .null, .null, .null, .null, .null, .int 0, .int 0, .int 0, .int 0, .int 0, .int 0, .int 0, .int 0, .int 0, .null, .null, .null, .long 0]) hC ff_X12_51 rfl rfl (Nat.le_of_ble_eq_true rfl) (fun _ h => by cases h) rfl dX12_init_115 ?_
  refine k_aload_n (pc := 118) hB dX12_init_118 rfl 0 rfl ?_
  refine k_bipush (pc := 119) (v := 16) hB dX12_init_119 (by decide) ?_
  refine k_newa (pc := 121) (atype := .int) (t0 := 0) (N := 16) hB ar_int (by decide +kernel) (by decide) (by decide) rfl rfl rfl rfl ⟨Nat.le_of_ble_eq_true rfl, Nat.le_of_ble_eq_true rfl⟩ dX12_init_121 ?_
  refine k_put (pc := 123) (fs' := [.int 0, .int 0, .int 0, .ref (ad E 122), .ref (ad E 123), .ref (ad E 124), .ref (ad E 125), .int 0, .int 0, .ref (ad E 126), .ref (ad E 127), .ref (ad E 128), .ref (ad E 129), .ref (ad E 130), .ref (ad E 131), .int 0, .ref (ad E 132), .ref (ad E 133), .int 0, .int 0, .ref (ad E 134), .int 0, .int 0, .int 0, .int 0, .ref (ad E 135), .ref (ad E 136), .int 0, .int 0, .int 0, .int 0, .int 0, .int 0, .null, .null, .int 0, .int 0, .int 0, .int 0, .int 0, .null, .null, .null, .int 0, .int 0, .int 0, .int 0, .int 0, .int 0, .null, .null, .null, .null, .null, .int 0, .int 0, .int 0, .int 0, .int 0, .int 0, .int 0, .int 0, .int 0, .null, .null, .null, .long 0]) hC ff_X12_54 rfl rfl (Nat.le_of_ble_eq_true rfl) (fun _ h => by cases h) rfl dX12_init_123 ?_
  refine k_aload_n (pc := 126) hB dX12_init_126 rfl 0 rfl ?_
  refine k_bipush (pc := 127) (v := 16) hB dX12_init_127 (by decide) ?_
  refine k_newa (pc := 129) (atype := .int) (t0 := 0) (N := 16) hB ar_int (by decide +kernel) (by decide) (by decide) rfl rfl rfl rfl ⟨Nat.le_of_ble_eq_true rfl, Nat.le_of_ble_eq_true rfl⟩ dX12_init_129 ?_
  refine k_put (pc := 131) (fs' := [.int 0, .int 0, .int 0, .ref (ad E 122), .ref (ad E 123), .ref (ad E 124), .ref (ad E 125), .int 0, .int 0, .ref (ad E 126), .ref (ad E 127), .ref (ad E 128), .ref (ad E 129), .ref (ad E 130), .ref (ad E 131), .int 0, .ref (ad E 132), .ref (ad E 133), .int 0, .int 0, .ref (ad E 134), .int 0, .int 0, .int 0, .int 0, .ref (ad E 135), .ref (ad E 136), .int 0, .int 0, .int 0, .int 0, .int 0, .int 0, .ref (ad E 137), .null, .int 0, .int 0, .int 0, .int 0, .int 0, .null, .null, .null, .int 0, .int 0, .int 0, .int 0, .int 0, .int 0, .null, .null, .null, .null, .null, .int 0, .int 0, .int 0, .int 0, .int 0, .int 0, .int 0, .int 0, .int 0, .null, .null, .null, .long 0]) hC ff_X12_57 rfl rfl (Nat.le_of_ble_eq_true rfl) (fun _ h => by cases h) rfl dX12_init_131 ?_
  refine k_aload_n (pc := 134) hB dX12_init_134 rfl 0 rfl ?_
  refine k_bipush (pc := 135) (v := 16) hB dX12_init_135 (by decide) ?_
  refine k_newa (pc := 137) (atype := .boolean) (t0 := 1) (N := 16) hB ar_boolean (by decide +kernel) (by decide) (by decide) rfl rfl rfl rfl ⟨Nat.le_of_ble_eq_true rfl, Nat.le_of_ble_eq_true rfl⟩ dX12_init_137 ?_
  refine k_put (pc := 139) (fs' := [.int 0, .int 0, .int 0, .ref (ad E 122), .ref (ad E 123), .ref (ad E 124), .ref (ad E 125), .int 0, .int 0, .ref (ad E 126), .ref (ad E 127), .ref (ad E 128), .ref (ad E 129), .ref (ad E 130), .ref (ad E 131), .int 0, .ref (ad E 132), .ref (ad E 133), .int 0, .int 0, .ref (ad E 134), .int 0, .int 0, .int 0, .int 0, .ref (ad E 135), .ref (ad E 136), .int 0, .int 0, .int 0, .int 0, .int 0, .int 0, .ref (ad E 137), .ref (ad E 138), .int 0, .int 0, .int 0, .int 0, .int 0, .null, .null, .null, .int 0, .int 0, .int 0, .int 0, .int 0, .int 0, .null, .null, .null, .null, .null, .int 0, .int 0, .int 0, .int 0, .int 0, .int 0, .int 0, .int 0, .int 0, .null, .null, .null, .long 0]) hC ff_X12_60 rfl rfl (Nat.le_of_ble_eq_true rfl) (fun _ h => by cases h) rfl dX12_init_139 ?_
  refine k_aload_n (pc := 142) hB dX12_init_142 rfl 0 rfl ?_
  refine k_bipush (pc := 143) (v := 6) hB dX12_init_143 (by decide) ?_
  refine k_newa (pc := 145) (atype := .int) (t0 := 0) (N := 6) hB ar_int (by decide +kernel) (by decide) (by decide) rfl rfl rfl rfl ⟨Nat.le_of_ble_eq_true rfl, Nat.le_of_ble_eq_true rfl⟩ dX12_init_145 ?_
  refine k_put (pc := 147) (fs' := [.int 0, .int 0, .int 0, .ref (ad E 122), .ref (ad E 123), .ref (ad E 124), .ref (ad E 125), .int 0, .int 0, .ref (ad E 126), .ref (ad E 127), .ref (ad E 128), .ref (ad E 129), .ref (ad E 130), .ref (ad E 131), .int 0, .ref (ad E 132), .ref (ad E 133), .int 0, .int 0, .ref (ad E 134), .int 0, .int 0, .int 0, .int 0, .ref (ad E 135), .ref (ad E 136), .int 0, .int 0, .int 0, .int 0, .int 0, .int 0, .ref (ad E 137), .ref (ad E 138), .int 0, .int 0, .int 0, .int 0, .int 0, .ref (ad E 139), .null, .null, .int 0, .int 0, .int 0, .int 0, .int 0, .int 0, .null, .null, .null, .null, .null, .int 0, .int 0, .int 0, .int 0, .int 0, .int 0, .int 0, .int 0, .int 0, .null, .null, .null, .long 0]) hC ff_X12_63 rfl rfl (Nat.le_of_ble_eq_true rfl) (fun _ h => by cases h) rfl dX12_init_147 ?_
  refine k_aload_n (pc := 150) hB dX12_init_150 rfl 0 rfl ?_
  refine k_bipush (pc := 151) (v := 16) hB dX12_init_151 (by decide) ?_
  refine k_newa (pc := 153) (atype := .int) (t0 := 0) (N := 16) hB ar_int (by decide +kernel) (by decide) (by decide) rfl rfl rfl rfl ⟨Nat.le_of_ble_eq_true rfl, Nat.le_of_ble_eq_true rfl⟩ dX12_init_153 ?_
  refine k_put (pc := 155) (fs' := [.int 0, .int 0, .int 0, .ref (ad E 122), .ref (ad E 123), .ref (ad E 124), .ref (ad E 125), .int 0, .int 0, .ref (ad E 126), .ref (ad E 127), .ref (ad E 128), .ref (ad E 129), .ref (ad E 130), .ref (ad E 131), .int 0, .ref (ad E 132), .ref (ad E 133), .int 0, .int 0, .ref (ad E 134), .int 0, .int 0, .int 0, .int 0, .ref (ad E 135), .ref (ad E 136), .int 0, .int 0, .int 0, .int 0, .int 0, .int 0, .ref (ad E 137), .ref (ad E 138), .int 0, .int 0, .int 0, .int 0, .int 0, .ref (ad E 139), .ref (ad E 140), .null, .int 0, .int 0, .int 0, .int 0, .int 0, .int 0, .null, .null, .null, .null, .null, .int 0, .int 0, .int 0, .int 0, .int 0, .int 0, .int 0, .int 0, .int 0, .null, .null, .null, .long 0]) hC ff_X12_66 rfl rfl (Nat.le_of_ble_eq_true rfl) (fun _ h => by cases h) rfl dX12_init_155 ?_
  refine k_aload_n (pc := 158) hB dX12_init_158 rfl 0 rfl ?_
  refine k_bipush (pc := 159) (v := 16) hB dX12_init_159 (by decide) ?_
  refine k_newa (pc := 161) (atype := .int) (t0 := 0) (N := 16) hB ar_int (by decide +kernel) (by decide) (by decide) rfl rfl rfl rfl ⟨Nat.le_of_ble_eq_true rfl, Nat.le_of_ble_eq_true rfl⟩ dX12_init_161 ?_
  refine k_put (pc := 163) (fs' := [.int 0, .int 0, .int 0, .ref (ad E 122), .ref (ad E 123), .ref (ad E 124), .ref (ad E 125), .int 0, .int 0, .ref (ad E 126), .ref (ad E 127), .ref (ad E 128), .ref (ad E 129), .ref (ad E 130), .ref (ad E 131), .int 0, .ref (ad E 132), .ref (ad E 133), .int 0, .int 0, .ref (ad E 134), .int 0, .int 0, .int 0, .int 0, .ref (ad E 135), .ref (ad E 136), .int 0, .int 0, .int 0, .int 0, .int 0, .int 0, .ref (ad E 137), .ref (ad E 138), .int 0, .int 0, .int 0, .int 0, .int 0, .ref (ad E 139), .ref (ad E 140), .ref (ad E 141), .int 0, .int 0, .int 0, .int 0, .int 0, .int 0, .null, .null, .null, .null, .null, .int 0, .int 0, .int 0, .int 0, .int 0, .int 0, .int 0, .int 0, .int 0, .null, .null, .null, .long 0]) hC ff_X12_69 rfl rfl (Nat.le_of_ble_eq_true rfl) (fun _ h => by cases h) rfl dX12_init_163 ?_
  refine k_aload_n (pc := 166) hB dX12_init_166 rfl 0 rfl ?_
  refine k_bipush (pc := 167) (v := 6) hB dX12_init_167 (by decide) ?_
  refine k_newa (pc := 169) (atype := .int) (t0 := 0) (N := 6) hB ar_int (by decide +kernel) (by decide) (by decide) rfl rfl rfl rfl ⟨Nat.le_of_ble_eq_true rfl, Nat.le_of_ble_eq_true rfl⟩ dX12_init_169 ?_
  refine k_put (pc := 171) (fs' := [.int 0, .int 0, .int 0, .ref (ad E 122), .ref (ad E 123), .ref (ad E 124), .ref (ad E 125), .int 0, .int 0, .ref (ad E 126), .ref (ad E 127), .ref (ad E 128), .ref (ad E 129), .ref (ad E 130), .ref (ad E 131), .int 0, .ref (ad E 132), .ref (ad E 133), .int 0, .int 0, .ref (ad E 134), .int 0, .int 0, .int 0, .int 0, .ref (ad E 135), .ref (ad E 136), .int 0, .int 0, .int 0, .int 0, .int 0, .int 0, .ref (ad E 137), .ref (ad E 138), .int 0, .int 0, .int 0, .int 0, .int 0, .ref (ad E 139), .ref (ad E 140), .ref (ad E 141), .int 0, .int 0, .int 0, .int 0, .int 0, .int 0, .ref (ad E 142), .null, .null, .null, .null, .int 0, .int 0, .int 0, .int 0, .int 0, .int 0, .int 0, .int 0, .int 0, .null, .null, .null, .long 0]) hC ff_X12_72 rfl rfl (Nat.le_of_ble_eq_true rfl) (fun _ h => by cases h) rfl dX12_init_171 ?_
  refine k_aload_n (pc := 174) hB dX12_init_174 rfl 0 rfl ?_
  refine k_bipush (pc := 175) (v := 16) hB dX12_init_175 (by decide) ?_
  refine k_newa (pc := 177) (atype := .int) (t0 := 0) (N := 16) hB ar_int (by decide +kernel) (by decide) (by decide) rfl rfl rfl rfl ⟨Nat.le_of_ble_eq_true rfl, Nat.le_of_ble_eq_true rfl⟩ dX12_init_177 ?_
  refine k_put (pc := 179) (fs' := [.int 0, .int 0, .int 0, .ref (ad E 122), .ref (ad E 123), .ref (ad E 124), .ref (ad E 125), .int 0, .int 0, .ref (ad E 126), .ref (ad E 127), .ref (ad E 128), .ref (ad E 129), .ref (ad E 130), .ref (ad E 131), .int 0, .ref (ad E 132), .ref (ad E 133), .int 0, .int 0, .ref (ad E 134), .int 0, .int 0, .int 0, .int 0, .ref (ad E 135), .ref (ad E 136), .int 0, .int 0, .int 0, .int 0, .int 0, .int 0, .ref (ad E 137), .ref (ad E 138), .int 0, .int 0, .int 0, .int 0, .int 0, .ref (ad E 139), .ref (ad E 140), .ref (ad E 141), .int 0, .int 0, .int 0, .int 0, .int 0, .int 0, .ref (ad E 142), .ref (ad E 143), .null, .null, .null, .int 0, .int 0, .int 0, .int 0, .int 0, .int 0, .int 0, .int 0, .int 0, .null, .null, .null, .long 0]) hC ff_X12_75 rfl rfl (Nat.le_of_ble_eq_true rfl) (fun _ h => by cases h) rfl dX12_init_179 ?_
  refine k_aload_n (pc := 182) hB dX12_init_182 rfl 0 rfl ?_
  refine k_bipush (pc := 183) (v := 16) hB dX12_init_183 (by decide) ?_
  refine k_newa (pc := 185) (atype := .int) (t0 := 0) (N := 16) hB ar_int (by decide +kernel) (by decide) (by decide) rfl rfl rfl rfl ⟨Nat.le_of_ble_eq_true rfl, Nat.le_of_ble_eq_true rfl⟩ dX12_init_185 ?_
  refine k_put (pc := 187) (fs' := [.int 0, .int 0, .int 0, .ref (ad E 122), .ref (ad E 123), .ref (ad E 124), .ref (ad E 125), .int 0, .int 0, .ref (ad E 126), .ref (ad E 127), .ref (ad E 128), .ref (ad E 129), .ref (ad E 130), .ref (ad E 131), .int 0, .ref (ad E 132), .ref (ad E 133), .int 0, .int 0, .ref (ad E 134), .int 0, .int 0, .int 0, .int 0, .ref (ad E 135), .ref (ad E 136), .int 0, .int 0, .int 0, .int 0, .int 0, .int 0, .ref (ad E 137), .ref (ad E 138), .int 0, .int 0, .int 0, .int 0, .int 0, .ref (ad E 139), .ref (ad E 140), .ref (ad E 141), .int 0, .int 0, .int 0, .int 0, .int 0, .int 0, .ref (ad E 142), .ref (ad E 143), .ref (ad E 144), .null, .null, .int 0, .int 0, .int 0, .int 0, .int 0, .int 0, .int 0, .int 0, .int 0, .null, .null, .null, .long 0]) hC ff_X12_78 rfl rfl (Nat.le_of_ble_eq_true rfl) (fun _ h => by cases h) rfl dX12_init_187 ?_
  refine k_aload_n (pc := 190) hB dX12_init_190 rfl 0 rfl ?_
  refine k_bipush (pc := 191) (v := 16) hB dX12_init_191 (by decide) ?_
  refine k_newa (pc := 193) (atype := .boolean) (t0 := 1) (N := 16) hB ar_boolean (by decide +kernel) (by decide) (by decide) rfl rfl rfl rfl ⟨Nat.le_of_ble_eq_true rfl, Nat.le_of_ble_eq_true rfl⟩ dX12_init_193 ?_
  refine k_put (pc := 195) (fs' := [.int 0, .int 0, .int 0, .ref (ad E 122), .ref (ad E 123), .ref (ad E 124), .ref (ad E 125), .int 0, .int 0, .ref (ad E 126), .ref (ad E 127), .ref (ad E 128), .ref (ad E 129), .ref (ad E 130), .ref (ad E 131), .int 0, .ref (ad E 132), .ref (ad E 133), .int 0, .int 0, .ref (ad E 134), .int 0, .int 0, .int 0, .int 0, .ref (ad E 135), .ref (ad E 136), .int 0, .int 0, .int 0, .int 0, .int 0, .int 0, .ref (ad E 137), .ref (ad E 138), .int 0, .int 0, .int 0, .int 0, .int 0, .ref (ad E 139), .ref (ad E 140), .ref (ad E 141), .int 0, .int 0, .int 0, .int 0, .int 0, .int 0, .ref (ad E 142), .ref (ad E 143), .ref (ad E 144), .ref (ad E 145), .null, .int 0, .int 0, .int 0, .int 0, .int 0, .int 0, .int 0, .int 0, .int 0, .null, .null, .null, .long 0]) hC ff_X12_81 rfl rfl (Nat.le_of_ble_eq_true rfl) (fun _ h => by cases h) rfl dX12_init_195 ?_
  refine k_aload_n (pc := 198) hB dX12_init_198 rfl 0 rfl ?_
  refine k_bipush (pc := 199) (v := 32) hB dX12_init_199 (by decide) ?_
  refine k_newa (pc := 201) (atype := .int) (t0 := 0) (N := 32) hB ar_int (by decide +kernel) (by decide) (by decide) rfl rfl rfl rfl ⟨Nat.le_of_ble_eq_true rfl, Nat.le_of_ble_eq_true rfl⟩ dX12_init_201 ?_
  refine k_put (pc := 203) (fs' := [.int 0, .int 0, .int 0, .ref (ad E 122), .ref (ad E 123), .ref (ad E 124), .ref (ad E 125), .int 0, .int 0, .ref (ad E 126), .ref (ad E 127), .ref (ad E 128), .ref (ad E 129), .ref (ad E 130), .ref (ad E 131), .int 0, .ref (ad E 132), .ref (ad E 133), .int 0, .int 0, .ref (ad E 134), .int 0, .int 0, .int 0, .int 0, .ref (ad E 135), .ref (ad E 136), .int 0, .int 0, .int 0, .int 0, .int 0, .int 0, .ref (ad E 137), .ref (ad E 138), .int 0, .int 0, .int 0, .int 0, .int 0, .ref (ad E 139), .ref (ad E 140), .ref (ad E 141), .int 0, .int 0, .int 0, .int 0, .int 0, .int 0, .ref (ad E 142), .ref (ad E 143), .ref (ad E 144), .ref (ad E 145), .ref (ad E 146), .int 0, .int 0, .int 0, .int 0, .int 0, .int 0, .int 0, .int 0, .int 0, .null, .null, .null, .long 0]) hC ff_X12_84 rfl rfl (Nat.le_of_ble_eq_true rfl) (fun _ h => by cases h) rfl dX12_init_203 ?_
  refine k_aload_n (pc := 206) hB dX12_init_206 rfl 0 rfl ?_
  refine k_bipush (pc := 207) (v := 16) hB dX12_init_207 (by decide) ?_
  refine k_newa (pc := 209) (atype := .int) (t0 := 0) (N := 16) hB ar_int (by decide +kernel) (by decide) (by decide) rfl rfl rfl rfl ⟨Nat.le_of_ble_eq_true rfl, Nat.le_of_ble_eq_true rfl⟩ dX12_init_209 ?_
  refine k_put (pc := 211) (fs' := [.int 0, .int 0, .int 0, .ref (ad E 122), .ref (ad E 123), .ref (ad E 124), .ref (ad E 125), .int 0, .int 0, .ref (ad E 126), .ref (ad E 127), .ref (ad E 128), .ref (ad E 129), .ref (ad E 130), .ref (ad E 131), .int 0, .ref (ad E 132), .ref (ad E 133), .int 0, .int 0, .ref (ad E 134), .int 0, .int 0, .int 0, .int 0, .ref (ad E 135), .ref (ad E 136), .int 0, .int 0, .int 0, .int 0, .int 0, .int 0, .ref (ad E 137), .ref (ad E 138), .int 0, .int 0, .int 0, .int 0, .int 0, .ref (ad E 139), .ref (ad E 140), .ref (ad E 141), .int 0, .int 0, .int 0, .int 0, .int 0, .int 0, .ref (ad E 142), .ref (ad E 143), .ref (ad E 144), .ref (ad E 145), .ref (ad E 146), .int 0, .int 0, .int 0, .int 0, .int 0, .int 0, .int 0, .int 0, .int 0, .ref (ad E 147), .null, .null, .long 0]) hC ff_X12_87 rfl rfl (Nat.le_of_ble_eq_true rfl) (fun _ h => by cases h) rfl dX12_init_211 ?_
  refine k_aload_n (pc := 214) hB dX12_init_214 rfl 0 rfl ?_
  refine k_bipush (pc := 215) (v := 9) hB dX12_init_215 (by decide) ?_
  refine k_newa (pc := 217) (atype := .int) (t0 := 0) (N := 9) hB ar_int (by decide +kernel) (by decide) (by decide) rfl rfl rfl rfl ⟨Nat.le_of_ble_eq_true rfl, Nat.le_of_ble_eq_true rfl⟩ dX12_init_217 ?_
  refine k_put (pc := 219) (fs' := [.int 0, .int 0, .int 0, .ref (ad E 122), .ref (ad E 123), .ref (ad E 124), .ref (ad E 125), .int 0, .int 0, .ref (ad E 126), .ref (ad E 127), .ref (ad E 128), .ref (ad E 129), .ref (ad E 130), .ref (ad E 131), .int 0, .ref (ad E 132), .ref (ad E 133), .int 0, .int 0, .ref (ad E 134), .int 0, .int 0, .int 0, .int 0, .ref (ad E 135), .ref (ad E 136), .int 0, .int 0, .int 0, .int 0, .int 0, .int 0, .ref (ad E 137), .ref (ad E 138), .int 0, .int 0, .int 0, .int 0, .int 0, .ref (ad E 139), .ref (ad E 140), .ref (ad E 141), .int 0, .int 0, .int 0, .int 0, .int 0, .int 0, .ref (ad E 142), .ref (ad E 143), .ref (ad E 144), .ref (ad E 145), .ref (ad E 146), .int 0, .int 0, .int 0, .int 0, .int 0, .int 0, .int 0, .int 0, .int 0, .ref (ad E 147), .ref (ad E 148), .null, .long 0]) hC ff_X12_90 rfl rfl (Nat.le_of_ble_eq_true rfl) (fun _ h => by cases h) rfl dX12_init_219 ?_
  refine k_aload_n (pc := 222) hB dX12_init_222 rfl 0 rfl ?_
  refine k_bipush (pc := 223) (v := 9) hB dX12_init_223 (by decide) ?_
  refine k_newa (pc := 225) (atype := .int) (t0 := 0) (N := 9) hB ar_int (by decide +kernel) (by decide) (by decide) rfl rfl rfl rfl ⟨Nat.le_of_ble_eq_true rfl, Nat.le_of_ble_eq_true rfl⟩ dX12_init_225 ?_
  refine k_put (pc := 227) (fs' := [.int 0, .int 0, .int 0, .ref (ad E 122), .ref (ad E 123), .ref (ad E 124), .ref (ad E 125), .int 0, .int 0, .ref (ad E 126), .ref (ad E 127), .ref (ad E 128), .ref (ad E 129), .ref (ad E 130), .ref (ad E 131), .int 0, .ref (ad E 132), .ref (ad E 133), .int 0, .int 0, .ref (ad E 134), .int 0, .int 0, .int 0, .int 0, .ref (ad E 135), .ref (ad E 136), .int 0, .int 0, .int 0, .int 0, .int 0, .int 0, .ref (ad E 137), .ref (ad E 138), .int 0, .int 0, .int 0, .int 0, .int 0, .ref (ad E 139), .ref (ad E 140), .ref (ad E 141), .int 0, .int 0, .int 0, .int 0, .int 0, .int 0, .ref (ad E 142), .ref (ad E 143), .ref (ad E 144), .ref (ad E 145), .ref (ad E 146), .int 0, .int 0, .int 0, .int 0, .int 0, .int 0, .int 0, .int 0, .int 0, .ref (ad E 147), .ref (ad E 148), .ref (ad E 149), .long 0]) hC ff_X12_93 rfl rfl (Nat.le_of_ble_eq_true rfl) (fun _ h => by cases h) rfl dX12_init_227 ?_
  exact k_ret (pc := 230) hC dX12_init_230 (fun x h => by cases h) (fun x hx => by rcases List.mem_cons.mp hx with rfl | q; exact Or.inr fin_X12; cases q)
