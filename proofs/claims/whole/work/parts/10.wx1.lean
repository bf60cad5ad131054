def rm_X11_within : Room := { frames := 0, cells := 0, slots := 0, locals := 0 }
def wp_X11_within (x0 : Int32) (x1 : Int32) (x2 : Int32) (F : gS) (Q : Int32 → Prop) : Prop :=
  if x0 < x1 then
    (Q 0)
  else
    (if x2 < x0 then
      (Q 0)
    else
      (Q 1))
set_option maxRecDepth 20000 in
set_option maxHeartbeats 4000000 in
theorem c_X11_within (l : Launch) (E : gE) {x0 : Int32} {x1 : Int32} {x2 : Int32} {F : gS} {Q : Int32 → Prop} (h : wp_X11_within x0 x1 x2 F Q) : CtI l E yX11_within cX11_within 3 (some .boolean) rm_X11_within [.int x0, .int x1, .int x2] F (fun r G => (r = 0 ∨ r = 1) ∧ G = F ∧ Q r) := by
  refine ct_of (by decide) (Nat.le_of_ble_eq_true rfl) (fun p e s m below meth c hC => ?_)
  generalize ([.int x0, .int x1, .int x2] : List Value).toArray = args at hC ⊢
  refine v_sub (lv' := [(0, .int x0), (1, .int x1), (2, .int x2)]) [0, 1, 2] rfl ?_
  unfold wp_X11_within at h
  refine v_iload_n (pc := 0) hC dX11_within_0 rfl 0 rfl ?_
  refine v_iload_n (pc := 1) hC dX11_within_1 rfl 1 rfl ?_
  refine v_ic_lt (pc := 2) (tgt := 14) hC dX11_within_2 (by decide) h (fun h => ?_) (fun h => ?_)
  · skip
    refine v_iconst (pc := 14) (v := 0) hC dX11_within_14 (by decide) ?_
    exact v_zret (pc := 15) hC dX11_within_15 (Or.inl rfl) ⟨Or.inl rfl, rfl, h⟩
  · skip
    refine v_iload_n (pc := 5) hC dX11_within_5 rfl 0 rfl ?_
    refine v_iload_n (pc := 6) hC dX11_within_6 rfl 2 rfl ?_
    refine v_ic_gt (pc := 7) (tgt := 14) hC dX11_within_7 (by decide) h (fun h => ?_) (fun h => ?_)
    · skip
      refine v_iconst (pc := 14) (v := 0) hC dX11_within_14 (by decide) ?_
      exact v_zret (pc := 15) hC dX11_within_15 (Or.inl rfl) ⟨Or.inl rfl, rfl, h⟩
    · skip
      refine v_iconst (pc := 10) (v := 1) hC dX11_within_10 (by decide) ?_
      refine v_goto (pc := 11) (tgt := 15) hC dX11_within_11 (by decide) ?_
      exact v_zret (pc := 15) hC dX11_within_15 (Or.inr rfl) ⟨Or.inr rfl, rfl, h⟩
def rm_J7_fill_53178_5 : Room := { frames := 0, cells := 0, slots := 0, locals := 0 }
def wb_J7_fill_53178_5_5 (k0 : Nat) (Q : gS → Prop) (x1 : Int32) (x3 : Int32) (K5 : gS → Int32 → Prop) (F : gS) (x2 : Int32) : Prop :=
  if x3 ≤ x2 then
    (Q F)
  else
    (vp_in x2 5 ∧ Nm (upF F k0 x2.toNatClampNeg x1) fun F1 =>
    Nm (x2 + 1) fun n2 =>
    K5 F1 n2)
def wp_J7_fill_53178_5 (k0 : Nat) (x1 : Int32) (F : gS) (Q : gS → Prop) : Prop :=
  LP2 (wb_J7_fill_53178_5_5 k0 Q x1 5) F 0
set_option maxRecDepth 20000 in
set_option maxHeartbeats 4000000 in
theorem jb_J7_fill_53178_5_5 {p : Program} {l : Launch} {e : Env} {s : State} {m : MethodId} {args : Array Value} {below : List Frame} {meth : Method} {c : Code} {E : gE} (hC : CX p s m args meth c cJ7_fill_53178 RJ7 none E 4) {k0 : Nat} (hk0 : kd k0 = 1005) {Q : gS → Prop} {F : gS} {x1 : Int32} {x2 : Int32} {x3 : Int32} {K5 : gS → Int32 → Prop} (hK5 : ∀ (F : gS) (x2 : Int32), K5 F x2 → VV p l e rm_J7_fill_53178_5 s m args below meth c 0 0 (MQ below (va_Qv Q (gB E) (gA E)) args s 0 0 (gA E)) E 4 F 5 [(0, .ref (ad E k0)), (1, .int x1), (2, .int x2), (3, .int x3)] []) (h : wb_J7_fill_53178_5_5 k0 Q x1 x3 K5 F x2) : VV p l e rm_J7_fill_53178_5 s m args below meth c 0 0 (MQ below (va_Qv Q (gB E) (gA E)) args s 0 0 (gA E)) E 4 F 5 [(0, .ref (ad E k0)), (1, .int x1), (2, .int x2), (3, .int x3)] [] := by
  unfold wb_J7_fill_53178_5_5 at h
  refine v_iload_n (pc := 5) hC dJ7_fill_53178_5 rfl 2 rfl ?_
  refine v_iload_n (pc := 6) hC dJ7_fill_53178_6 rfl 3 rfl ?_
  refine v_ic_ge (pc := 7) (tgt := 20) hC dJ7_fill_53178_7 (by decide) h (fun h => ?_) (fun h => ?_)
  · skip
    exact v_vret (pc := 20) hC dJ7_fill_53178_20 h
  · skip
    refine v_aload_n (pc := 10) hC dJ7_fill_53178_10 rfl 0 rfl ?_
    refine v_iload_n (pc := 11) hC dJ7_fill_53178_11 rfl 2 rfl ?_
    refine v_iload_n (pc := 12) hC dJ7_fill_53178_12 rfl 1 rfl ?_
    refine v_iast (pc := 13) (n := 5) hC hk0 (by decide) dJ7_fill_53178_13 h (fun F1 h => ?_)
    refine v_iinc (pc := 14) (v := 1) hC (fun z => [(2, .int z), (0, .ref (ad E k0)), (1, .int x1), (3, .int x3)]) dJ7_fill_53178_14 2 rfl (by decide) (by decide) (fun _ => rfl) h (fun n2 h => ?_)
    refine v_goto (pc := 17) (tgt := 5) hC dJ7_fill_53178_17 (by decide) ?_
    exact v_sub [1, 2, 0, 3] rfl (hK5 _ _ h)
set_option maxRecDepth 20000 in
set_option maxHeartbeats 4000000 in
theorem jl_J7_fill_53178_5_5 {p : Program} {l : Launch} {e : Env} {s : State} {m : MethodId} {args : Array Value} {below : List Frame} {meth : Method} {c : Code} {E : gE} (hC : CX p s m args meth c cJ7_fill_53178 RJ7 none E 4) {k0 : Nat} (hk0 : kd k0 = 1005) {Q : gS → Prop} {F : gS} {x1 : Int32} {x2 : Int32} {x3 : Int32} (h : LP2 (wb_J7_fill_53178_5_5 k0 Q x1 x3) F x2) : VV p l e rm_J7_fill_53178_5 s m args below meth c 0 0 (MQ below (va_Qv Q (gB E) (gA E)) args s 0 0 (gA E)) E 4 F 5 [(0, .ref (ad E k0)), (1, .int x1), (2, .int x2), (3, .int x3)] [] :=
  LP2_go (V := fun (F : gS) (x2 : Int32) => VV p l e rm_J7_fill_53178_5 s m args below meth c 0 0 (MQ below (va_Qv Q (gB E) (gA E)) args s 0 0 (gA E)) E 4 F 5 [(0, .ref (ad E k0)), (1, .int x1), (2, .int x2), (3, .int x3)] []) (fun K5 hK5 F x2 h => jb_J7_fill_53178_5_5 hC hk0 hK5 h) F x2 h
set_option maxRecDepth 20000 in
set_option maxHeartbeats 4000000 in
theorem c_J7_fill_53178_5 (l : Launch) (E : gE) {k0 : Nat} (hk0 : kd k0 = 1005) {x1 : Int32} {F : gS} {Q : gS → Prop} (h : wp_J7_fill_53178_5 k0 x1 F Q) : CtV l E yJ7_fill_53178 cJ7_fill_53178 4 none rm_J7_fill_53178_5 [.ref (ad E k0), .int x1] F Q := by
  refine ct_of (by decide) (Nat.le_of_ble_eq_true rfl) (fun p e s m below meth c hC => ?_)
  generalize ([.ref (ad E k0), .int x1] : List Value).toArray = args at hC ⊢
  refine v_sub (lv' := [(0, .ref (ad E k0)), (1, .int x1)]) [0, 1] rfl ?_
  unfold wp_J7_fill_53178_5 at h
  refine v_iconst (pc := 0) (v := 0) hC dJ7_fill_53178_0 (by decide) ?_
  refine v_istore_n (pc := 1) (lv' := [(2, .int 0), (0, .ref (ad E k0)), (1, .int x1)]) hC dJ7_fill_53178_1 rfl (by decide) rfl ?_
  refine v_aload_n (pc := 2) hC dJ7_fill_53178_2 rfl 1 rfl ?_
  refine v_alen (pc := 3) (n := 5) (v := 5) hC hk0 (by decide) rfl dJ7_fill_53178_3 ?_
  refine v_istore_n (pc := 4) (lv' := [(3, .int 5), (2, .int 0), (0, .ref (ad E k0)), (1, .int x1)]) hC dJ7_fill_53178_4 rfl (by decide) rfl ?_
  exact v_sub [2, 3, 1, 0] rfl (jl_J7_fill_53178_5_5 hC hk0 h)
def rm_J7_fill_53178_9 : Room := { frames := 0, cells := 0, slots := 0, locals := 0 }
def wb_J7_fill_53178_9_5 (k0 : Nat) (Q : gS → Prop) (x1 : Int32) (x3 : Int32) (K5 : gS → Int32 → Prop) (F : gS) (x2 : Int32) : Prop :=
  if x3 ≤ x2 then
    (Q F)
  else
    (vp_in x2 9 ∧ Nm (upF F k0 x2.toNatClampNeg x1) fun F1 =>
    Nm (x2 + 1) fun n2 =>
    K5 F1 n2)
def wp_J7_fill_53178_9 (k0 : Nat) (x1 : Int32) (F : gS) (Q : gS → Prop) : Prop :=
  LP2 (wb_J7_fill_53178_9_5 k0 Q x1 9) F 0
set_option maxRecDepth 20000 in
set_option maxHeartbeats 4000000 in
theorem jb_J7_fill_53178_9_5 {p : Program} {l : Launch} {e : Env} {s : State} {m : MethodId} {args : Array Value} {below : List Frame} {meth : Method} {c : Code} {E : gE} (hC : CX p s m args meth c cJ7_fill_53178 RJ7 none E 4) {k0 : Nat} (hk0 : kd k0 = 1009) {Q : gS → Prop} {F : gS} {x1 : Int32} {x2 : Int32} {x3 : Int32} {K5 : gS → Int32 → Prop} (hK5 : ∀ (F : gS) (x2 : Int32), K5 F x2 → VV p l e rm_J7_fill_53178_9 s m args below meth c 0 0 (MQ below (va_Qv Q (gB E) (gA E)) args s 0 0 (gA E)) E 4 F 5 [(0, .ref (ad E k0)), (1, .int x1), (2, .int x2), (3, .int x3)] []) (h : wb_J7_fill_53178_9_5 k0 Q x1 x3 K5 F x2) : VV p l e rm_J7_fill_53178_9 s m args below meth c 0 0 (MQ below (va_Qv Q (gB E) (gA E)) args s 0 0 (gA E)) E 4 F 5 [(0, .ref (ad E k0)), (1, .int x1), (2, .int x2), (3, .int x3)] [] := by
  unfold wb_J7_fill_53178_9_5 at h
  refine v_iload_n (pc := 5) hC dJ7_fill_53178_5 rfl 2 rfl ?_
  refine v_iload_n (pc := 6) hC dJ7_fill_53178_6 rfl 3 rfl ?_
  refine v_ic_ge (pc := 7) (tgt := 20) hC dJ7_fill_53178_7 (by decide) h (fun h => ?_) (fun h => ?_)
  · skip
    exact v_vret (pc := 20) hC dJ7_fill_53178_20 h
  · skip
    refine v_aload_n (pc := 10) hC dJ7_fill_53178_10 rfl 0 rfl ?_
    refine v_iload_n (pc := 11) hC dJ7_fill_53178_11 rfl 2 rfl ?_
    refine v_iload_n (pc := 12) hC dJ7_fill_53178_12 rfl 1 rfl ?_
    refine v_iast (pc := 13) (n := 9) hC hk0 (by decide) dJ7_fill_53178_13 h (fun F1 h => ?_)
    refine v_iinc (pc := 14) (v := 1) hC (fun z => [(2, .int z), (0, .ref (ad E k0)), (1, .int x1), (3, .int x3)]) dJ7_fill_53178_14 2 rfl (by decide) (by decide) (fun _ => rfl) h (fun n2 h => ?_)
    refine v_goto (pc := 17) (tgt := 5) hC dJ7_fill_53178_17 (by decide) ?_
    exact v_sub [1, 2, 0, 3] rfl (hK5 _ _ h)
set_option maxRecDepth 20000 in
set_option maxHeartbeats 4000000 in
theorem jl_J7_fill_53178_9_5 {p : Program} {l : Launch} {e : Env} {s : State} {m : MethodId} {args : Array Value} {below : List Frame} {meth : Method} {c : Code} {E : gE} (hC : CX p s m args meth c cJ7_fill_53178 RJ7 none E 4) {k0 : Nat} (hk0 : kd k0 = 1009) {Q : gS → Prop} {F : gS} {x1 : Int32} {x2 : Int32} {x3 : Int32} (h : LP2 (wb_J7_fill_53178_9_5 k0 Q x1 x3) F x2) : VV p l e rm_J7_fill_53178_9 s m args below meth c 0 0 (MQ below (va_Qv Q (gB E) (gA E)) args s 0 0 (gA E)) E 4 F 5 [(0, .ref (ad E k0)), (1, .int x1), (2, .int x2), (3, .int x3)] [] :=
  LP2_go (V := fun (F : gS) (x2 : Int32) => VV p l e rm_J7_fill_53178_9 s m args below meth c 0 0 (MQ below (va_Qv Q (gB E) (gA E)) args s 0 0 (gA E)) E 4 F 5 [(0, .ref (ad E k0)), (1, .int x1), (2, .int x2), (3, .int x3)] []) (fun K5 hK5 F x2 h => jb_J7_fill_53178_9_5 hC hk0 hK5 h) F x2 h
set_option maxRecDepth 20000 in
set_option maxHeartbeats 4000000 in
theorem c_J7_fill_53178_9 (l : Launch) (E : gE) {k0 : Nat} (hk0 : kd k0 = 1009) {x1 : Int32} {F : gS} {Q : gS → Prop} (h : wp_J7_fill_53178_9 k0 x1 F Q) : CtV l E yJ7_fill_53178 cJ7_fill_53178 4 none rm_J7_fill_53178_9 [.ref (ad E k0), .int x1] F Q := by
  refine ct_of (by decide) (Nat.le_of_ble_eq_true rfl) (fun p e s m below meth c hC => ?_)
  generalize ([.ref (ad E k0), .int x1] : List Value).toArray = args at hC ⊢
  refine v_sub (lv' := [(0, .ref (ad E k0)), (1, .int x1)]) [0, 1] rfl ?_
  unfold wp_J7_fill_53178_9 at h
  refine v_iconst (pc := 0) (v := 0) hC dJ7_fill_53178_0 (by decide) ?_
  refine v_istore_n (pc := 1) (lv' := [(2, .int 0), (0, .ref (ad E k0)), (1, .int x1)]) hC dJ7_fill_53178_1 rfl (by decide) rfl ?_
  refine v_aload_n (pc := 2) hC dJ7_fill_53178_2 rfl 1 rfl ?_
  refine v_alen (pc := 3) (n := 9) (v := 9) hC hk0 (by decide) rfl dJ7_fill_53178_3 ?_
  refine v_istore_n (pc := 4) (lv' := [(3, .int 9), (2, .int 0), (0, .ref (ad E k0)), (1, .int x1)]) hC dJ7_fill_53178_4 rfl (by decide) rfl ?_
  exact v_sub [2, 3, 1, 0] rfl (jl_J7_fill_53178_9_5 hC hk0 h)
def rm_J7_fill_53178_16 : Room := { frames := 0, cells := 0, slots := 0, locals := 0 }
def wb_J7_fill_53178_16_5 (k0 : Nat) (Q : gS → Prop) (x1 : Int32) (x3 : Int32) (K5 : gS → Int32 → Prop) (F : gS) (x2 : Int32) : Prop :=
  if x3 ≤ x2 then
    (Q F)
  else
    (vp_in x2 16 ∧ Nm (upF F k0 x2.toNatClampNeg x1) fun F1 =>
    Nm (x2 + 1) fun n2 =>
    K5 F1 n2)
def wp_J7_fill_53178_16 (k0 : Nat) (x1 : Int32) (F : gS) (Q : gS → Prop) : Prop :=
  LP2 (wb_J7_fill_53178_16_5 k0 Q x1 16) F 0
set_option maxRecDepth 20000 in
set_option maxHeartbeats 4000000 in
theorem jb_J7_fill_53178_16_5 {p : Program} {l : Launch} {e : Env} {s : State} {m : MethodId} {args : Array Value} {below : List Frame} {meth : Method} {c : Code} {E : gE} (hC : CX p s m args meth c cJ7_fill_53178 RJ7 none E 4) {k0 : Nat} (hk0 : kd k0 = 1016) {Q : gS → Prop} {F : gS} {x1 : Int32} {x2 : Int32} {x3 : Int32} {K5 : gS → Int32 → Prop} (hK5 : ∀ (F : gS) (x2 : Int32), K5 F x2 → VV p l e rm_J7_fill_53178_16 s m args below meth c 0 0 (MQ below (va_Qv Q (gB E) (gA E)) args s 0 0 (gA E)) E 4 F 5 [(0, .ref (ad E k0)), (1, .int x1), (2, .int x2), (3, .int x3)] []) (h : wb_J7_fill_53178_16_5 k0 Q x1 x3 K5 F x2) : VV p l e rm_J7_fill_53178_16 s m args below meth c 0 0 (MQ below (va_Qv Q (gB E) (gA E)) args s 0 0 (gA E)) E 4 F 5 [(0, .ref (ad E k0)), (1, .int x1), (2, .int x2), (3, .int x3)] [] := by
  unfold wb_J7_fill_53178_16_5 at h
  refine v_iload_n (pc := 5) hC dJ7_fill_53178_5 rfl 2 rfl ?_
  refine v_iload_n (pc := 6) hC dJ7_fill_53178_6 rfl 3 rfl ?_
  refine v_ic_ge (pc := 7) (tgt := 20) hC dJ7_fill_53178_7 (by decide) h (fun h => ?_) (fun h => ?_)
  · skip
    exact v_vret (pc := 20) hC dJ7_fill_53178_20 h
  · skip
    refine v_aload_n (pc := 10) hC dJ7_fill_53178_10 rfl 0 rfl ?_
    refine v_iload_n (pc := 11) hC dJ7_fill_53178_11 rfl 2 rfl ?_
    refine v_iload_n (pc := 12) hC dJ7_fill_53178_12 rfl 1 rfl ?_
    refine v_iast (pc := 13) (n := 16) hC hk0 (by decide) dJ7_fill_53178_13 h (fun F1 h => ?_)
    refine v_iinc (pc := 14) (v := 1) hC (fun z => [(2, .int z), (0, .ref (ad E k0)), (1, .int x1), (3, .int x3)]) dJ7_fill_53178_14 2 rfl (by decide) (by decide) (fun _ => rfl) h (fun n2 h => ?_)
    refine v_goto (pc := 17) (tgt := 5) hC dJ7_fill_53178_17 (by decide) ?_
    exact v_sub [1, 2, 0, 3] rfl (hK5 _ _ h)
set_option maxRecDepth 20000 in
set_option maxHeartbeats 4000000 in
theorem jl_J7_fill_53178_16_5 {p : Program} {l : Launch} {e : Env} {s : State} {m : MethodId} {args : Array Value} {below : List Frame} {meth : Method} {c : Code} {E : gE} (hC : CX p s m args meth c cJ7_fill_53178 RJ7 none E 4) {k0 : Nat} (hk0 : kd k0 = 1016) {Q : gS → Prop} {F : gS} {x1 : Int32} {x2 : Int32} {x3 : Int32} (h : LP2 (wb_J7_fill_53178_16_5 k0 Q x1 x3) F x2) : VV p l e rm_J7_fill_53178_16 s m args below meth c 0 0 (MQ below (va_Qv Q (gB E) (gA E)) args s 0 0 (gA E)) E 4 F 5 [(0, .ref (ad E k0)), (1, .int x1), (2, .int x2), (3, .int x3)] [] :=
  LP2_go (V := fun (F : gS) (x2 : Int32) => VV p l e rm_J7_fill_53178_16 s m args below meth c 0 0 (MQ below (va_Qv Q (gB E) (gA E)) args s 0 0 (gA E)) E 4 F 5 [(0, .ref (ad E k0)), (1, .int x1), (2, .int x2), (3, .int x3)] []) (fun K5 hK5 F x2 h => jb_J7_fill_53178_16_5 hC hk0 hK5 h) F x2 h
set_option maxRecDepth 20000 in
set_option maxHeartbeats 4000000 in
theorem c_J7_fill_53178_16 (l : Launch) (E : gE) {k0 : Nat} (hk0 : kd k0 = 1016) {x1 : Int32} {F : gS} {Q : gS → Prop} (h : wp_J7_fill_53178_16 k0 x1 F Q) : CtV l E yJ7_fill_53178 cJ7_fill_53178 4 none rm_J7_fill_53178_16 [.ref (ad E k0), .int x1] F Q := by
  refine ct_of (by decide) (Nat.le_of_ble_eq_true rfl) (fun p e s m below meth c hC => ?_)
  generalize ([.ref (ad E k0), .int x1] : List Value).toArray = args at hC ⊢
  refine v_sub (lv' := [(0, .ref (ad E k0)), (1, .int x1)]) [0, 1] rfl ?_
  unfold wp_J7_fill_53178_16 at h
  refine v_iconst (pc := 0) (v := 0) hC dJ7_fill_53178_0 (by decide) ?_
  refine v_istore_n (pc := 1) (lv' := [(2, .int 0), (0, .ref (ad E k0)), (1, .int x1)]) hC dJ7_fill_53178_1 rfl (by decide) rfl ?_
  refine v_aload_n (pc := 2) hC dJ7_fill_53178_2 rfl 1 rfl ?_
  refine v_alen (pc := 3) (n := 16) (v := 16) hC hk0 (by decide) rfl dJ7_fill_53178_3 ?_
  refine v_istore_n (pc := 4) (lv' := [(3, .int 16), (2, .int 0), (0, .ref (ad E k0)), (1, .int x1)]) hC dJ7_fill_53178_4 rfl (by decide) rfl ?_
  exact v_sub [2, 3, 1, 0] rfl (jl_J7_fill_53178_16_5 hC hk0 h)
def rm_X1_clearBits : Room := { frames := 1, cells := 0, slots := 0, locals := 23 }
def wp_X1_clearBits (k0 : Nat) (F : gS) (Q : gS → Prop) : Prop :=
  wp_J7_fill_53178_16 (k0 + 2) 0 F fun F1 =>
  Q F1
set_option maxRecDepth 20000 in
set_option maxHeartbeats 4000000 in
theorem c_X1_clearBits (l : Launch) (E : gE) {k0 : Nat} (hk0 : kd k0 = 1) {F : gS} {Q : gS → Prop} (h : wp_X1_clearBits k0 F Q) : CtV l E yX1_clearBits cX1_clearBits 1 none rm_X1_clearBits [.ref (ad E k0)] F Q := by
  refine ct_of (by decide) (Nat.le_of_ble_eq_true rfl) (fun p e s m below meth c hC => ?_)
  generalize ([.ref (ad E k0)] : List Value).toArray = args at hC ⊢
  refine v_sub (lv' := [(0, .ref (ad E k0))]) [0] rfl ?_
  unfold wp_X1_clearBits at h
  refine v_aload_n (pc := 0) hC dX1_clearBits_0 rfl 0 rfl ?_
  refine v_get (pc := 1) (v := .ref (ad E (k0 + 2))) hC fl_X1_15 hk0 rfl dX1_clearBits_1 ?_
  refine v_iconst (pc := 4) (v := 0) hC dX1_clearBits_4 (by decide) ?_
  refine v_cv (pc := 5) (r_S (rest := []) hC ml_X1_18 ms_J7_fill_53178 (c_J7_fill_53178_16 l E (kd_d2 hk0) h) ⟨rfl, rfl⟩ ⟨Nat.le_of_ble_eq_true rfl, Nat.le_of_ble_eq_true rfl⟩ rfl rfl (Nat.le_of_ble_eq_true rfl) ⟨Nat.zero_le _, Nat.zero_le _⟩ dX1_clearBits_5) (fun F1 h => ?_)
  exact v_vret (pc := 8) hC dX1_clearBits_8 h
def rm_X1_clear : Room := { frames := 2, cells := 0, slots := 0, locals := 43 }
def wp_X1_clear (k0 : Nat) (F : gS) (Q : gS → Prop) : Prop :=
  wp_J7_fill_53178_16 (k0 + 1) 0 F fun F1 =>
  wp_X1_clearBits k0 F1 fun F2 =>
  Nm (upF F2 k0 2 0) fun F3 =>
  Q F3
set_option maxRecDepth 20000 in
set_option maxHeartbeats 4000000 in
theorem c_X1_clear (l : Launch) (E : gE) {k0 : Nat} (hk0 : kd k0 = 1) {F : gS} {Q : gS → Prop} (h : wp_X1_clear k0 F Q) : CtV l E yX1_clear cX1_clear 1 none rm_X1_clear [.ref (ad E k0)] F Q := by
  refine ct_of (by decide) (Nat.le_of_ble_eq_true rfl) (fun p e s m below meth c hC => ?_)
  generalize ([.ref (ad E k0)] : List Value).toArray = args at hC ⊢
  refine v_sub (lv' := [(0, .ref (ad E k0))]) [0] rfl ?_
  unfold wp_X1_clear at h
  refine v_aload_n (pc := 0) hC dX1_clear_0 rfl 0 rfl ?_
  refine v_get (pc := 1) (v := .ref (ad E (k0 + 1))) hC fl_X1_9 hk0 rfl dX1_clear_1 ?_
  refine v_iconst (pc := 4) (v := 0) hC dX1_clear_4 (by decide) ?_
  refine v_cv (pc := 5) (r_S (rest := []) hC ml_X1_18 ms_J7_fill_53178 (c_J7_fill_53178_16 l E (kd_d1 hk0) h) ⟨rfl, rfl⟩ ⟨Nat.le_of_ble_eq_true rfl, Nat.le_of_ble_eq_true rfl⟩ rfl rfl (Nat.le_of_ble_eq_true rfl) ⟨Nat.zero_le _, Nat.zero_le _⟩ dX1_clear_5) (fun F1 h => ?_)
  refine v_aload_n (pc := 8) hC dX1_clear_8 rfl 0 rfl ?_
  refine v_cv (pc := 9) (r_V (rest := []) hC ml_X1_24 mv_X1_clearBits (c_X1_clearBits l E hk0 h) ⟨rfl, rfl⟩ ⟨Nat.le_of_ble_eq_true rfl, Nat.le_of_ble_eq_true rfl⟩ hk0 rfl (by decide) rfl rfl (Nat.le_of_ble_eq_true rfl) ⟨Nat.zero_le _, Nat.zero_le _⟩ dX1_clear_9) (fun F2 h => ?_)
  refine v_aload_n (pc := 12) hC dX1_clear_12 rfl 0 rfl ?_
  refine v_iconst (pc := 13) (v := 0) hC dX1_clear_13 (by decide) ?_
  refine v_puti (pc := 14) hC fp_X1_27 hk0 (fs_1_2 E _ _ _) (fn_1_2 E _ _) dX1_clear_14 h (fun F3 h => ?_)
  exact v_vret (pc := 17) hC dX1_clear_17 h
def rm_X1_takeWarmth : Room := { frames := 1, cells := 0, slots := 0, locals := 18 }
def wp_X1_takeWarmth (k0 : Nat) (k1 : Nat) (F : gS) (Q : gS → Prop) : Prop :=
  Nm (upR F (k0 + 1) (va_cpy (F (k1 + 1)) (F (k0 + 1)) 0 0 16)) fun F1 =>
  Q F1
set_option maxRecDepth 20000 in
set_option maxHeartbeats 4000000 in
theorem c_X1_takeWarmth (l : Launch) (E : gE) {k0 : Nat} (hk0 : kd k0 = 1) {k1 : Nat} (hk1 : kd k1 = 1) {F : gS} {Q : gS → Prop} (h : wp_X1_takeWarmth k0 k1 F Q) : CtV l E yX1_takeWarmth cX1_takeWarmth 2 none rm_X1_takeWarmth [.ref (ad E k0), .ref (ad E k1)] F Q := by
  refine ct_of (by decide) (Nat.le_of_ble_eq_true rfl) (fun p e s m below meth c hC => ?_)
  generalize ([.ref (ad E k0), .ref (ad E k1)] : List Value).toArray = args at hC ⊢
  refine v_sub (lv' := [(0, .ref (ad E k0)), (1, .ref (ad E k1))]) [0, 1] rfl ?_
  unfold wp_X1_takeWarmth at h
  refine v_aload_n (pc := 0) hC dX1_takeWarmth_0 rfl 1 rfl ?_
  refine v_get (pc := 1) (v := .ref (ad E (k1 + 1))) hC fl_X1_9 hk1 rfl dX1_takeWarmth_1 ?_
  refine v_iconst (pc := 4) (v := 0) hC dX1_takeWarmth_4 (by decide) ?_
  refine v_aload_n (pc := 5) hC dX1_takeWarmth_5 rfl 0 rfl ?_
  refine v_get (pc := 6) (v := .ref (ad E (k0 + 1))) hC fl_X1_9 hk0 rfl dX1_takeWarmth_6 ?_
  refine v_iconst (pc := 9) (v := 0) hC dX1_takeWarmth_9 (by decide) ?_
  refine v_bipush (pc := 10) (v := 16) hC dX1_takeWarmth_10 (by decide) ?_
  refine v_copy (pc := 12) (n0 := 16) (n1 := 16) (n' := 16) hC ac_X1_35 ac_n ac_s in_Sys (kd_d1 hk1) (by decide) (kd_d1 hk0) (by decide) (by decide) (by decide) (by decide) (by decide) ⟨Nat.le_of_ble_eq_true rfl, Nat.le_of_ble_eq_true rfl⟩ dX1_takeWarmth_12 h (fun F1 h => ?_)
  exact v_vret (pc := 15) hC dX1_takeWarmth_15 h
def rm_X1_become : Room := { frames := 2, cells := 0, slots := 0, locals := 39 }
def wp_X1_become (k0 : Nat) (k1 : Nat) (F : gS) (Q : gS → Prop) : Prop :=
  wp_X1_takeWarmth k0 k1 F fun F1 =>
  Nm (upR F1 (k0 + 2) (va_cpy (F1 (k1 + 2)) (F1 (k0 + 2)) 0 0 16)) fun F2 =>
  Nm (upF F2 k0 2 (F2 k1 2)) fun F3 =>
  Q F3
set_option maxRecDepth 20000 in
set_option maxHeartbeats 4000000 in
theorem c_X1_become (l : Launch) (E : gE) {k0 : Nat} (hk0 : kd k0 = 1) {k1 : Nat} (hk1 : kd k1 = 1) {F : gS} {Q : gS → Prop} (h : wp_X1_become k0 k1 F Q) : CtV l E yX1_become cX1_become 2 none rm_X1_become [.ref (ad E k0), .ref (ad E k1)] F Q := by
  refine ct_of (by decide) (Nat.le_of_ble_eq_true rfl) (fun p e s m below meth c hC => ?_)
  generalize ([.ref (ad E k0), .ref (ad E k1)] : List Value).toArray = args at hC ⊢
  refine v_sub (lv' := [(0, .ref (ad E k0)), (1, .ref (ad E k1))]) [0, 1] rfl ?_
  unfold wp_X1_become at h
  refine v_aload_n (pc := 0) hC dX1_become_0 rfl 0 rfl ?_
  refine v_aload_n (pc := 1) hC dX1_become_1 rfl 1 rfl ?_
  refine v_cv (pc := 2) (r_V (rest := []) hC ml_X1_31 mv_X1_takeWarmth (c_X1_takeWarmth l E hk0 hk1 h) ⟨rfl, rfl⟩ ⟨Nat.le_of_ble_eq_true rfl, Nat.le_of_ble_eq_true rfl⟩ hk0 rfl (by decide) rfl rfl (Nat.le_of_ble_eq_true rfl) ⟨Nat.zero_le _, Nat.zero_le _⟩ dX1_become_2) (fun F1 h => ?_)
  refine v_aload_n (pc := 5) hC dX1_become_5 rfl 1 rfl ?_
  refine v_get (pc := 6) (v := .ref (ad E (k1 + 2))) hC fl_X1_15 hk1 rfl dX1_become_6 ?_
  refine v_iconst (pc := 9) (v := 0) hC dX1_become_9 (by decide) ?_
  refine v_aload_n (pc := 10) hC dX1_become_10 rfl 0 rfl ?_
  refine v_get (pc := 11) (v := .ref (ad E (k0 + 2))) hC fl_X1_15 hk0 rfl dX1_become_11 ?_
  refine v_iconst (pc := 14) (v := 0) hC dX1_become_14 (by decide) ?_
  refine v_bipush (pc := 15) (v := 16) hC dX1_become_15 (by decide) ?_
  refine v_copy (pc := 17) (n0 := 16) (n1 := 16) (n' := 16) hC ac_X1_35 ac_n ac_s in_Sys (kd_d2 hk1) (by decide) (kd_d2 hk0) (by decide) (by decide) (by decide) (by decide) (by decide) ⟨Nat.le_of_ble_eq_true rfl, Nat.le_of_ble_eq_true rfl⟩ dX1_become_17 h (fun F2 h => ?_)
  refine v_aload_n (pc := 20) hC dX1_become_20 rfl 0 rfl ?_
  refine v_aload_n (pc := 21) hC dX1_become_21 rfl 1 rfl ?_
  refine v_get (pc := 22) (v := .int (F2 k1 2)) hC fl_X1_27 hk1 rfl dX1_become_22 ?_
  refine v_puti (pc := 25) hC fp_X1_27 hk0 (fs_1_2 E _ _ _) (fn_1_2 E _ _) dX1_become_25 h (fun F3 h => ?_)
  exact v_vret (pc := 28) hC dX1_become_28 h
def rm_X1_bitsTogether : Room := { frames := 0, cells := 0, slots := 0, locals := 0 }
def wb_X1_bitsTogether_4 (k0 : Nat) (Q : Int32 → Prop) (F : gS) (K4 : Int32 → Int32 → Prop) (x1 : Int32) (x2 : Int32) : Prop :=
  if 16 ≤ x2 then
    (Q x1)
  else
    (vp_in x2 16 ∧
    Nm (x1 + (F (k0 + 2) x2.toNatClampNeg)) fun n1 =>
    Nm (x2 + 1) fun n2 =>
    K4 n1 n2)
def wp_X1_bitsTogether (k0 : Nat) (F : gS) (Q : Int32 → Prop) : Prop :=
  LP2 (wb_X1_bitsTogether_4 k0 Q F) 0 0
set_option maxRecDepth 20000 in
set_option maxHeartbeats 4000000 in
theorem jb_X1_bitsTogether_4 {p : Program} {l : Launch} {e : Env} {s : State} {m : MethodId} {args : Array Value} {below : List Frame} {meth : Method} {c : Code} {E : gE} (hC : CX p s m args meth c cX1_bitsTogether RX1 (some .int) E 3) {k0 : Nat} (hk0 : kd k0 = 1) {Q : Int32 → Prop} {F : gS} {x1 : Int32} {x2 : Int32} {K4 : Int32 → Int32 → Prop} (hK4 : ∀ (x1 : Int32) (x2 : Int32), K4 x1 x2 → VV p l e rm_X1_bitsTogether s m args below meth c 0 0 (MQ below (va_Qi (fun r G => G = F ∧ Q r) (gB E) (gA E)) args s 0 0 (gA E)) E 3 F 4 [(0, .ref (ad E k0)), (1, .int x1), (2, .int x2)] []) (h : wb_X1_bitsTogether_4 k0 Q F K4 x1 x2) : VV p l e rm_X1_bitsTogether s m args below meth c 0 0 (MQ below (va_Qi (fun r G => G = F ∧ Q r) (gB E) (gA E)) args s 0 0 (gA E)) E 3 F 4 [(0, .ref (ad E k0)), (1, .int x1), (2, .int x2)] [] := by
  unfold wb_X1_bitsTogether_4 at h
  refine v_iload_n (pc := 4) hC dX1_bitsTogether_4 rfl 2 rfl ?_
  refine v_bipush (pc := 5) (v := 16) hC dX1_bitsTogether_5 (by decide) ?_
  refine v_ic_ge (pc := 7) (tgt := 25) hC dX1_bitsTogether_7 (by decide) h (fun h => ?_) (fun h => ?_)
  · skip
    refine v_iload_n (pc := 25) hC dX1_bitsTogether_25 rfl 1 rfl ?_
    exact v_iret (pc := 26) hC dX1_bitsTogether_26 ⟨rfl, h⟩
  · skip
    refine v_iload_n (pc := 10) hC dX1_bitsTogether_10 rfl 1 rfl ?_
    refine v_aload_n (pc := 11) hC dX1_bitsTogether_11 rfl 0 rfl ?_
    refine v_get (pc := 12) (v := .ref (ad E (k0 + 2))) hC fl_X1_15 hk0 rfl dX1_bitsTogether_12 ?_
    refine v_iload_n (pc := 15) hC dX1_bitsTogether_15 rfl 2 rfl ?_
    refine v_iald (pc := 16) (n := 16) hC (kd_d2 hk0) (by decide) dX1_bitsTogether_16 h (fun h => ?_)
    refine v_iadd (pc := 17) hC dX1_bitsTogether_17 ?_
    refine v_nmi h (fun n1 h => ?_)
    refine v_istore_n (pc := 18) (lv' := [(1, .int n1), (0, .ref (ad E k0)), (2, .int x2)]) hC dX1_bitsTogether_18 rfl (by decide) rfl ?_
    refine v_iinc (pc := 19) (v := 1) hC (fun z => [(2, .int z), (1, .int n1), (0, .ref (ad E k0))]) dX1_bitsTogether_19 2 rfl (by decide) (by decide) (fun _ => rfl) h (fun n2 h => ?_)
    refine v_goto (pc := 22) (tgt := 4) hC dX1_bitsTogether_22 (by decide) ?_
    exact v_sub [2, 1, 0] rfl (hK4 _ _ h)
set_option maxRecDepth 20000 in
set_option maxHeartbeats 4000000 in
theorem jl_X1_bitsTogether_4 {p : Program} {l : Launch} {e : Env} {s : State} {m : MethodId} {args : Array Value} {below : List Frame} {meth : Method} {c : Code} {E : gE} (hC : CX p s m args meth c cX1_bitsTogether RX1 (some .int) E 3) {k0 : Nat} (hk0 : kd k0 = 1) {Q : Int32 → Prop} {F : gS} {x1 : Int32} {x2 : Int32} (h : LP2 (wb_X1_bitsTogether_4 k0 Q F) x1 x2) : VV p l e rm_X1_bitsTogether s m args below meth c 0 0 (MQ below (va_Qi (fun r G => G = F ∧ Q r) (gB E) (gA E)) args s 0 0 (gA E)) E 3 F 4 [(0, .ref (ad E k0)), (1, .int x1), (2, .int x2)] [] :=
  LP2_go (V := fun (x1 : Int32) (x2 : Int32) => VV p l e rm_X1_bitsTogether s m args below meth c 0 0 (MQ below (va_Qi (fun r G => G = F ∧ Q r) (gB E) (gA E)) args s 0 0 (gA E)) E 3 F 4 [(0, .ref (ad E k0)), (1, .int x1), (2, .int x2)] []) (fun K4 hK4 x1 x2 h => jb_X1_bitsTogether_4 hC hk0 hK4 h) x1 x2 h
set_option maxRecDepth 20000 in
set_option maxHeartbeats 4000000 in
theorem c_X1_bitsTogether (l : Launch) (E : gE) {k0 : Nat} (hk0 : kd k0 = 1) {F : gS} {Q : Int32 → Prop} (h : wp_X1_bitsTogether k0 F Q) : CtI l E yX1_bitsTogether cX1_bitsTogether 3 (some .int) rm_X1_bitsTogether [.ref (ad E k0)] F (fun r G => G = F ∧ Q r) := by
  refine ct_of (by decide) (Nat.le_of_ble_eq_true rfl) (fun p e s m below meth c hC => ?_)
  generalize ([.ref (ad E k0)] : List Value).toArray = args at hC ⊢
  refine v_sub (lv' := [(0, .ref (ad E k0))]) [0] rfl ?_
  unfold wp_X1_bitsTogether at h
  refine v_iconst (pc := 0) (v := 0) hC dX1_bitsTogether_0 (by decide) ?_
  refine v_istore_n (pc := 1) (lv' := [(1, .int 0), (0, .ref (ad E k0))]) hC dX1_bitsTogether_1 rfl (by decide) rfl ?_
  refine v_iconst (pc := 2) (v := 0) hC dX1_bitsTogether_2 (by decide) ?_
  refine v_istore_n (pc := 3) (lv' := [(2, .int 0), (1, .int 0), (0, .ref (ad E k0))]) hC dX1_bitsTogether_3 rfl (by decide) rfl ?_
  exact v_sub [2, 1, 0] rfl (jl_X1_bitsTogether_4 hC hk0 h)
def rm_X1_cool : Room := { frames := 1, cells := 0, slots := 0, locals := 15 }
def wp_X1_cool (k0 : Nat) (x1 : Int32) (x2 : Int32) (F : gS) (Q : gS → Prop) : Prop :=
  vp_in x1 16 ∧
  vp_in x1 16 ∧ Nm (upF F (k0 + 1) x1.toNatClampNeg (if (0 : Int32) < ((F (k0 + 1) x1.toNatClampNeg) - (2 * x2)) then ((F (k0 + 1) x1.toNatClampNeg) - (2 * x2)) else 0)) fun F1 =>
  Q F1
set_option maxRecDepth 20000 in
set_option maxHeartbeats 4000000 in
theorem c_X1_cool (l : Launch) (E : gE) {k0 : Nat} (hk0 : kd k0 = 1) {x1 : Int32} {x2 : Int32} {F : gS} {Q : gS → Prop} (h : wp_X1_cool k0 x1 x2 F Q) : CtV l E yX1_cool cX1_cool 3 none rm_X1_cool [.ref (ad E k0), .int x1, .int x2] F Q := by
  refine ct_of (by decide) (Nat.le_of_ble_eq_true rfl) (fun p e s m below meth c hC => ?_)
  generalize ([.ref (ad E k0), .int x1, .int x2] : List Value).toArray = args at hC ⊢
  refine v_sub (lv' := [(0, .ref (ad E k0)), (1, .int x1), (2, .int x2)]) [0, 1, 2] rfl ?_
  unfold wp_X1_cool at h
  refine v_aload_n (pc := 0) hC dX1_cool_0 rfl 0 rfl ?_
  refine v_get (pc := 1) (v := .ref (ad E (k0 + 1))) hC fl_X1_9 hk0 rfl dX1_cool_1 ?_
  refine v_iload_n (pc := 4) hC dX1_cool_4 rfl 1 rfl ?_
  refine v_iconst (pc := 5) (v := 0) hC dX1_cool_5 (by decide) ?_
  refine v_aload_n (pc := 6) hC dX1_cool_6 rfl 0 rfl ?_
  refine v_get (pc := 7) (v := .ref (ad E (k0 + 1))) hC fl_X1_9 hk0 rfl dX1_cool_7 ?_
  refine v_iload_n (pc := 10) hC dX1_cool_10 rfl 1 rfl ?_
  refine v_iald (pc := 11) (n := 16) hC (kd_d1 hk0) (by decide) dX1_cool_11 h (fun h => ?_)
  refine v_iconst (pc := 12) (v := 2) hC dX1_cool_12 (by decide) ?_
  refine v_iload_n (pc := 13) hC dX1_cool_13 rfl 2 rfl ?_
  refine v_imul (pc := 14) hC dX1_cool_14 ?_
  refine v_isub (pc := 15) hC dX1_cool_15 ?_
  refine v_max (pc := 16) hC mmax_X1_41 mmax_s in_Math mmax_c ⟨Nat.le_of_ble_eq_true rfl, Nat.le_of_ble_eq_true rfl⟩ ⟨Nat.zero_le _, Nat.zero_le _⟩ dX1_cool_16 ?_
  refine v_iast (pc := 19) (n := 16) hC (kd_d1 hk0) (by decide) dX1_cool_19 h (fun F1 h => ?_)
  exact v_vret (pc := 20) hC dX1_cool_20 h
def rm_X1_heat : Room := { frames := 0, cells := 0, slots := 0, locals := 0 }
def wp_X1_heat_78 (k0 : Nat) (K14 : Int32 → Int32 → Int32 → Prop) (Q : Int32 → gS → Prop) (F : gS) (x1 : Int32) (x2 : Int32) (x4 : Int32) (x5 : Int32) (x6 : Int32) (x7 : Int32) (x8 : Int32) : Prop :=
  if x8 = 0 then
    (vp_in x1 16 ∧ Nm (upF F (k0 + 1) x1.toNatClampNeg x5) fun F7 =>
    Q x6 F7)
  else
    (Nm (x7 + (-1)) fun n6 =>
    K14 x5 x6 n6)
def wp_X1_heat_39 (k0 : Nat) (K14 : Int32 → Int32 → Int32 → Prop) (Q : Int32 → gS → Prop) (F : gS) (x1 : Int32) (x2 : Int32) (x4 : Int32) (x5 : Int32) (x6 : Int32) (x7 : Int32) (x8 : Int32) (t0 : Int32) : Prop :=
  Nm (x5 + x8) fun n4 =>
  if x4 ≤ 0 then
    (wp_X1_heat_78 k0 K14 Q F x1 x2 x4 n4 x6 x7 x8)
  else
    (if n4 ≤ 60 then
      (wp_X1_heat_78 k0 K14 Q F x1 x2 x4 n4 x6 x7 x8)
    else
      (¬ (x4 + 2) = 0 ∧
      Nm (x6 + (t0 * ((n4 - 60) / (x4 + 2)))) fun n5 =>
      wp_X1_heat_78 k0 K14 Q F x1 x2 x4 n4 n5 x7 x8))
def wb_X1_heat_14 (k0 : Nat) (Q : Int32 → gS → Prop) (F : gS) (x1 : Int32) (x2 : Int32) (x4 : Int32) (K14 : Int32 → Int32 → Int32 → Prop) (x5 : Int32) (x6 : Int32) (x7 : Int32) : Prop :=
  if x7 ≤ 0 then
    (vp_in x1 16 ∧ Nm (upF F (k0 + 1) x1.toNatClampNeg x5) fun F2 =>
    Q x6 F2)
  else
    (Nm (x2 - (x5 / 10)) fun n3 =>
    if n3 = 0 then
      (wp_X1_heat_39 k0 K14 Q F x1 x2 x4 x5 x6 x7 n3 x7)
    else
      (wp_X1_heat_39 k0 K14 Q F x1 x2 x4 x5 x6 x7 n3 1))
def wp_X1_heat (k0 : Nat) (x1 : Int32) (x2 : Int32) (x3 : Int32) (x4 : Int32) (F : gS) (Q : Int32 → gS → Prop) : Prop :=
  vp_in x1 16 ∧
  Nm (F (k0 + 1) x1.toNatClampNeg) fun n1 =>
  LP3 (wb_X1_heat_14 k0 Q F x1 x2 x4) n1 0 x3
set_option maxRecDepth 20000 in
set_option maxHeartbeats 4000000 in
theorem j_X1_heat_78 {p : Program} {l : Launch} {e : Env} {s : State} {m : MethodId} {args : Array Value} {below : List Frame} {meth : Method} {c : Code} {E : gE} (hC : CX p s m args meth c cX1_heat RX1 (some .int) E 10) {k0 : Nat} (hk0 : kd k0 = 1) {Q : Int32 → gS → Prop} {F : gS} {x1 : Int32} {x2 : Int32} {x4 : Int32} {x5 : Int32} {x6 : Int32} {x7 : Int32} {x8 : Int32} {K14 : Int32 → Int32 → Int32 → Prop} (hK14 : ∀ (x5 : Int32) (x6 : Int32) (x7 : Int32), K14 x5 x6 x7 → VV p l e rm_X1_heat s m args below meth c 0 0 (MQ below (va_Qi Q (gB E) (gA E)) args s 0 0 (gA E)) E 10 F 14 [(0, .ref (ad E k0)), (1, .int x1), (2, .int x2), (4, .int x4), (5, .int x5), (6, .int x6), (7, .int x7)] []) (h : wp_X1_heat_78 k0 K14 Q F x1 x2 x4 x5 x6 x7 x8) : VV p l e rm_X1_heat s m args below meth c 0 0 (MQ below (va_Qi Q (gB E) (gA E)) args s 0 0 (gA E)) E 10 F 78 [(0, .ref (ad E k0)), (1, .int x1), (2, .int x2), (4, .int x4), (5, .int x5), (6, .int x6), (7, .int x7), (8, .int x8)] [] := by
  unfold wp_X1_heat_78 at h
  refine v_iload (pc := 78) hC dX1_heat_78 7 rfl ?_
  refine v_if_ne (pc := 80) (tgt := 86) hC dX1_heat_80 (by decide) h (fun h => ?_) (fun h => ?_)
  · skip
    refine v_iinc (pc := 86) (v := (-1)) hC (fun z => [(7, .int z), (0, .ref (ad E k0)), (1, .int x1), (2, .int x2), (4, .int x4), (5, .int x5), (6, .int x6), (8, .int x8)]) dX1_heat_86 6 rfl (by decide) (by decide) (fun _ => rfl) h (fun n6 h => ?_)
    refine v_goto (pc := 89) (tgt := 14) hC dX1_heat_89 (by decide) ?_
    exact v_sub [1, 2, 3, 4, 5, 6, 0] rfl (hK14 _ _ _ h)
  · skip
    refine v_goto (pc := 83) (tgt := 92) hC dX1_heat_83 (by decide) ?_
    refine v_aload_n (pc := 92) hC dX1_heat_92 rfl 0 rfl ?_
    refine v_get (pc := 93) (v := .ref (ad E (k0 + 1))) hC fl_X1_9 hk0 rfl dX1_heat_93 ?_
    refine v_iload_n (pc := 96) hC dX1_heat_96 rfl 1 rfl ?_
    refine v_iload (pc := 97) hC dX1_heat_97 4 rfl ?_
    refine v_iast (pc := 99) (n := 16) hC (kd_d1 hk0) (by decide) dX1_heat_99 h (fun F7 h => ?_)
    refine v_iload (pc := 100) hC dX1_heat_100 5 rfl ?_
    exact v_iret (pc := 102) hC dX1_heat_102 h
set_option maxRecDepth 20000 in
set_option maxHeartbeats 4000000 in
theorem j_X1_heat_39 {p : Program} {l : Launch} {e : Env} {s : State} {m : MethodId} {args : Array Value} {below : List Frame} {meth : Method} {c : Code} {E : gE} (hC : CX p s m args meth c cX1_heat RX1 (some .int) E 10) {k0 : Nat} (hk0 : kd k0 = 1) {Q : Int32 → gS → Prop} {F : gS} {x1 : Int32} {x2 : Int32} {x4 : Int32} {x5 : Int32} {x6 : Int32} {x7 : Int32} {x8 : Int32} {t0 : Int32} {K14 : Int32 → Int32 → Int32 → Prop} (hK14 : ∀ (x5 : Int32) (x6 : Int32) (x7 : Int32), K14 x5 x6 x7 → VV p l e rm_X1_heat s m args below meth c 0 0 (MQ below (va_Qi Q (gB E) (gA E)) args s 0 0 (gA E)) E 10 F 14 [(0, .ref (ad E k0)), (1, .int x1), (2, .int x2), (4, .int x4), (5, .int x5), (6, .int x6), (7, .int x7)] []) (h : wp_X1_heat_39 k0 K14 Q F x1 x2 x4 x5 x6 x7 x8 t0) : VV p l e rm_X1_heat s m args below meth c 0 0 (MQ below (va_Qi Q (gB E) (gA E)) args s 0 0 (gA E)) E 10 F 39 [(0, .ref (ad E k0)), (1, .int x1), (2, .int x2), (4, .int x4), (5, .int x5), (6, .int x6), (7, .int x7), (8, .int x8)] [.int t0] := by
  unfold wp_X1_heat_39 at h
  refine v_istore (pc := 39) (lv' := [(9, .int t0), (0, .ref (ad E k0)), (1, .int x1), (2, .int x2), (4, .int x4), (5, .int x5), (6, .int x6), (7, .int x7), (8, .int x8)]) hC dX1_heat_39 (by decide) rfl ?_
  refine v_iload (pc := 41) hC dX1_heat_41 5 rfl ?_
  refine v_iload (pc := 43) hC dX1_heat_43 8 rfl ?_
  refine v_iadd (pc := 45) hC dX1_heat_45 ?_
  refine v_nmi h (fun n4 h => ?_)
  refine v_istore (pc := 46) (lv' := [(5, .int n4), (9, .int t0), (0, .ref (ad E k0)), (1, .int x1), (2, .int x2), (4, .int x4), (6, .int x6), (7, .int x7), (8, .int x8)]) hC dX1_heat_46 (by decide) rfl ?_
  refine v_iload (pc := 48) hC dX1_heat_48 5 rfl ?_
  refine v_if_le (pc := 50) (tgt := 78) hC dX1_heat_50 (by decide) h (fun h => ?_) (fun h => ?_)
  · skip
    exact v_sub [2, 3, 4, 5, 0, 6, 7, 8] rfl (j_X1_heat_78 hC hk0 hK14 h)
  · skip
    refine v_iload (pc := 53) hC dX1_heat_53 0 rfl ?_
    refine v_bipush (pc := 55) (v := 60) hC dX1_heat_55 (by decide) ?_
    refine v_ic_le (pc := 57) (tgt := 78) hC dX1_heat_57 (by decide) h (fun h => ?_) (fun h => ?_)
    · skip
      exact v_sub [2, 3, 4, 5, 0, 6, 7, 8] rfl (j_X1_heat_78 hC hk0 hK14 h)
    · skip
      refine v_iload (pc := 60) hC dX1_heat_60 6 rfl ?_
      refine v_iload (pc := 62) hC dX1_heat_62 1 rfl ?_
      refine v_iload (pc := 64) hC dX1_heat_64 0 rfl ?_
      refine v_bipush (pc := 66) (v := 60) hC dX1_heat_66 (by decide) ?_
      refine v_isub (pc := 68) hC dX1_heat_68 ?_
      refine v_iload (pc := 69) hC dX1_heat_69 5 rfl ?_
      refine v_iconst (pc := 71) (v := 2) hC dX1_heat_71 (by decide) ?_
      refine v_iadd (pc := 72) hC dX1_heat_72 ?_
      refine v_idiv (pc := 73) hC dX1_heat_73 h (fun h => ?_)
      refine v_imul (pc := 74) hC dX1_heat_74 ?_
      refine v_iadd (pc := 75) hC dX1_heat_75 ?_
      refine v_nmi h (fun n5 h => ?_)
      refine v_istore (pc := 76) (lv' := [(6, .int n5), (5, .int n4), (9, .int t0), (0, .ref (ad E k0)), (1, .int x1), (2, .int x2), (4, .int x4), (7, .int x7), (8, .int x8)]) hC dX1_heat_76 (by decide) rfl ?_
      exact v_sub [3, 4, 5, 6, 1, 0, 7, 8] rfl (j_X1_heat_78 hC hk0 hK14 h)
set_option maxRecDepth 20000 in
set_option maxHeartbeats 4000000 in
theorem jb_X1_heat_14 {p : Program} {l : Launch} {e : Env} {s : State} {m : MethodId} {args : Array Value} {below : List Frame} {meth : Method} {c : Code} {E : gE} (hC : CX p s m args meth c cX1_heat RX1 (some .int) E 10) {k0 : Nat} (hk0 : kd k0 = 1) {Q : Int32 → gS → Prop} {F : gS} {x1 : Int32} {x2 : Int32} {x4 : Int32} {x5 : Int32} {x6 : Int32} {x7 : Int32} {K14 : Int32 → Int32 → Int32 → Prop} (hK14 : ∀ (x5 : Int32) (x6 : Int32) (x7 : Int32), K14 x5 x6 x7 → VV p l e rm_X1_heat s m args below meth c 0 0 (MQ below (va_Qi Q (gB E) (gA E)) args s 0 0 (gA E)) E 10 F 14 [(0, .ref (ad E k0)), (1, .int x1), (2, .int x2), (4, .int x4), (5, .int x5), (6, .int x6), (7, .int x7)] []) (h : wb_X1_heat_14 k0 Q F x1 x2 x4 K14 x5 x6 x7) : VV p l e rm_X1_heat s m args below meth c 0 0 (MQ below (va_Qi Q (gB E) (gA E)) args s 0 0 (gA E)) E 10 F 14 [(0, .ref (ad E k0)), (1, .int x1), (2, .int x2), (4, .int x4), (5, .int x5), (6, .int x6), (7, .int x7)] [] := by
  unfold wb_X1_heat_14 at h
  refine v_iload (pc := 14) hC dX1_heat_14 6 rfl ?_
  refine v_if_le (pc := 16) (tgt := 92) hC dX1_heat_16 (by decide) h (fun h => ?_) (fun h => ?_)
  · skip
    refine v_aload_n (pc := 92) hC dX1_heat_92 rfl 0 rfl ?_
    refine v_get (pc := 93) (v := .ref (ad E (k0 + 1))) hC fl_X1_9 hk0 rfl dX1_heat_93 ?_
    refine v_iload_n (pc := 96) hC dX1_heat_96 rfl 1 rfl ?_
    refine v_iload (pc := 97) hC dX1_heat_97 4 rfl ?_
    refine v_iast (pc := 99) (n := 16) hC (kd_d1 hk0) (by decide) dX1_heat_99 h (fun F2 h => ?_)
    refine v_iload (pc := 100) hC dX1_heat_100 5 rfl ?_
    exact v_iret (pc := 102) hC dX1_heat_102 h
  · skip
    refine v_iload_n (pc := 19) hC dX1_heat_19 rfl 2 rfl ?_
    refine v_iload (pc := 20) hC dX1_heat_20 4 rfl ?_
    refine v_bipush (pc := 22) (v := 10) hC dX1_heat_22 (by decide) ?_
    refine v_idiv (pc := 24) hC dX1_heat_24 ⟨by decide, h⟩ (fun h => ?_)
    refine v_isub (pc := 25) hC dX1_heat_25 ?_
    refine v_nmi h (fun n3 h => ?_)
    refine v_istore (pc := 26) (lv' := [(8, .int n3), (0, .ref (ad E k0)), (1, .int x1), (2, .int x2), (4, .int x4), (5, .int x5), (6, .int x6), (7, .int x7)]) hC dX1_heat_26 (by decide) rfl ?_
    refine v_iload (pc := 28) hC dX1_heat_28 0 rfl ?_
    refine v_if_ne (pc := 30) (tgt := 38) hC dX1_heat_30 (by decide) h (fun h => ?_) (fun h => ?_)
    · skip
      refine v_iconst (pc := 38) (v := 1) hC dX1_heat_38 (by decide) ?_
      exact v_sub [1, 2, 3, 4, 5, 6, 7, 0] rfl (j_X1_heat_39 hC hk0 hK14 h)
    · skip
      refine v_iload (pc := 33) hC dX1_heat_33 7 rfl ?_
      refine v_goto (pc := 35) (tgt := 39) hC dX1_heat_35 (by decide) ?_
      exact v_sub [1, 2, 3, 4, 5, 6, 7, 0] rfl (j_X1_heat_39 hC hk0 hK14 h)
set_option maxRecDepth 20000 in
set_option maxHeartbeats 4000000 in
theorem jl_X1_heat_14 {p : Program} {l : Launch} {e : Env} {s : State} {m : MethodId} {args : Array Value} {below : List Frame} {meth : Method} {c : Code} {E : gE} (hC : CX p s m args meth c cX1_heat RX1 (some .int) E 10) {k0 : Nat} (hk0 : kd k0 = 1) {Q : Int32 → gS → Prop} {F : gS} {x1 : Int32} {x2 : Int32} {x4 : Int32} {x5 : Int32} {x6 : Int32} {x7 : Int32} (h : LP3 (wb_X1_heat_14 k0 Q F x1 x2 x4) x5 x6 x7) : VV p l e rm_X1_heat s m args below meth c 0 0 (MQ below (va_Qi Q (gB E) (gA E)) args s 0 0 (gA E)) E 10 F 14 [(0, .ref (ad E k0)), (1, .int x1), (2, .int x2), (4, .int x4), (5, .int x5), (6, .int x6), (7, .int x7)] [] :=
  LP3_go (V := fun (x5 : Int32) (x6 : Int32) (x7 : Int32) => VV p l e rm_X1_heat s m args below meth c 0 0 (MQ below (va_Qi Q (gB E) (gA E)) args s 0 0 (gA E)) E 10 F 14 [(0, .ref (ad E k0)), (1, .int x1), (2, .int x2), (4, .int x4), (5, .int x5), (6, .int x6), (7, .int x7)] []) (fun K14 hK14 x5 x6 x7 h => jb_X1_heat_14 hC hk0 hK14 h) x5 x6 x7 h
set_option maxRecDepth 20000 in
set_option maxHeartbeats 4000000 in
theorem c_X1_heat (l : Launch) (E : gE) {k0 : Nat} (hk0 : kd k0 = 1) {x1 : Int32} {x2 : Int32} {x3 : Int32} {x4 : Int32} {F : gS} {Q : Int32 → gS → Prop} (h : wp_X1_heat k0 x1 x2 x3 x4 F Q) : CtI l E yX1_heat cX1_heat 10 (some .int) rm_X1_heat [.ref (ad E k0), .int x1, .int x2, .int x3, .int x4] F Q := by
  refine ct_of (by decide) (Nat.le_of_ble_eq_true rfl) (fun p e s m below meth c hC => ?_)
  generalize ([.ref (ad E k0), .int x1, .int x2, .int x3, .int x4] : List Value).toArray = args at hC ⊢
  refine v_sub (lv' := [(0, .ref (ad E k0)), (1, .int x1), (2, .int x2), (3, .int x3), (4, .int x4)]) [0, 1, 2, 3, 4] rfl ?_
  unfold wp_X1_heat at h
  refine v_aload_n (pc := 0) hC dX1_heat_0 rfl 0 rfl ?_
  refine v_get (pc := 1) (v := .ref (ad E (k0 + 1))) hC fl_X1_9 hk0 rfl dX1_heat_1 ?_
  refine v_iload_n (pc := 4) hC dX1_heat_4 rfl 1 rfl ?_
  refine v_iald (pc := 5) (n := 16) hC (kd_d1 hk0) (by decide) dX1_heat_5 h (fun h => ?_)
  refine v_nmi h (fun n1 h => ?_)
  refine v_istore (pc := 6) (lv' := [(5, .int n1), (0, .ref (ad E k0)), (1, .int x1), (2, .int x2), (3, .int x3), (4, .int x4)]) hC dX1_heat_6 (by decide) rfl ?_
  refine v_iconst (pc := 8) (v := 0) hC dX1_heat_8 (by decide) ?_
  refine v_istore (pc := 9) (lv' := [(6, .int 0), (5, .int n1), (0, .ref (ad E k0)), (1, .int x1), (2, .int x2), (3, .int x3), (4, .int x4)]) hC dX1_heat_9 (by decide) rfl ?_
  refine v_iload_n (pc := 11) hC dX1_heat_11 rfl 5 rfl ?_
  refine v_istore (pc := 12) (lv' := [(7, .int x3), (6, .int 0), (5, .int n1), (0, .ref (ad E k0)), (1, .int x1), (2, .int x2), (3, .int x3), (4, .int x4)]) hC dX1_heat_12 (by decide) rfl ?_
  exact v_sub [3, 4, 5, 7, 2, 1, 0] rfl (jl_X1_heat_14 hC hk0 h)
def rm_X0_isRight : Room := { frames := 0, cells := 0, slots := 0, locals := 0 }
def wp_X0_isRight (k0 : Nat) (F : gS) (Q : Int32 → Prop) : Prop :=
  vp_in 0 7 ∧
  if (F (k0 + 2) (0 : Int32).toNatClampNeg) = 0 then
    (Q 1)
  else
    (Q 0)
set_option maxRecDepth 20000 in
set_option maxHeartbeats 4000000 in
theorem c_X0_isRight (l : Launch) (E : gE) {k0 : Nat} (hk0 : kd k0 = 0) {F : gS} {Q : Int32 → Prop} (h : wp_X0_isRight k0 F Q) : CtI l E yX0_isRight cX0_isRight 1 (some .boolean) rm_X0_isRight [.ref (ad E k0)] F (fun r G => (r = 0 ∨ r = 1) ∧ G = F ∧ Q r) := by
  refine ct_of (by decide) (Nat.le_of_ble_eq_true rfl) (fun p e s m below meth c hC => ?_)
  generalize ([.ref (ad E k0)] : List Value).toArray = args at hC ⊢
  refine v_sub (lv' := [(0, .ref (ad E k0))]) [0] rfl ?_
  unfold wp_X0_isRight at h
  refine v_aload_n (pc := 0) hC dX0_isRight_0 rfl 0 rfl ?_
  refine v_get (pc := 1) (v := .ref (ad E (k0 + 2))) hC fl_X0_15 hk0 rfl dX0_isRight_1 ?_
  refine v_iconst (pc := 4) (v := 0) hC dX0_isRight_4 (by decide) ?_
  refine v_iald (pc := 5) (n := 7) hC (kd_c2 hk0) (by decide) dX0_isRight_5 h (fun h => ?_)
  refine v_if_ne (pc := 6) (tgt := 13) hC dX0_isRight_6 (by decide) h (fun h => ?_) (fun h => ?_)
  · skip
    refine v_iconst (pc := 13) (v := 0) hC dX0_isRight_13 (by decide) ?_
    exact v_zret (pc := 14) hC dX0_isRight_14 (Or.inl rfl) ⟨Or.inl rfl, rfl, h⟩
  · skip
    refine v_iconst (pc := 9) (v := 1) hC dX0_isRight_9 (by decide) ?_
    refine v_goto (pc := 10) (tgt := 14) hC dX0_isRight_10 (by decide) ?_
    exact v_zret (pc := 14) hC dX0_isRight_14 (Or.inr rfl) ⟨Or.inr rfl, rfl, h⟩
def rm_X0_passesAs : Room := { frames := 0, cells := 0, slots := 0, locals := 0 }
def wp_X0_passesAs (k0 : Nat) (x1 : Int32) (F : gS) (Q : Int32 → Prop) : Prop :=
  vp_in 0 7 ∧
  Nm (F (k0 + 2) (0 : Int32).toNatClampNeg) fun n1 =>
  if x1 = 0 then
    (Q 1)
  else
    (if x1 = n1 then
      (Q 1)
    else
      (vp_in n1 6 ∧
      if x1 = (gAbove.getD n1.toNatClampNeg 0) then
        (Q 1)
      else
        (Q 0)))
set_option maxRecDepth 20000 in
set_option maxHeartbeats 4000000 in
theorem c_X0_passesAs (l : Launch) (E : gE) {k0 : Nat} (hk0 : kd k0 = 0) {x1 : Int32} {F : gS} {Q : Int32 → Prop} (h : wp_X0_passesAs k0 x1 F Q) : CtI l E yX0_passesAs cX0_passesAs 3 (some .boolean) rm_X0_passesAs [.ref (ad E k0), .int x1] F (fun r G => (r = 0 ∨ r = 1) ∧ G = F ∧ Q r) := by
  refine ct_of (by decide) (Nat.le_of_ble_eq_true rfl) (fun p e s m below meth c hC => ?_)
  generalize ([.ref (ad E k0), .int x1] : List Value).toArray = args at hC ⊢
  refine v_sub (lv' := [(0, .ref (ad E k0)), (1, .int x1)]) [0, 1] rfl ?_
  unfold wp_X0_passesAs at h
  refine v_aload_n (pc := 0) hC dX0_passesAs_0 rfl 0 rfl ?_
  refine v_get (pc := 1) (v := .ref (ad E (k0 + 2))) hC fl_X0_15 hk0 rfl dX0_passesAs_1 ?_
  refine v_iconst (pc := 4) (v := 0) hC dX0_passesAs_4 (by decide) ?_
  refine v_iald (pc := 5) (n := 7) hC (kd_c2 hk0) (by decide) dX0_passesAs_5 h (fun h => ?_)
  refine v_nmi h (fun n1 h => ?_)
  refine v_istore_n (pc := 6) (lv' := [(2, .int n1), (0, .ref (ad E k0)), (1, .int x1)]) hC dX0_passesAs_6 rfl (by decide) rfl ?_
  refine v_iload_n (pc := 7) hC dX0_passesAs_7 rfl 2 rfl ?_
  refine v_if_eq (pc := 8) (tgt := 25) hC dX0_passesAs_8 (by decide) h (fun h => ?_) (fun h => ?_)
  · skip
    refine v_iconst (pc := 25) (v := 1) hC dX0_passesAs_25 (by decide) ?_
    refine v_goto (pc := 26) (tgt := 30) hC dX0_passesAs_26 (by decide) ?_
    exact v_zret (pc := 30) hC dX0_passesAs_30 (Or.inr rfl) ⟨Or.inr rfl, rfl, h⟩
  · skip
    refine v_iload_n (pc := 11) hC dX0_passesAs_11 rfl 2 rfl ?_
    refine v_iload_n (pc := 12) hC dX0_passesAs_12 rfl 0 rfl ?_
    refine v_ic_eq (pc := 13) (tgt := 25) hC dX0_passesAs_13 (by decide) h (fun h => ?_) (fun h => ?_)
    · skip
      refine v_iconst (pc := 25) (v := 1) hC dX0_passesAs_25 (by decide) ?_
      refine v_goto (pc := 26) (tgt := 30) hC dX0_passesAs_26 (by decide) ?_
      exact v_zret (pc := 30) hC dX0_passesAs_30 (Or.inr rfl) ⟨Or.inr rfl, rfl, h⟩
    · skip
      refine v_iload_n (pc := 16) hC dX0_passesAs_16 rfl 2 rfl ?_
      refine v_getsN (pc := 17) (v := .ref (E.2.2.2 2)) hC hC.2.2.2.2.2.1.2.2.2.1.2.2.1 fn_X0_18 dX0_passesAs_17 ?_
      refine v_iload_n (pc := 20) hC dX0_passesAs_20 rfl 0 rfl ?_
      refine v_tald (pc := 21) (f := fun j => gAbove.getD j 0) hC hC.2.2.2.2.2.1.2.2.2.1.2.2.2.1 dX0_passesAs_21 h (fun h => ?_)
      refine v_ic_ne (pc := 22) (tgt := 29) hC dX0_passesAs_22 (by decide) h (fun h => ?_) (fun h => ?_)
      · skip
        refine v_iconst (pc := 29) (v := 0) hC dX0_passesAs_29 (by decide) ?_
        exact v_zret (pc := 30) hC dX0_passesAs_30 (Or.inl rfl) ⟨Or.inl rfl, rfl, h⟩
      · skip
        refine v_iconst (pc := 25) (v := 1) hC dX0_passesAs_25 (by decide) ?_
        refine v_goto (pc := 26) (tgt := 30) hC dX0_passesAs_26 (by decide) ?_
        exact v_zret (pc := 30) hC dX0_passesAs_30 (Or.inr rfl) ⟨Or.inr rfl, rfl, h⟩
def rm_X0_measure : Room := { frames := 1, cells := 0, slots := 0, locals := 13 }
def wp_X0_measure_60 (k0 : Nat) (Q : gS → Prop) (F : gS) (x1 : Int32) (x2 : Int32) (x3 : Int32) : Prop :=
  if x3 ≤ 0 then
    (vp_in 3 7 ∧ Nm (upF F (k0 + 2) (3 : Int32).toNatClampNeg 0) fun F6 =>
    vp_in 4 7 ∧ Nm (upF F6 (k0 + 2) (4 : Int32).toNatClampNeg x3) fun F7 =>
    Q F7)
  else
    (vp_in 3 7 ∧ Nm (upF F (k0 + 2) (3 : Int32).toNatClampNeg (x2 - x1)) fun F8 =>
    vp_in 4 7 ∧ Nm (upF F8 (k0 + 2) (4 : Int32).toNatClampNeg x3) fun F9 =>
    Q F9)
def wb_X0_measure_10 (k0 : Nat) (Q : gS → Prop) (F : gS) (K10 : Int32 → Int32 → Int32 → Int32 → Prop) (x1 : Int32) (x2 : Int32) (x3 : Int32) (x4 : Int32) : Prop :=
  if 16 ≤ x4 then
    (wp_X0_measure_60 k0 Q F x1 x2 x3)
  else
    (vp_in x4 16 ∧
    if (F (k0 + 1) x4.toNatClampNeg) ≤ 0 then
      (Nm (x4 + 1) fun n1 =>
      K10 x1 x2 x3 n1)
    else
      (vp_in x4 16 ∧
      Nm (if (F (k0 + 1) x4.toNatClampNeg) < x1 then (F (k0 + 1) x4.toNatClampNeg) else x1) fun n2 =>
      vp_in x4 16 ∧
      Nm (if x2 < (F (k0 + 1) x4.toNatClampNeg) then (F (k0 + 1) x4.toNatClampNeg) else x2) fun n3 =>
      Nm (x3 + 1) fun n4 =>
      Nm (x4 + 1) fun n5 =>
      K10 n2 n3 n4 n5))
def wp_X0_measure (k0 : Nat) (F : gS) (Q : gS → Prop) : Prop :=
  LP4 (wb_X0_measure_10 k0 Q F) 61 0 0 0
set_option maxRecDepth 20000 in
set_option maxHeartbeats 4000000 in
theorem j_X0_measure_60 {p : Program} {l : Launch} {e : Env} {s : State} {m : MethodId} {args : Array Value} {below : List Frame} {meth : Method} {c : Code} {E : gE} (hC : CX p s m args meth c cX0_measure RX0 none E 5) {k0 : Nat} (hk0 : kd k0 = 0) {Q : gS → Prop} {F : gS} {x1 : Int32} {x2 : Int32} {x3 : Int32} (h : wp_X0_measure_60 k0 Q F x1 x2 x3) : VV p l e rm_X0_measure s m args below meth c 0 0 (MQ below (va_Qv Q (gB E) (gA E)) args s 0 0 (gA E)) E 5 F 60 [(0, .ref (ad E k0)), (1, .int x1), (2, .int x2), (3, .int x3)] [] := by
  unfold wp_X0_measure_60 at h
  refine v_aload_n (pc := 60) hC dX0_measure_60 rfl 0 rfl ?_
  refine v_get (pc := 61) (v := .ref (ad E (k0 + 2))) hC fl_X0_15 hk0 rfl dX0_measure_61 ?_
  refine v_iconst (pc := 64) (v := 3) hC dX0_measure_64 (by decide) ?_
  refine v_iload_n (pc := 65) hC dX0_measure_65 rfl 3 rfl ?_
  refine v_if_le (pc := 66) (tgt := 75) hC dX0_measure_66 (by decide) h (fun h => ?_) (fun h => ?_)
  · skip
    refine v_iconst (pc := 75) (v := 0) hC dX0_measure_75 (by decide) ?_
    refine v_iast (pc := 76) (n := 7) hC (kd_c2 hk0) (by decide) dX0_measure_76 h (fun F6 h => ?_)
    refine v_aload_n (pc := 77) hC dX0_measure_77 rfl 0 rfl ?_
    refine v_get (pc := 78) (v := .ref (ad E (k0 + 2))) hC fl_X0_15 hk0 rfl dX0_measure_78 ?_
    refine v_iconst (pc := 81) (v := 4) hC dX0_measure_81 (by decide) ?_
    refine v_iload_n (pc := 82) hC dX0_measure_82 rfl 3 rfl ?_
    refine v_iast (pc := 83) (n := 7) hC (kd_c2 hk0) (by decide) dX0_measure_83 h (fun F7 h => ?_)
    exact v_vret (pc := 84) hC dX0_measure_84 h
  · skip
    refine v_iload_n (pc := 69) hC dX0_measure_69 rfl 2 rfl ?_
    refine v_iload_n (pc := 70) hC dX0_measure_70 rfl 1 rfl ?_
    refine v_isub (pc := 71) hC dX0_measure_71 ?_
    refine v_goto (pc := 72) (tgt := 76) hC dX0_measure_72 (by decide) ?_
    refine v_iast (pc := 76) (n := 7) hC (kd_c2 hk0) (by decide) dX0_measure_76 h (fun F8 h => ?_)
    refine v_aload_n (pc := 77) hC dX0_measure_77 rfl 0 rfl ?_
    refine v_get (pc := 78) (v := .ref (ad E (k0 + 2))) hC fl_X0_15 hk0 rfl dX0_measure_78 ?_
    refine v_iconst (pc := 81) (v := 4) hC dX0_measure_81 (by decide) ?_
    refine v_iload_n (pc := 82) hC dX0_measure_82 rfl 3 rfl ?_
    refine v_iast (pc := 83) (n := 7) hC (kd_c2 hk0) (by decide) dX0_measure_83 h (fun F9 h => ?_)
    exact v_vret (pc := 84) hC dX0_measure_84 h
set_option maxRecDepth 20000 in
set_option maxHeartbeats 4000000 in
theorem jb_X0_measure_10 {p : Program} {l : Launch} {e : Env} {s : State} {m : MethodId} {args : Array Value} {below : List Frame} {meth : Method} {c : Code} {E : gE} (hC : CX p s m args meth c cX0_measure RX0 none E 5) {k0 : Nat} (hk0 : kd k0 = 0) {Q : gS → Prop} {F : gS} {x1 : Int32} {x2 : Int32} {x3 : Int32} {x4 : Int32} {K10 : Int32 → Int32 → Int32 → Int32 → Prop} (hK10 : ∀ (x1 : Int32) (x2 : Int32) (x3 : Int32) (x4 : Int32), K10 x1 x2 x3 x4 → VV p l e rm_X0_measure s m args below meth c 0 0 (MQ below (va_Qv Q (gB E) (gA E)) args s 0 0 (gA E)) E 5 F 10 [(0, .ref (ad E k0)), (1, .int x1), (2, .int x2), (3, .int x3), (4, .int x4)] []) (h : wb_X0_measure_10 k0 Q F K10 x1 x2 x3 x4) : VV p l e rm_X0_measure s m args below meth c 0 0 (MQ below (va_Qv Q (gB E) (gA E)) args s 0 0 (gA E)) E 5 F 10 [(0, .ref (ad E k0)), (1, .int x1), (2, .int x2), (3, .int x3), (4, .int x4)] [] := by
  unfold wb_X0_measure_10 at h
  refine v_iload (pc := 10) hC dX0_measure_10 4 rfl ?_
  refine v_bipush (pc := 12) (v := 16) hC dX0_measure_12 (by decide) ?_
  refine v_ic_ge (pc := 14) (tgt := 60) hC dX0_measure_14 (by decide) h (fun h => ?_) (fun h => ?_)
  · skip
    exact v_sub [0, 1, 2, 3] rfl (j_X0_measure_60 hC hk0 h)
  · skip
    refine v_aload_n (pc := 17) hC dX0_measure_17 rfl 0 rfl ?_
    refine v_get (pc := 18) (v := .ref (ad E (k0 + 1))) hC fl_X0_9 hk0 rfl dX0_measure_18 ?_
    refine v_iload (pc := 21) hC dX0_measure_21 4 rfl ?_
    refine v_iald (pc := 23) (n := 16) hC (kd_c1 hk0) (by decide) dX0_measure_23 h (fun h => ?_)
    refine v_if_le (pc := 24) (tgt := 54) hC dX0_measure_24 (by decide) h (fun h => ?_) (fun h => ?_)
    · skip
      refine v_iinc (pc := 54) (v := 1) hC (fun z => [(4, .int z), (0, .ref (ad E k0)), (1, .int x1), (2, .int x2), (3, .int x3)]) dX0_measure_54 4 rfl (by decide) (by decide) (fun _ => rfl) h (fun n1 h => ?_)
      refine v_goto (pc := 57) (tgt := 10) hC dX0_measure_57 (by decide) ?_
      exact v_sub [1, 2, 3, 4, 0] rfl (hK10 _ _ _ _ h)
    · skip
      refine v_iload_n (pc := 27) hC dX0_measure_27 rfl 1 rfl ?_
      refine v_aload_n (pc := 28) hC dX0_measure_28 rfl 0 rfl ?_
      refine v_get (pc := 29) (v := .ref (ad E (k0 + 1))) hC fl_X0_9 hk0 rfl dX0_measure_29 ?_
      refine v_iload (pc := 32) hC dX0_measure_32 4 rfl ?_
      refine v_iald (pc := 34) (n := 16) hC (kd_c1 hk0) (by decide) dX0_measure_34 h (fun h => ?_)
      refine v_min (pc := 35) hC mmin_X0_21 mmin_s in_Math mmin_c ⟨Nat.le_of_ble_eq_true rfl, Nat.le_of_ble_eq_true rfl⟩ ⟨Nat.zero_le _, Nat.zero_le _⟩ dX0_measure_35 ?_
      refine v_nmi h (fun n2 h => ?_)
      refine v_istore_n (pc := 38) (lv' := [(1, .int n2), (0, .ref (ad E k0)), (2, .int x2), (3, .int x3), (4, .int x4)]) hC dX0_measure_38 rfl (by decide) rfl ?_
      refine v_iload_n (pc := 39) hC dX0_measure_39 rfl 2 rfl ?_
      refine v_aload_n (pc := 40) hC dX0_measure_40 rfl 1 rfl ?_
      refine v_get (pc := 41) (v := .ref (ad E (k0 + 1))) hC fl_X0_9 hk0 rfl dX0_measure_41 ?_
      refine v_iload (pc := 44) hC dX0_measure_44 4 rfl ?_
      refine v_iald (pc := 46) (n := 16) hC (kd_c1 hk0) (by decide) dX0_measure_46 h (fun h => ?_)
      refine v_max (pc := 47) hC mmax_X0_27 mmax_s in_Math mmax_c ⟨Nat.le_of_ble_eq_true rfl, Nat.le_of_ble_eq_true rfl⟩ ⟨Nat.zero_le _, Nat.zero_le _⟩ dX0_measure_47 ?_
      refine v_nmi h (fun n3 h => ?_)
      refine v_istore_n (pc := 50) (lv' := [(2, .int n3), (1, .int n2), (0, .ref (ad E k0)), (3, .int x3), (4, .int x4)]) hC dX0_measure_50 rfl (by decide) rfl ?_
      refine v_iinc (pc := 51) (v := 1) hC (fun z => [(3, .int z), (2, .int n3), (1, .int n2), (0, .ref (ad E k0)), (4, .int x4)]) dX0_measure_51 3 rfl (by decide) (by decide) (fun _ => rfl) h (fun n4 h => ?_)
      refine v_iinc (pc := 54) (v := 1) hC (fun z => [(4, .int z), (3, .int n4), (2, .int n3), (1, .int n2), (0, .ref (ad E k0))]) dX0_measure_54 4 rfl (by decide) (by decide) (fun _ => rfl) h (fun n5 h => ?_)
      refine v_goto (pc := 57) (tgt := 10) hC dX0_measure_57 (by decide) ?_
      exact v_sub [4, 3, 2, 1, 0] rfl (hK10 _ _ _ _ h)
set_option maxRecDepth 20000 in
set_option maxHeartbeats 4000000 in
theorem jl_X0_measure_10 {p : Program} {l : Launch} {e : Env} {s : State} {m : MethodId} {args : Array Value} {below : List Frame} {meth : Method} {c : Code} {E : gE} (hC : CX p s m args meth c cX0_measure RX0 none E 5) {k0 : Nat} (hk0 : kd k0 = 0) {Q : gS → Prop} {F : gS} {x1 : Int32} {x2 : Int32} {x3 : Int32} {x4 : Int32} (h : LP4 (wb_X0_measure_10 k0 Q F) x1 x2 x3 x4) : VV p l e rm_X0_measure s m args below meth c 0 0 (MQ below (va_Qv Q (gB E) (gA E)) args s 0 0 (gA E)) E 5 F 10 [(0, .ref (ad E k0)), (1, .int x1), (2, .int x2), (3, .int x3), (4, .int x4)] [] :=
  LP4_go (V := fun (x1 : Int32) (x2 : Int32) (x3 : Int32) (x4 : Int32) => VV p l e rm_X0_measure s m args below meth c 0 0 (MQ below (va_Qv Q (gB E) (gA E)) args s 0 0 (gA E)) E 5 F 10 [(0, .ref (ad E k0)), (1, .int x1), (2, .int x2), (3, .int x3), (4, .int x4)] []) (fun K10 hK10 x1 x2 x3 x4 h => jb_X0_measure_10 hC hk0 hK10 h) x1 x2 x3 x4 h
set_option maxRecDepth 20000 in
set_option maxHeartbeats 4000000 in
theorem c_X0_measure (l : Launch) (E : gE) {k0 : Nat} (hk0 : kd k0 = 0) {F : gS} {Q : gS → Prop} (h : wp_X0_measure k0 F Q) : CtV l E yX0_measure cX0_measure 5 none rm_X0_measure [.ref (ad E k0)] F Q := by
  refine ct_of (by decide) (Nat.le_of_ble_eq_true rfl) (fun p e s m below meth c hC => ?_)
  generalize ([.ref (ad E k0)] : List Value).toArray = args at hC ⊢
  refine v_sub (lv' := [(0, .ref (ad E k0))]) [0] rfl ?_
  unfold wp_X0_measure at h
  refine v_bipush (pc := 0) (v := 61) hC dX0_measure_0 (by decide) ?_
  refine v_istore_n (pc := 2) (lv' := [(1, .int 61), (0, .ref (ad E k0))]) hC dX0_measure_2 rfl (by decide) rfl ?_
  refine v_iconst (pc := 3) (v := 0) hC dX0_measure_3 (by decide) ?_
  refine v_istore_n (pc := 4) (lv' := [(2, .int 0), (1, .int 61), (0, .ref (ad E k0))]) hC dX0_measure_4 rfl (by decide) rfl ?_
  refine v_iconst (pc := 5) (v := 0) hC dX0_measure_5 (by decide) ?_
  refine v_istore_n (pc := 6) (lv' := [(3, .int 0), (2, .int 0), (1, .int 61), (0, .ref (ad E k0))]) hC dX0_measure_6 rfl (by decide) rfl ?_
  refine v_iconst (pc := 7) (v := 0) hC dX0_measure_7 (by decide) ?_
  refine v_istore (pc := 8) (lv' := [(4, .int 0), (3, .int 0), (2, .int 0), (1, .int 61), (0, .ref (ad E k0))]) hC dX0_measure_8 (by decide) rfl ?_
  exact v_sub [4, 3, 2, 1, 0] rfl (jl_X0_measure_10 hC hk0 h)
def rm_X0_kindNow : Room := { frames := 0, cells := 0, slots := 0, locals := 0 }
def wp_X0_kindNow (k0 : Nat) (F : gS) (Q : Int32 → Prop) : Prop :=
  vp_in 5 7 ∧
  if (F (k0 + 2) (5 : Int32).toNatClampNeg) ≤ 0 then
    (vp_in 3 7 ∧
    if (F (k0 + 2) (3 : Int32).toNatClampNeg) ≤ 9 then
      (vp_in 1 7 ∧
      Nm (F (k0 + 2) (1 : Int32).toNatClampNeg) fun n1 =>
      if 20 ≤ n1 then
        (if n1 ≤ 100 then
          (if n1 ≤ 60 then
            (Q 0)
          else
            (Q 2))
        else
          (Q 3))
      else
        (Q 1))
    else
      (Q 4))
  else
    (Q 5)
set_option maxRecDepth 20000 in
set_option maxHeartbeats 4000000 in
theorem c_X0_kindNow (l : Launch) (E : gE) {k0 : Nat} (hk0 : kd k0 = 0) {F : gS} {Q : Int32 → Prop} (h : wp_X0_kindNow k0 F Q) : CtI l E yX0_kindNow cX0_kindNow 2 (some .int) rm_X0_kindNow [.ref (ad E k0)] F (fun r G => G = F ∧ Q r) := by
  refine ct_of (by decide) (Nat.le_of_ble_eq_true rfl) (fun p e s m below meth c hC => ?_)
  generalize ([.ref (ad E k0)] : List Value).toArray = args at hC ⊢
  refine v_sub (lv' := [(0, .ref (ad E k0))]) [0] rfl ?_
  unfold wp_X0_kindNow at h
  refine v_aload_n (pc := 0) hC dX0_kindNow_0 rfl 0 rfl ?_
  refine v_get (pc := 1) (v := .ref (ad E (k0 + 2))) hC fl_X0_15 hk0 rfl dX0_kindNow_1 ?_
  refine v_iconst (pc := 4) (v := 5) hC dX0_kindNow_4 (by decide) ?_
  refine v_iald (pc := 5) (n := 7) hC (kd_c2 hk0) (by decide) dX0_kindNow_5 h (fun h => ?_)
  refine v_if_le (pc := 6) (tgt := 11) hC dX0_kindNow_6 (by decide) h (fun h => ?_) (fun h => ?_)
  · skip
    refine v_aload_n (pc := 11) hC dX0_kindNow_11 rfl 0 rfl ?_
    refine v_get (pc := 12) (v := .ref (ad E (k0 + 2))) hC fl_X0_15 hk0 rfl dX0_kindNow_12 ?_
    refine v_iconst (pc := 15) (v := 3) hC dX0_kindNow_15 (by decide) ?_
    refine v_iald (pc := 16) (n := 7) hC (kd_c2 hk0) (by decide) dX0_kindNow_16 h (fun h => ?_)
    refine v_bipush (pc := 17) (v := 9) hC dX0_kindNow_17 (by decide) ?_
    refine v_ic_le (pc := 19) (tgt := 24) hC dX0_kindNow_19 (by decide) h (fun h => ?_) (fun h => ?_)
    · skip
      refine v_aload_n (pc := 24) hC dX0_kindNow_24 rfl 0 rfl ?_
      refine v_get (pc := 25) (v := .ref (ad E (k0 + 2))) hC fl_X0_15 hk0 rfl dX0_kindNow_25 ?_
      refine v_iconst (pc := 28) (v := 1) hC dX0_kindNow_28 (by decide) ?_
      refine v_iald (pc := 29) (n := 7) hC (kd_c2 hk0) (by decide) dX0_kindNow_29 h (fun h => ?_)
      refine v_nmi h (fun n1 h => ?_)
      refine v_istore_n (pc := 30) (lv' := [(1, .int n1), (0, .ref (ad E k0))]) hC dX0_kindNow_30 rfl (by decide) rfl ?_
      refine v_iload_n (pc := 31) hC dX0_kindNow_31 rfl 0 rfl ?_
      refine v_bipush (pc := 32) (v := 20) hC dX0_kindNow_32 (by decide) ?_
      refine v_ic_ge (pc := 34) (tgt := 39) hC dX0_kindNow_34 (by decide) h (fun h => ?_) (fun h => ?_)
      · skip
        refine v_iload_n (pc := 39) hC dX0_kindNow_39 rfl 0 rfl ?_
        refine v_bipush (pc := 40) (v := 100) hC dX0_kindNow_40 (by decide) ?_
        refine v_ic_le (pc := 42) (tgt := 49) hC dX0_kindNow_42 (by decide) h (fun h => ?_) (fun h => ?_)
        · skip
          refine v_iload_n (pc := 49) hC dX0_kindNow_49 rfl 0 rfl ?_
          refine v_bipush (pc := 50) (v := 60) hC dX0_kindNow_50 (by decide) ?_
          refine v_ic_le (pc := 52) (tgt := 59) hC dX0_kindNow_52 (by decide) h (fun h => ?_) (fun h => ?_)
          · skip
            refine v_iconst (pc := 59) (v := 0) hC dX0_kindNow_59 (by decide) ?_
            exact v_iret (pc := 60) hC dX0_kindNow_60 ⟨rfl, h⟩
          · skip
            refine v_iconst (pc := 55) (v := 2) hC dX0_kindNow_55 (by decide) ?_
            refine v_goto (pc := 56) (tgt := 60) hC dX0_kindNow_56 (by decide) ?_
            exact v_iret (pc := 60) hC dX0_kindNow_60 ⟨rfl, h⟩
        · skip
          refine v_iconst (pc := 45) (v := 3) hC dX0_kindNow_45 (by decide) ?_
          refine v_goto (pc := 46) (tgt := 60) hC dX0_kindNow_46 (by decide) ?_
          exact v_iret (pc := 60) hC dX0_kindNow_60 ⟨rfl, h⟩
      · skip
        refine v_iconst (pc := 37) (v := 1) hC dX0_kindNow_37 (by decide) ?_
        exact v_iret (pc := 38) hC dX0_kindNow_38 ⟨rfl, h⟩
    · skip
      refine v_iconst (pc := 22) (v := 4) hC dX0_kindNow_22 (by decide) ?_
      exact v_iret (pc := 23) hC dX0_kindNow_23 ⟨rfl, h⟩
  · skip
    refine v_iconst (pc := 9) (v := 5) hC dX0_kindNow_9 (by decide) ?_
    exact v_iret (pc := 10) hC dX0_kindNow_10 ⟨rfl, h⟩
def rm_X0_judge : Room := { frames := 2, cells := 0, slots := 0, locals := 37 }
def wp_X0_judge (k0 : Nat) (x1 : Int32) (x2 : Int32) (x3 : Int32) (F : gS) (Q : gS → Prop) : Prop :=
  wp_X0_measure k0 F fun F1 =>
  vp_in 4 7 ∧
  Nm (if (1 : Int32) < (F1 (k0 + 2) (4 : Int32).toNatClampNeg) then (F1 (k0 + 2) (4 : Int32).toNatClampNeg) else 1) fun n2 =>
  ¬ n2 = 0 ∧
  vp_in 1 7 ∧ Nm (upF F1 (k0 + 2) (1 : Int32).toNatClampNeg (x1 / n2)) fun F3 =>
  ¬ n2 = 0 ∧
  vp_in 2 7 ∧ Nm (upF F3 (k0 + 2) (2 : Int32).toNatClampNeg (x2 / n2)) fun F4 =>
  vp_in 5 7 ∧ Nm (upF F4 (k0 + 2) (5 : Int32).toNatClampNeg x3) fun F5 =>
  wp_X0_kindNow k0 F5 fun r6 =>
  vp_in 0 7 ∧ Nm (upF F5 (k0 + 2) (0 : Int32).toNatClampNeg r6) fun F7 =>
  vp_in 0 7 ∧
  vp_in (F7 (k0 + 2) (0 : Int32).toNatClampNeg) 6 ∧
  vp_in 6 7 ∧ Nm (upF F7 (k0 + 2) (6 : Int32).toNatClampNeg (gWorth.getD (F7 (k0 + 2) (0 : Int32).toNatClampNeg).toNatClampNeg 0)) fun F8 =>
  Q F8
set_option maxRecDepth 20000 in
set_option maxHeartbeats 4000000 in
theorem c_X0_judge (l : Launch) (E : gE) {k0 : Nat} (hk0 : kd k0 = 0) {x1 : Int32} {x2 : Int32} {x3 : Int32} {F : gS} {Q : gS → Prop} (h : wp_X0_judge k0 x1 x2 x3 F Q) : CtV l E yX0_judge cX0_judge 5 none rm_X0_judge [.ref (ad E k0), .int x1, .int x2, .int x3] F Q := by
  refine ct_of (by decide) (Nat.le_of_ble_eq_true rfl) (fun p e s m below meth c hC => ?_)
  generalize ([.ref (ad E k0), .int x1, .int x2, .int x3] : List Value).toArray = args at hC ⊢
  refine v_sub (lv' := [(0, .ref (ad E k0)), (1, .int x1), (2, .int x2), (3, .int x3)]) [0, 1, 2, 3] rfl ?_
  unfold wp_X0_judge at h
  refine v_aload_n (pc := 0) hC dX0_judge_0 rfl 0 rfl ?_
  refine v_cv (pc := 1) (r_V (rest := []) hC ml_X0_30 mv_X0_measure (c_X0_measure l E hk0 h) ⟨rfl, rfl⟩ ⟨Nat.le_of_ble_eq_true rfl, Nat.le_of_ble_eq_true rfl⟩ hk0 rfl (by decide) rfl rfl (Nat.le_of_ble_eq_true rfl) ⟨Nat.zero_le _, Nat.zero_le _⟩ dX0_judge_1) (fun F1 h => ?_)
  refine v_iconst (pc := 4) (v := 1) hC dX0_judge_4 (by decide) ?_
  refine v_aload_n (pc := 5) hC dX0_judge_5 rfl 0 rfl ?_
  refine v_get (pc := 6) (v := .ref (ad E (k0 + 2))) hC fl_X0_15 hk0 rfl dX0_judge_6 ?_
  refine v_iconst (pc := 9) (v := 4) hC dX0_judge_9 (by decide) ?_
  refine v_iald (pc := 10) (n := 7) hC (kd_c2 hk0) (by decide) dX0_judge_10 h (fun h => ?_)
  refine v_max (pc := 11) hC mmax_X0_27 mmax_s in_Math mmax_c ⟨Nat.le_of_ble_eq_true rfl, Nat.le_of_ble_eq_true rfl⟩ ⟨Nat.zero_le _, Nat.zero_le _⟩ dX0_judge_11 ?_
  refine v_nmi h (fun n2 h => ?_)
  refine v_istore (pc := 14) (lv' := [(4, .int n2), (0, .ref (ad E k0)), (1, .int x1), (2, .int x2), (3, .int x3)]) hC dX0_judge_14 (by decide) rfl ?_
  refine v_aload_n (pc := 16) hC dX0_judge_16 rfl 1 rfl ?_
  refine v_get (pc := 17) (v := .ref (ad E (k0 + 2))) hC fl_X0_15 hk0 rfl dX0_judge_17 ?_
  refine v_iconst (pc := 20) (v := 1) hC dX0_judge_20 (by decide) ?_
  refine v_iload_n (pc := 21) hC dX0_judge_21 rfl 2 rfl ?_
  refine v_iload (pc := 22) hC dX0_judge_22 0 rfl ?_
  refine v_idiv (pc := 24) hC dX0_judge_24 h (fun h => ?_)
  refine v_iast (pc := 25) (n := 7) hC (kd_c2 hk0) (by decide) dX0_judge_25 h (fun F3 h => ?_)
  refine v_aload_n (pc := 26) hC dX0_judge_26 rfl 1 rfl ?_
  refine v_get (pc := 27) (v := .ref (ad E (k0 + 2))) hC fl_X0_15 hk0 rfl dX0_judge_27 ?_
  refine v_iconst (pc := 30) (v := 2) hC dX0_judge_30 (by decide) ?_
  refine v_iload_n (pc := 31) hC dX0_judge_31 rfl 3 rfl ?_
  refine v_iload (pc := 32) hC dX0_judge_32 0 rfl ?_
  refine v_idiv (pc := 34) hC dX0_judge_34 h (fun h => ?_)
  refine v_iast (pc := 35) (n := 7) hC (kd_c2 hk0) (by decide) dX0_judge_35 h (fun F4 h => ?_)
  refine v_aload_n (pc := 36) hC dX0_judge_36 rfl 1 rfl ?_
  refine v_get (pc := 37) (v := .ref (ad E (k0 + 2))) hC fl_X0_15 hk0 rfl dX0_judge_37 ?_
  refine v_iconst (pc := 40) (v := 5) hC dX0_judge_40 (by decide) ?_
  refine v_iload_n (pc := 41) hC dX0_judge_41 rfl 4 rfl ?_
  refine v_iast (pc := 42) (n := 7) hC (kd_c2 hk0) (by decide) dX0_judge_42 h (fun F5 h => ?_)
  refine v_aload_n (pc := 43) hC dX0_judge_43 rfl 1 rfl ?_
  refine v_get (pc := 44) (v := .ref (ad E (k0 + 2))) hC fl_X0_15 hk0 rfl dX0_judge_44 ?_
  refine v_iconst (pc := 47) (v := 0) hC dX0_judge_47 (by decide) ?_
  refine v_aload_n (pc := 48) hC dX0_judge_48 rfl 1 rfl ?_
  refine v_cip (pc := 49) (r_V (rest := [.int 0, .ref (ad E (k0 + 2))]) hC ml_X0_33 mv_X0_kindNow (c_X0_kindNow l E hk0 h) ⟨rfl, rfl⟩ ⟨Nat.le_of_ble_eq_true rfl, Nat.le_of_ble_eq_true rfl⟩ hk0 rfl (by decide) rfl rfl (Nat.le_of_ble_eq_true rfl) ⟨Nat.zero_le _, Nat.zero_le _⟩ dX0_judge_49) (fun r6 h => ?_)
  refine v_iast (pc := 52) (n := 7) hC (kd_c2 hk0) (by decide) dX0_judge_52 h (fun F7 h => ?_)
  refine v_aload_n (pc := 53) hC dX0_judge_53 rfl 1 rfl ?_
  refine v_get (pc := 54) (v := .ref (ad E (k0 + 2))) hC fl_X0_15 hk0 rfl dX0_judge_54 ?_
  refine v_bipush (pc := 57) (v := 6) hC dX0_judge_57 (by decide) ?_
  refine v_getsN (pc := 59) (v := .ref (E.2.2.2 1)) hC hC.2.2.2.2.2.1.2.2.2.1.1 fn_X0_37 dX0_judge_59 ?_
  refine v_aload_n (pc := 62) hC dX0_judge_62 rfl 1 rfl ?_
  refine v_get (pc := 63) (v := .ref (ad E (k0 + 2))) hC fl_X0_15 hk0 rfl dX0_judge_63 ?_
  refine v_iconst (pc := 66) (v := 0) hC dX0_judge_66 (by decide) ?_
  refine v_iald (pc := 67) (n := 7) hC (kd_c2 hk0) (by decide) dX0_judge_67 h (fun h => ?_)
  refine v_tald (pc := 68) (f := fun j => gWorth.getD j 0) hC hC.2.2.2.2.2.1.2.2.2.1.2.1 dX0_judge_68 h (fun h => ?_)
  refine v_iast (pc := 69) (n := 7) hC (kd_c2 hk0) (by decide) dX0_judge_69 h (fun F8 h => ?_)
  exact v_vret (pc := 70) hC dX0_judge_70 h
def rm_X3_longestWanting : Room := { frames := 0, cells := 0, slots := 0, locals := 0 }
def wb_X3_longestWanting_4 (Q : Int32 → Prop) (F : gS) (x1 : Int32) (K4 : Int32 → Int32 → Prop) (x2 : Int32) (x3 : Int32) : Prop :=
  if x1 ≤ x3 then
    (Q x2)
  else
    (vp_in x3 9 ∧
    vp_in x2 9 ∧
    if (F 35 x2.toNatClampNeg) ≤ (F 35 x3.toNatClampNeg) then
      (Nm (x3 + 1) fun n1 =>
      K4 x2 n1)
    else
      (Nm (x3 + 1) fun n2 =>
      K4 x3 n2))
def wp_X3_longestWanting (x1 : Int32) (F : gS) (Q : Int32 → Prop) : Prop :=
  LP2 (wb_X3_longestWanting_4 Q F x1) 0 1
set_option maxRecDepth 20000 in
set_option maxHeartbeats 4000000 in
theorem jb_X3_longestWanting_4 {p : Program} {l : Launch} {e : Env} {s : State} {m : MethodId} {args : Array Value} {below : List Frame} {meth : Method} {c : Code} {E : gE} (hC : CX p s m args meth c cX3_longestWanting RX3 (some .int) E 4) {Q : Int32 → Prop} {F : gS} {x1 : Int32} {x2 : Int32} {x3 : Int32} {K4 : Int32 → Int32 → Prop} (hK4 : ∀ (x2 : Int32) (x3 : Int32), K4 x2 x3 → VV p l e rm_X3_longestWanting s m args below meth c 0 0 (MQ below (va_Qi (fun r G => G = F ∧ Q r) (gB E) (gA E)) args s 0 0 (gA E)) E 4 F 4 [(0, .ref (ad E 34)), (1, .int x1), (2, .int x2), (3, .int x3)] []) (h : wb_X3_longestWanting_4 Q F x1 K4 x2 x3) : VV p l e rm_X3_longestWanting s m args below meth c 0 0 (MQ below (va_Qi (fun r G => G = F ∧ Q r) (gB E) (gA E)) args s 0 0 (gA E)) E 4 F 4 [(0, .ref (ad E 34)), (1, .int x1), (2, .int x2), (3, .int x3)] [] := by
  unfold wb_X3_longestWanting_4 at h
  refine v_iload_n (pc := 4) hC dX3_longestWanting_4 rfl 3 rfl ?_
  refine v_iload_n (pc := 5) hC dX3_longestWanting_5 rfl 1 rfl ?_
  refine v_ic_ge (pc := 6) (tgt := 32) hC dX3_longestWanting_6 (by decide) h (fun h => ?_) (fun h => ?_)
  · skip
    refine v_iload_n (pc := 32) hC dX3_longestWanting_32 rfl 2 rfl ?_
    exact v_iret (pc := 33) hC dX3_longestWanting_33 ⟨rfl, h⟩
  · skip
    refine v_aload_n (pc := 9) hC dX3_longestWanting_9 rfl 0 rfl ?_
    refine v_get (pc := 10) (v := .ref (ad E 35)) hC fl_X3_9 kq_34 rfl dX3_longestWanting_10 ?_
    refine v_iload_n (pc := 13) hC dX3_longestWanting_13 rfl 3 rfl ?_
    refine v_iald (pc := 14) (n := 9) hC kq_35 (by decide) dX3_longestWanting_14 h (fun h => ?_)
    refine v_aload_n (pc := 15) hC dX3_longestWanting_15 rfl 0 rfl ?_
    refine v_get (pc := 16) (v := .ref (ad E 35)) hC fl_X3_9 kq_34 rfl dX3_longestWanting_16 ?_
    refine v_iload_n (pc := 19) hC dX3_longestWanting_19 rfl 2 rfl ?_
    refine v_iald (pc := 20) (n := 9) hC kq_35 (by decide) dX3_longestWanting_20 h (fun h => ?_)
    refine v_ic_ge (pc := 21) (tgt := 26) hC dX3_longestWanting_21 (by decide) h (fun h => ?_) (fun h => ?_)
    · skip
      refine v_iinc (pc := 26) (v := 1) hC (fun z => [(3, .int z), (0, .ref (ad E 34)), (1, .int x1), (2, .int x2)]) dX3_longestWanting_26 3 rfl (by decide) (by decide) (fun _ => rfl) h (fun n1 h => ?_)
      refine v_goto (pc := 29) (tgt := 4) hC dX3_longestWanting_29 (by decide) ?_
      exact v_sub [1, 2, 3, 0] rfl (hK4 _ _ h)
    · skip
      refine v_iload_n (pc := 24) hC dX3_longestWanting_24 rfl 3 rfl ?_
      refine v_istore_n (pc := 25) (lv' := [(2, .int x3), (0, .ref (ad E 34)), (1, .int x1), (3, .int x3)]) hC dX3_longestWanting_25 rfl (by decide) rfl ?_
      refine v_iinc (pc := 26) (v := 1) hC (fun z => [(3, .int z), (2, .int x3), (0, .ref (ad E 34)), (1, .int x1)]) dX3_longestWanting_26 3 rfl (by decide) (by decide) (fun _ => rfl) h (fun n2 h => ?_)
      refine v_goto (pc := 29) (tgt := 4) hC dX3_longestWanting_29 (by decide) ?_
      exact v_sub [2, 3, 1, 0] rfl (hK4 _ _ h)
set_option maxRecDepth 20000 in
set_option maxHeartbeats 4000000 in
theorem jl_X3_longestWanting_4 {p : Program} {l : Launch} {e : Env} {s : State} {m : MethodId} {args : Array Value} {below : List Frame} {meth : Method} {c : Code} {E : gE} (hC : CX p s m args meth c cX3_longestWanting RX3 (some .int) E 4) {Q : Int32 → Prop} {F : gS} {x1 : Int32} {x2 : Int32} {x3 : Int32} (h : LP2 (wb_X3_longestWanting_4 Q F x1) x2 x3) : VV p l e rm_X3_longestWanting s m args below meth c 0 0 (MQ below (va_Qi (fun r G => G = F ∧ Q r) (gB E) (gA E)) args s 0 0 (gA E)) E 4 F 4 [(0, .ref (ad E 34)), (1, .int x1), (2, .int x2), (3, .int x3)] [] :=
  LP2_go (V := fun (x2 : Int32) (x3 : Int32) => VV p l e rm_X3_longestWanting s m args below meth c 0 0 (MQ below (va_Qi (fun r G => G = F ∧ Q r) (gB E) (gA E)) args s 0 0 (gA E)) E 4 F 4 [(0, .ref (ad E 34)), (1, .int x1), (2, .int x2), (3, .int x3)] []) (fun K4 hK4 x2 x3 h => jb_X3_longestWanting_4 hC hK4 h) x2 x3 h
set_option maxRecDepth 20000 in
set_option maxHeartbeats 4000000 in
theorem c_X3_longestWanting (l : Launch) (E : gE) {x1 : Int32} {F : gS} {Q : Int32 → Prop} (h : wp_X3_longestWanting x1 F Q) : CtI l E yX3_longestWanting cX3_longestWanting 4 (some .int) rm_X3_longestWanting [.ref (ad E 34), .int x1] F (fun r G => G = F ∧ Q r) := by
  refine ct_of (by decide) (Nat.le_of_ble_eq_true rfl) (fun p e s m below meth c hC => ?_)
  generalize ([.ref (ad E 34), .int x1] : List Value).toArray = args at hC ⊢
  refine v_sub (lv' := [(0, .ref (ad E 34)), (1, .int x1)]) [0, 1] rfl ?_
  unfold wp_X3_longestWanting at h
  refine v_iconst (pc := 0) (v := 0) hC dX3_longestWanting_0 (by decide) ?_
  refine v_istore_n (pc := 1) (lv' := [(2, .int 0), (0, .ref (ad E 34)), (1, .int x1)]) hC dX3_longestWanting_1 rfl (by decide) rfl ?_
  refine v_iconst (pc := 2) (v := 1) hC dX3_longestWanting_2 (by decide) ?_
  refine v_istore_n (pc := 3) (lv' := [(3, .int 1), (2, .int 0), (0, .ref (ad E 34)), (1, .int x1)]) hC dX3_longestWanting_3 rfl (by decide) rfl ?_
  exact v_sub [2, 3, 1, 0] rfl (jl_X3_longestWanting_4 hC h)
def rm_X3_work : Room := { frames := 1, cells := 0, slots := 0, locals := 23 }
def wp_X3_work_164 (K32 : gS → Int32 → Int32 → Prop) (Q : gS → Prop) (F : gS) (x1 : Int32) (x2 : Int32) (x3 : Int32) (x4 : Int32) (x5 : Int32) (x6 : Int32) (x7 : Int32) (x8 : Int32) (t0 : Int32) (t1 : Int32) (t2 : Int32) : Prop :=
  vp_in t2 9 ∧ Nm (upF F 35 t2.toNatClampNeg (t1 + t0)) fun F10 =>
  vp_in x8 9 ∧
  if (F10 36 x8.toNatClampNeg) = 2 then
    (vp_in x8 9 ∧ Nm (upF F10 36 x8.toNatClampNeg 0) fun F13 =>
    Nm (x7 + 1) fun n14 =>
    K32 F13 x6 n14)
  else
    (vp_in x8 9 ∧
    vp_in x8 9 ∧ Nm (upF F10 36 x8.toNatClampNeg ((F10 36 x8.toNatClampNeg) + 1)) fun F11 =>
    Nm (x7 + 1) fun n12 =>
    K32 F11 x6 n12)
def wp_X3_work_126 (K32 : gS → Int32 → Int32 → Prop) (Q : gS → Prop) (F : gS) (x1 : Int32) (x2 : Int32) (x3 : Int32) (x4 : Int32) (x5 : Int32) (x6 : Int32) (x7 : Int32) (x8 : Int32) : Prop :=
  vp_in x8 9 ∧
  if (F 36 x8.toNatClampNeg) = 0 then
    (wp_X3_work_164 K32 Q F x1 x2 x3 x4 x5 x6 x7 x8 x2 x6 x8)
  else
    (vp_in x8 9 ∧
    if (F 36 x8.toNatClampNeg) = 1 then
      (wp_X3_work_164 K32 Q F x1 x2 x3 x4 x5 x6 x7 x8 x3 x6 x8)
    else
      (wp_X3_work_164 K32 Q F x1 x2 x3 x4 x5 x6 x7 x8 0 x6 x8))
def wb_X3_work_32 (Q : gS → Prop) (x1 : Int32) (x2 : Int32) (x3 : Int32) (x4 : Int32) (x5 : Int32) (K32 : gS → Int32 → Int32 → Prop) (F : gS) (x6 : Int32) (x7 : Int32) : Prop :=
  if x5 ≤ x7 then
    (Q F)
  else
    (wp_X3_longestWanting x1 F fun r5 =>
    vp_in r5 9 ∧
    Nm (if x6 < (F 35 r5.toNatClampNeg) then (F 35 r5.toNatClampNeg) else x6) fun n6 =>
    if n6 < x5 then
      (vp_in r5 9 ∧
      Nm (upF F 34 3 (if (F 34 3) < (n6 - (F 35 r5.toNatClampNeg)) then (n6 - (F 35 r5.toNatClampNeg)) else (F 34 3))) fun F7 =>
      Nm (n6 + x4) fun n8 =>
      vp_in r5 9 ∧
      if (F7 36 r5.toNatClampNeg) = 2 then
        (if x5 < n8 then
          (wp_X3_work_126 K32 Q F7 x1 x2 x3 x4 x5 n8 x7 r5)
        else
          (Nm (upF F7 34 2 ((F7 34 2) + 1)) fun F9 =>
          wp_X3_work_126 K32 Q F9 x1 x2 x3 x4 x5 n8 x7 r5))
      else
        (wp_X3_work_126 K32 Q F7 x1 x2 x3 x4 x5 n8 x7 r5))
    else
      (Q F))
def wp_X3_work (x1 : Int32) (x2 : Int32) (x3 : Int32) (x4 : Int32) (x5 : Int32) (F : gS) (Q : gS → Prop) : Prop :=
  wp_J7_fill_53178_9 35 0 F fun F1 =>
  wp_J7_fill_53178_9 36 0 F1 fun F2 =>
  Nm (upF F2 34 2 0) fun F3 =>
  Nm (upF F3 34 3 0) fun F4 =>
  LP3 (wb_X3_work_32 Q x1 x2 x3 x4 x5) F4 0 0
set_option maxRecDepth 20000 in
set_option maxHeartbeats 4000000 in
theorem j_X3_work_164 {p : Program} {l : Launch} {e : Env} {s : State} {m : MethodId} {args : Array Value} {below : List Frame} {meth : Method} {c : Code} {E : gE} (hC : CX p s m args meth c cX3_work RX3 none E 10) {Q : gS → Prop} {F : gS} {x1 : Int32} {x2 : Int32} {x3 : Int32} {x4 : Int32} {x5 : Int32} {x6 : Int32} {x7 : Int32} {x8 : Int32} {t0 : Int32} {t1 : Int32} {t2 : Int32} {K32 : gS → Int32 → Int32 → Prop} (hK32 : ∀ (F : gS) (x6 : Int32) (x7 : Int32), K32 F x6 x7 → VV p l e rm_X3_work s m args below meth c 0 0 (MQ below (va_Qv Q (gB E) (gA E)) args s 0 0 (gA E)) E 10 F 32 [(0, .ref (ad E 34)), (1, .int x1), (2, .int x2), (3, .int x3), (4, .int x4), (5, .int x5), (6, .int x6), (7, .int x7)] []) (h : wp_X3_work_164 K32 Q F x1 x2 x3 x4 x5 x6 x7 x8 t0 t1 t2) : VV p l e rm_X3_work s m args below meth c 0 0 (MQ below (va_Qv Q (gB E) (gA E)) args s 0 0 (gA E)) E 10 F 164 [(0, .ref (ad E 34)), (1, .int x1), (2, .int x2), (3, .int x3), (4, .int x4), (5, .int x5), (6, .int x6), (7, .int x7), (8, .int x8)] [.int t0, .int t1, .int t2, .ref (ad E 35)] := by
  unfold wp_X3_work_164 at h
  refine v_iadd (pc := 164) hC dX3_work_164 ?_
  refine v_iast (pc := 165) (n := 9) hC kq_35 (by decide) dX3_work_165 h (fun F10 h => ?_)
  refine v_aload_n (pc := 166) hC dX3_work_166 rfl 0 rfl ?_
  refine v_get (pc := 167) (v := .ref (ad E 36)) hC fl_X3_15 kq_34 rfl dX3_work_167 ?_
  refine v_iload (pc := 170) hC dX3_work_170 8 rfl ?_
  refine v_aload_n (pc := 172) hC dX3_work_172 rfl 0 rfl ?_
  refine v_get (pc := 173) (v := .ref (ad E 36)) hC fl_X3_15 kq_34 rfl dX3_work_173 ?_
  refine v_iload (pc := 176) hC dX3_work_176 8 rfl ?_
  refine v_iald (pc := 178) (n := 9) hC kq_36 (by decide) dX3_work_178 h (fun h => ?_)
  refine v_iconst (pc := 179) (v := 2) hC dX3_work_179 (by decide) ?_
  refine v_ic_ne (pc := 180) (tgt := 187) hC dX3_work_180 (by decide) h (fun h => ?_) (fun h => ?_)
  · skip
    refine v_aload_n (pc := 187) hC dX3_work_187 rfl 0 rfl ?_
    refine v_get (pc := 188) (v := .ref (ad E 36)) hC fl_X3_15 kq_34 rfl dX3_work_188 ?_
    refine v_iload (pc := 191) hC dX3_work_191 8 rfl ?_
    refine v_iald (pc := 193) (n := 9) hC kq_36 (by decide) dX3_work_193 h (fun h => ?_)
    refine v_iconst (pc := 194) (v := 1) hC dX3_work_194 (by decide) ?_
    refine v_iadd (pc := 195) hC dX3_work_195 ?_
    refine v_iast (pc := 196) (n := 9) hC kq_36 (by decide) dX3_work_196 h (fun F11 h => ?_)
    refine v_iinc (pc := 197) (v := 1) hC (fun z => [(7, .int z), (0, .ref (ad E 34)), (1, .int x1), (2, .int x2), (3, .int x3), (4, .int x4), (5, .int x5), (6, .int x6), (8, .int x8)]) dX3_work_197 7 rfl (by decide) (by decide) (fun _ => rfl) h (fun n12 h => ?_)
    refine v_goto (pc := 200) (tgt := 32) hC dX3_work_200 (by decide) ?_
    exact v_sub [1, 2, 3, 4, 5, 6, 7, 0] rfl (hK32 _ _ _ h)
  · skip
    refine v_iconst (pc := 183) (v := 0) hC dX3_work_183 (by decide) ?_
    refine v_goto (pc := 184) (tgt := 196) hC dX3_work_184 (by decide) ?_
    refine v_iast (pc := 196) (n := 9) hC kq_36 (by decide) dX3_work_196 h (fun F13 h => ?_)
    refine v_iinc (pc := 197) (v := 1) hC (fun z => [(7, .int z), (0, .ref (ad E 34)), (1, .int x1), (2, .int x2), (3, .int x3), (4, .int x4), (5, .int x5), (6, .int x6), (8, .int x8)]) dX3_work_197 7 rfl (by decide) (by decide) (fun _ => rfl) h (fun n14 h => ?_)
    refine v_goto (pc := 200) (tgt := 32) hC dX3_work_200 (by decide) ?_
    exact v_sub [1, 2, 3, 4, 5, 6, 7, 0] rfl (hK32 _ _ _ h)
set_option maxRecDepth 20000 in
set_option maxHeartbeats 4000000 in
theorem j_X3_work_126 {p : Program} {l : Launch} {e : Env} {s : State} {m : MethodId} {args : Array Value} {below : List Frame} {meth : Method} {c : Code} {E : gE} (hC : CX p s m args meth c cX3_work RX3 none E 10) {Q : gS → Prop} {F : gS} {x1 : Int32} {x2 : Int32} {x3 : Int32} {x4 : Int32} {x5 : Int32} {x6 : Int32} {x7 : Int32} {x8 : Int32} {K32 : gS → Int32 → Int32 → Prop} (hK32 : ∀ (F : gS) (x6 : Int32) (x7 : Int32), K32 F x6 x7 → VV p l e rm_X3_work s m args below meth c 0 0 (MQ below (va_Qv Q (gB E) (gA E)) args s 0 0 (gA E)) E 10 F 32 [(0, .ref (ad E 34)), (1, .int x1), (2, .int x2), (3, .int x3), (4, .int x4), (5, .int x5), (6, .int x6), (7, .int x7)] []) (h : wp_X3_work_126 K32 Q F x1 x2 x3 x4 x5 x6 x7 x8) : VV p l e rm_X3_work s m args below meth c 0 0 (MQ below (va_Qv Q (gB E) (gA E)) args s 0 0 (gA E)) E 10 F 126 [(0, .ref (ad E 34)), (1, .int x1), (2, .int x2), (3, .int x3), (4, .int x4), (5, .int x5), (6, .int x6), (7, .int x7), (8, .int x8)] [] := by
  unfold wp_X3_work_126 at h
  refine v_aload_n (pc := 126) hC dX3_work_126 rfl 0 rfl ?_
  refine v_get (pc := 127) (v := .ref (ad E 35)) hC fl_X3_9 kq_34 rfl dX3_work_127 ?_
  refine v_iload (pc := 130) hC dX3_work_130 8 rfl ?_
  refine v_iload (pc := 132) hC dX3_work_132 6 rfl ?_
  refine v_aload_n (pc := 134) hC dX3_work_134 rfl 0 rfl ?_
  refine v_get (pc := 135) (v := .ref (ad E 36)) hC fl_X3_15 kq_34 rfl dX3_work_135 ?_
  refine v_iload (pc := 138) hC dX3_work_138 8 rfl ?_
  refine v_iald (pc := 140) (n := 9) hC kq_36 (by decide) dX3_work_140 h (fun h => ?_)
  refine v_if_ne (pc := 141) (tgt := 148) hC dX3_work_141 (by decide) h (fun h => ?_) (fun h => ?_)
  · skip
    refine v_aload_n (pc := 148) hC dX3_work_148 rfl 0 rfl ?_
    refine v_get (pc := 149) (v := .ref (ad E 36)) hC fl_X3_15 kq_34 rfl dX3_work_149 ?_
    refine v_iload (pc := 152) hC dX3_work_152 8 rfl ?_
    refine v_iald (pc := 154) (n := 9) hC kq_36 (by decide) dX3_work_154 h (fun h => ?_)
    refine v_iconst (pc := 155) (v := 1) hC dX3_work_155 (by decide) ?_
    refine v_ic_ne (pc := 156) (tgt := 163) hC dX3_work_156 (by decide) h (fun h => ?_) (fun h => ?_)
    · skip
      refine v_iconst (pc := 163) (v := 0) hC dX3_work_163 (by decide) ?_
      exact v_sub [0, 1, 2, 3, 4, 5, 6, 7, 8] rfl (j_X3_work_164 hC hK32 h)
    · skip
      refine v_iload_n (pc := 159) hC dX3_work_159 rfl 3 rfl ?_
      refine v_goto (pc := 160) (tgt := 164) hC dX3_work_160 (by decide) ?_
      exact v_sub [0, 1, 2, 3, 4, 5, 6, 7, 8] rfl (j_X3_work_164 hC hK32 h)
  · skip
    refine v_iload_n (pc := 144) hC dX3_work_144 rfl 2 rfl ?_
    refine v_goto (pc := 145) (tgt := 164) hC dX3_work_145 (by decide) ?_
    exact v_sub [0, 1, 2, 3, 4, 5, 6, 7, 8] rfl (j_X3_work_164 hC hK32 h)
set_option maxRecDepth 20000 in
set_option maxHeartbeats 4000000 in
theorem jb_X3_work_32 {p : Program} {l : Launch} {e : Env} {s : State} {m : MethodId} {args : Array Value} {below : List Frame} {meth : Method} {c : Code} {E : gE} (hC : CX p s m args meth c cX3_work RX3 none E 10) {Q : gS → Prop} {F : gS} {x1 : Int32} {x2 : Int32} {x3 : Int32} {x4 : Int32} {x5 : Int32} {x6 : Int32} {x7 : Int32} {K32 : gS → Int32 → Int32 → Prop} (hK32 : ∀ (F : gS) (x6 : Int32) (x7 : Int32), K32 F x6 x7 → VV p l e rm_X3_work s m args below meth c 0 0 (MQ below (va_Qv Q (gB E) (gA E)) args s 0 0 (gA E)) E 10 F 32 [(0, .ref (ad E 34)), (1, .int x1), (2, .int x2), (3, .int x3), (4, .int x4), (5, .int x5), (6, .int x6), (7, .int x7)] []) (h : wb_X3_work_32 Q x1 x2 x3 x4 x5 K32 F x6 x7) : VV p l e rm_X3_work s m args below meth c 0 0 (MQ below (va_Qv Q (gB E) (gA E)) args s 0 0 (gA E)) E 10 F 32 [(0, .ref (ad E 34)), (1, .int x1), (2, .int x2), (3, .int x3), (4, .int x4), (5, .int x5), (6, .int x6), (7, .int x7)] [] := by
  unfold wb_X3_work_32 at h
  refine v_iload (pc := 32) hC dX3_work_32 7 rfl ?_
  refine v_iload (pc := 34) hC dX3_work_34 5 rfl ?_
  refine v_ic_ge (pc := 36) (tgt := 203) hC dX3_work_36 (by decide) h (fun h => ?_) (fun h => ?_)
  · skip
    exact v_vret (pc := 203) hC dX3_work_203 h
  · skip
    refine v_aload_n (pc := 39) hC dX3_work_39 rfl 0 rfl ?_
    refine v_iload_n (pc := 40) hC dX3_work_40 rfl 1 rfl ?_
    refine v_cip (pc := 41) (r_V (rest := []) hC ml_X3_31 mv_X3_longestWanting (c_X3_longestWanting l E h) ⟨rfl, rfl⟩ ⟨Nat.le_of_ble_eq_true rfl, Nat.le_of_ble_eq_true rfl⟩ kq_34 rfl (by decide) rfl rfl (Nat.le_of_ble_eq_true rfl) ⟨Nat.zero_le _, Nat.zero_le _⟩ dX3_work_41) (fun r5 h => ?_)
    refine v_istore (pc := 44) (lv' := [(8, .int r5), (0, .ref (ad E 34)), (1, .int x1), (2, .int x2), (3, .int x3), (4, .int x4), (5, .int x5), (6, .int x6), (7, .int x7)]) hC dX3_work_44 (by decide) rfl ?_
    refine v_iload (pc := 46) hC dX3_work_46 7 rfl ?_
    refine v_aload_n (pc := 48) hC dX3_work_48 rfl 1 rfl ?_
    refine v_get (pc := 49) (v := .ref (ad E 35)) hC fl_X3_9 kq_34 rfl dX3_work_49 ?_
    refine v_iload (pc := 52) hC dX3_work_52 0 rfl ?_
    refine v_iald (pc := 54) (n := 9) hC kq_35 (by decide) dX3_work_54 h (fun h => ?_)
    refine v_max (pc := 55) hC mmax_X3_35 mmax_s in_Math mmax_c ⟨Nat.le_of_ble_eq_true rfl, Nat.le_of_ble_eq_true rfl⟩ ⟨Nat.zero_le _, Nat.zero_le _⟩ dX3_work_55 ?_
    refine v_nmi h (fun n6 h => ?_)
    refine v_istore (pc := 58) (lv' := [(9, .int n6), (8, .int r5), (0, .ref (ad E 34)), (1, .int x1), (2, .int x2), (3, .int x3), (4, .int x4), (5, .int x5), (6, .int x6), (7, .int x7)]) hC dX3_work_58 (by decide) rfl ?_
    refine v_iload (pc := 60) hC dX3_work_60 0 rfl ?_
    refine v_iload (pc := 62) hC dX3_work_62 7 rfl ?_
    refine v_ic_lt (pc := 64) (tgt := 70) hC dX3_work_64 (by decide) h (fun h => ?_) (fun h => ?_)
    · skip
      refine v_aload_n (pc := 70) hC dX3_work_70 rfl 2 rfl ?_
      refine v_aload_n (pc := 71) hC dX3_work_71 rfl 2 rfl ?_
      refine v_get (pc := 72) (v := .int (F 34 3)) hC fl_X3_28 kq_34 rfl dX3_work_72 ?_
      refine v_iload (pc := 75) hC dX3_work_75 0 rfl ?_
      refine v_aload_n (pc := 77) hC dX3_work_77 rfl 2 rfl ?_
      refine v_get (pc := 78) (v := .ref (ad E 35)) hC fl_X3_9 kq_34 rfl dX3_work_78 ?_
      refine v_iload (pc := 81) hC dX3_work_81 1 rfl ?_
      refine v_iald (pc := 83) (n := 9) hC kq_35 (by decide) dX3_work_83 h (fun h => ?_)
      refine v_isub (pc := 84) hC dX3_work_84 ?_
      refine v_max (pc := 85) hC mmax_X3_35 mmax_s in_Math mmax_c ⟨Nat.le_of_ble_eq_true rfl, Nat.le_of_ble_eq_true rfl⟩ ⟨Nat.zero_le _, Nat.zero_le _⟩ dX3_work_85 ?_
      refine v_puti (pc := 88) hC fp_X3_28 kq_34 (fs_3_3 E _ _ _) (fn_3_3 E _ _) dX3_work_88 h (fun F7 h => ?_)
      refine v_iload (pc := 91) hC dX3_work_91 0 rfl ?_
      refine v_iload (pc := 93) hC dX3_work_93 6 rfl ?_
      refine v_iadd (pc := 95) hC dX3_work_95 ?_
      refine v_nmi h (fun n8 h => ?_)
      refine v_istore (pc := 96) (lv' := [(6, .int n8), (9, .int n6), (8, .int r5), (0, .ref (ad E 34)), (1, .int x1), (2, .int x2), (3, .int x3), (4, .int x4), (5, .int x5), (7, .int x7)]) hC dX3_work_96 (by decide) rfl ?_
      refine v_aload_n (pc := 98) hC dX3_work_98 rfl 3 rfl ?_
      refine v_get (pc := 99) (v := .ref (ad E 36)) hC fl_X3_15 kq_34 rfl dX3_work_99 ?_
      refine v_iload (pc := 102) hC dX3_work_102 2 rfl ?_
      refine v_iald (pc := 104) (n := 9) hC kq_36 (by decide) dX3_work_104 h (fun h => ?_)
      refine v_iconst (pc := 105) (v := 2) hC dX3_work_105 (by decide) ?_
      refine v_ic_ne (pc := 106) (tgt := 126) hC dX3_work_106 (by decide) h (fun h => ?_) (fun h => ?_)
      · skip
        exact v_sub [3, 4, 5, 6, 7, 8, 0, 9, 2] rfl (j_X3_work_126 hC hK32 h)
      · skip
        refine v_iload (pc := 109) hC dX3_work_109 0 rfl ?_
        refine v_iload (pc := 111) hC dX3_work_111 8 rfl ?_
        refine v_ic_gt (pc := 113) (tgt := 126) hC dX3_work_113 (by decide) h (fun h => ?_) (fun h => ?_)
        · skip
          exact v_sub [3, 4, 5, 6, 7, 8, 0, 9, 2] rfl (j_X3_work_126 hC hK32 h)
        · skip
          refine v_aload_n (pc := 116) hC dX3_work_116 rfl 3 rfl ?_
          refine v_dup (pc := 117) hC dX3_work_117 rfl ?_
          refine v_get (pc := 118) (v := .int (F7 34 2)) hC fl_X3_24 kq_34 rfl dX3_work_118 ?_
          refine v_iconst (pc := 121) (v := 1) hC dX3_work_121 (by decide) ?_
          refine v_iadd (pc := 122) hC dX3_work_122 ?_
          refine v_puti (pc := 123) hC fp_X3_24 kq_34 (fs_3_2 E _ _ _) (fn_3_2 E _ _) dX3_work_123 h (fun F9 h => ?_)
          exact v_sub [3, 4, 5, 6, 7, 8, 0, 9, 2] rfl (j_X3_work_126 hC hK32 h)
    · skip
      refine v_goto (pc := 67) (tgt := 203) hC dX3_work_67 (by decide) ?_
      exact v_vret (pc := 203) hC dX3_work_203 h
set_option maxRecDepth 20000 in
set_option maxHeartbeats 4000000 in
theorem jl_X3_work_32 {p : Program} {l : Launch} {e : Env} {s : State} {m : MethodId} {args : Array Value} {below : List Frame} {meth : Method} {c : Code} {E : gE} (hC : CX p s m args meth c cX3_work RX3 none E 10) {Q : gS → Prop} {F : gS} {x1 : Int32} {x2 : Int32} {x3 : Int32} {x4 : Int32} {x5 : Int32} {x6 : Int32} {x7 : Int32} (h : LP3 (wb_X3_work_32 Q x1 x2 x3 x4 x5) F x6 x7) : VV p l e rm_X3_work s m args below meth c 0 0 (MQ below (va_Qv Q (gB E) (gA E)) args s 0 0 (gA E)) E 10 F 32 [(0, .ref (ad E 34)), (1, .int x1), (2, .int x2), (3, .int x3), (4, .int x4), (5, .int x5), (6, .int x6), (7, .int x7)] [] :=
  LP3_go (V := fun (F : gS) (x6 : Int32) (x7 : Int32) => VV p l e rm_X3_work s m args below meth c 0 0 (MQ below (va_Qv Q (gB E) (gA E)) args s 0 0 (gA E)) E 10 F 32 [(0, .ref (ad E 34)), (1, .int x1), (2, .int x2), (3, .int x3), (4, .int x4), (5, .int x5), (6, .int x6), (7, .int x7)] []) (fun K32 hK32 F x6 x7 h => jb_X3_work_32 hC hK32 h) F x6 x7 h
set_option maxRecDepth 20000 in
set_option maxHeartbeats 4000000 in
theorem c_X3_work (l : Launch) (E : gE) {x1 : Int32} {x2 : Int32} {x3 : Int32} {x4 : Int32} {x5 : Int32} {F : gS} {Q : gS → Prop} (h : wp_X3_work x1 x2 x3 x4 x5 F Q) : CtV l E yX3_work cX3_work 10 none rm_X3_work [.ref (ad E 34), .int x1, .int x2, .int x3, .int x4, .int x5] F Q := by
  refine ct_of (by decide) (Nat.le_of_ble_eq_true rfl) (fun p e s m below meth c hC => ?_)
  generalize ([.ref (ad E 34), .int x1, .int x2, .int x3, .int x4, .int x5] : List Value).toArray = args at hC ⊢
  refine v_sub (lv' := [(0, .ref (ad E 34)), (1, .int x1), (2, .int x2), (3, .int x3), (4, .int x4), (5, .int x5)]) [0, 1, 2, 3, 4, 5] rfl ?_
  unfold wp_X3_work at h
  refine v_aload_n (pc := 0) hC dX3_work_0 rfl 0 rfl ?_
  refine v_get (pc := 1) (v := .ref (ad E 35)) hC fl_X3_9 kq_34 rfl dX3_work_1 ?_
  refine v_iconst (pc := 4) (v := 0) hC dX3_work_4 (by decide) ?_
  refine v_cv (pc := 5) (r_S (rest := []) hC ml_X3_18 ms_J7_fill_53178 (c_J7_fill_53178_9 l E kq_35 h) ⟨rfl, rfl⟩ ⟨Nat.le_of_ble_eq_true rfl, Nat.le_of_ble_eq_true rfl⟩ rfl rfl (Nat.le_of_ble_eq_true rfl) ⟨Nat.zero_le _, Nat.zero_le _⟩ dX3_work_5) (fun F1 h => ?_)
  refine v_aload_n (pc := 8) hC dX3_work_8 rfl 0 rfl ?_
  refine v_get (pc := 9) (v := .ref (ad E 36)) hC fl_X3_15 kq_34 rfl dX3_work_9 ?_
  refine v_iconst (pc := 12) (v := 0) hC dX3_work_12 (by decide) ?_
  refine v_cv (pc := 13) (r_S (rest := []) hC ml_X3_18 ms_J7_fill_53178 (c_J7_fill_53178_9 l E kq_36 h) ⟨rfl, rfl⟩ ⟨Nat.le_of_ble_eq_true rfl, Nat.le_of_ble_eq_true rfl⟩ rfl rfl (Nat.le_of_ble_eq_true rfl) ⟨Nat.zero_le _, Nat.zero_le _⟩ dX3_work_13) (fun F2 h => ?_)
  refine v_aload_n (pc := 16) hC dX3_work_16 rfl 0 rfl ?_
  refine v_iconst (pc := 17) (v := 0) hC dX3_work_17 (by decide) ?_
  refine v_puti (pc := 18) hC fp_X3_24 kq_34 (fs_3_2 E _ _ _) (fn_3_2 E _ _) dX3_work_18 h (fun F3 h => ?_)
  refine v_aload_n (pc := 21) hC dX3_work_21 rfl 0 rfl ?_
  refine v_iconst (pc := 22) (v := 0) hC dX3_work_22 (by decide) ?_
  refine v_puti (pc := 23) hC fp_X3_28 kq_34 (fs_3_3 E _ _ _) (fn_3_3 E _ _) dX3_work_23 h (fun F4 h => ?_)
  refine v_iconst (pc := 26) (v := 0) hC dX3_work_26 (by decide) ?_
  refine v_istore (pc := 27) (lv' := [(6, .int 0), (0, .ref (ad E 34)), (1, .int x1), (2, .int x2), (3, .int x3), (4, .int x4), (5, .int x5)]) hC dX3_work_27 (by decide) rfl ?_
  refine v_iconst (pc := 29) (v := 0) hC dX3_work_29 (by decide) ?_
  refine v_istore (pc := 30) (lv' := [(7, .int 0), (6, .int 0), (0, .ref (ad E 34)), (1, .int x1), (2, .int x2), (3, .int x3), (4, .int x4), (5, .int x5)]) hC dX3_work_30 (by decide) rfl ?_
  exact v_sub [2, 3, 4, 5, 6, 7, 1, 0] rfl (jl_X3_work_32 hC h)
def rm_X10_turnsOver : Room := { frames := 0, cells := 0, slots := 0, locals := 0 }
def wp_X10_turnsOver (x0 : Int32) (x1 : Int32) (F : gS) (Q : Int32 → Prop) : Prop :=
  if (((x0 * x1) / 10) - ((x0 * x1) / 10) / 4 * 4) = 2 then
    (Q 1)
  else
    (Q 0)
set_option maxRecDepth 20000 in
set_option maxHeartbeats 4000000 in
theorem c_X10_turnsOver (l : Launch) (E : gE) {x0 : Int32} {x1 : Int32} {F : gS} {Q : Int32 → Prop} (h : wp_X10_turnsOver x0 x1 F Q) : CtI l E yX10_turnsOver cX10_turnsOver 2 (some .boolean) rm_X10_turnsOver [.int x0, .int x1] F (fun r G => (r = 0 ∨ r = 1) ∧ G = F ∧ Q r) := by
  refine ct_of (by decide) (Nat.le_of_ble_eq_true rfl) (fun p e s m below meth c hC => ?_)
  generalize ([.int x0, .int x1] : List Value).toArray = args at hC ⊢
  refine v_sub (lv' := [(0, .int x0), (1, .int x1)]) [0, 1] rfl ?_
  unfold wp_X10_turnsOver at h
  refine v_iload_n (pc := 0) hC dX10_turnsOver_0 rfl 0 rfl ?_
  refine v_iload_n (pc := 1) hC dX10_turnsOver_1 rfl 1 rfl ?_
  refine v_imul (pc := 2) hC dX10_turnsOver_2 ?_
  refine v_bipush (pc := 3) (v := 10) hC dX10_turnsOver_3 (by decide) ?_
  refine v_idiv (pc := 5) hC dX10_turnsOver_5 ⟨by decide, h⟩ (fun h => ?_)
  refine v_iconst (pc := 6) (v := 4) hC dX10_turnsOver_6 (by decide) ?_
  refine v_irem (pc := 7) hC dX10_turnsOver_7 ⟨by decide, h⟩ (fun h => ?_)
  refine v_iconst (pc := 8) (v := 2) hC dX10_turnsOver_8 (by decide) ?_
  refine v_ic_ne (pc := 9) (tgt := 16) hC dX10_turnsOver_9 (by decide) h (fun h => ?_) (fun h => ?_)
  · skip
    refine v_iconst (pc := 16) (v := 0) hC dX10_turnsOver_16 (by decide) ?_
    exact v_zret (pc := 17) hC dX10_turnsOver_17 (Or.inl rfl) ⟨Or.inl rfl, rfl, h⟩
  · skip
    refine v_iconst (pc := 12) (v := 1) hC dX10_turnsOver_12 (by decide) ?_
    refine v_goto (pc := 13) (tgt := 17) hC dX10_turnsOver_13 (by decide) ?_
    exact v_zret (pc := 17) hC dX10_turnsOver_17 (Or.inr rfl) ⟨Or.inr rfl, rfl, h⟩
def rm_X10_slowest : Room := { frames := 1, cells := 0, slots := 0, locals := 13 }
def wp_X10_slowest (x0 : Int32) (x1 : Int32) (F : gS) (Q : Int32 → Prop) : Prop :=
  Q (if (1 : Int32) < (x0 - x1) then (x0 - x1) else 1)
set_option maxRecDepth 20000 in
set_option maxHeartbeats 4000000 in
theorem c_X10_slowest (l : Launch) (E : gE) {x0 : Int32} {x1 : Int32} {F : gS} {Q : Int32 → Prop} (h : wp_X10_slowest x0 x1 F Q) : CtI l E yX10_slowest cX10_slowest 2 (some .int) rm_X10_slowest [.int x0, .int x1] F (fun r G => G = F ∧ Q r) := by
  refine ct_of (by decide) (Nat.le_of_ble_eq_true rfl) (fun p e s m below meth c hC => ?_)
  generalize ([.int x0, .int x1] : List Value).toArray = args at hC ⊢
  refine v_sub (lv' := [(0, .int x0), (1, .int x1)]) [0, 1] rfl ?_
  unfold wp_X10_slowest at h
  refine v_iconst (pc := 0) (v := 1) hC dX10_slowest_0 (by decide) ?_
  refine v_iload_n (pc := 1) hC dX10_slowest_1 rfl 0 rfl ?_
  refine v_iload_n (pc := 2) hC dX10_slowest_2 rfl 1 rfl ?_
  refine v_isub (pc := 3) hC dX10_slowest_3 ?_
  refine v_max (pc := 4) hC mmax_X10_23 mmax_s in_Math mmax_c ⟨Nat.le_of_ble_eq_true rfl, Nat.le_of_ble_eq_true rfl⟩ ⟨Nat.zero_le _, Nat.zero_le _⟩ dX10_slowest_4 ?_
  exact v_iret (pc := 7) hC dX10_slowest_7 ⟨rfl, h⟩
def rm_X10_paces : Room := { frames := 2, cells := 0, slots := 0, locals := 34 }
def wp_X10_paces (x0 : Int32) (x1 : Int32) (F : gS) (Q : Int32 → Prop) : Prop :=
  wp_X10_slowest x0 x1 F fun r1 =>
  Q (((x0 + x1) - r1) + 1)
set_option maxRecDepth 20000 in
set_option maxHeartbeats 4000000 in
theorem c_X10_paces (l : Launch) (E : gE) {x0 : Int32} {x1 : Int32} {F : gS} {Q : Int32 → Prop} (h : wp_X10_paces x0 x1 F Q) : CtI l E yX10_paces cX10_paces 2 (some .int) rm_X10_paces [.int x0, .int x1] F (fun r G => G = F ∧ Q r) := by
  refine ct_of (by decide) (Nat.le_of_ble_eq_true rfl) (fun p e s m below meth c hC => ?_)
  generalize ([.int x0, .int x1] : List Value).toArray = args at hC ⊢
  refine v_sub (lv' := [(0, .int x0), (1, .int x1)]) [0, 1] rfl ?_
  unfold wp_X10_paces at h
  refine v_iload_n (pc := 0) hC dX10_paces_0 rfl 0 rfl ?_
  refine v_iload_n (pc := 1) hC dX10_paces_1 rfl 1 rfl ?_
  refine v_iadd (pc := 2) hC dX10_paces_2 ?_
  refine v_iload_n (pc := 3) hC dX10_paces_3 rfl 0 rfl ?_
  refine v_iload_n (pc := 4) hC dX10_paces_4 rfl 1 rfl ?_
  refine v_cip (pc := 5) (r_S (rest := [.int (x0 + x1)]) hC ml_X10_9 ms_X10_slowest (c_X10_slowest l E h) ⟨rfl, rfl⟩ ⟨Nat.le_of_ble_eq_true rfl, Nat.le_of_ble_eq_true rfl⟩ rfl rfl (Nat.le_of_ble_eq_true rfl) ⟨Nat.zero_le _, Nat.zero_le _⟩ dX10_paces_5) (fun r1 h => ?_)
  refine v_isub (pc := 8) hC dX10_paces_8 ?_
  refine v_iconst (pc := 9) (v := 1) hC dX10_paces_9 (by decide) ?_
  refine v_iadd (pc := 10) hC dX10_paces_10 ?_
  exact v_iret (pc := 11) hC dX10_paces_11 ⟨rfl, h⟩
def rm_X10_landings : Room := { frames := 2, cells := 0, slots := 0, locals := 34 }
def wb_X10_landings_9 (Q : Int32 → Prop) (F : gS) (x0 : Int32) (x1 : Int32) (x2 : Int32) (K9 : Int32 → Int32 → Prop) (x3 : Int32) (x4 : Int32) : Prop :=
  if (x0 + x2) < x4 then
    (Q x3)
  else
    (wp_X10_turnsOver x4 x1 F fun r2 =>
    if r2 = 0 then
      (Nm (x4 + 1) fun n4 =>
      K9 x3 n4)
    else
      (Nm (x3 + 1) fun n5 =>
      Nm (x4 + 1) fun n6 =>
      K9 n5 n6))
def wp_X10_landings (x0 : Int32) (x1 : Int32) (x2 : Int32) (F : gS) (Q : Int32 → Prop) : Prop :=
  wp_X10_slowest x0 x2 F fun r1 =>
  LP2 (wb_X10_landings_9 Q F x0 x1 x2) 0 r1
set_option maxRecDepth 20000 in
set_option maxHeartbeats 4000000 in
theorem jb_X10_landings_9 {p : Program} {l : Launch} {e : Env} {s : State} {m : MethodId} {args : Array Value} {below : List Frame} {meth : Method} {c : Code} {E : gE} (hC : CX p s m args meth c cX10_landings RX10 (some .int) E 5) {Q : Int32 → Prop} {F : gS} {x0 : Int32} {x1 : Int32} {x2 : Int32} {x3 : Int32} {x4 : Int32} {K9 : Int32 → Int32 → Prop} (hK9 : ∀ (x3 : Int32) (x4 : Int32), K9 x3 x4 → VV p l e rm_X10_landings s m args below meth c 0 0 (MQ below (va_Qi (fun r G => G = F ∧ Q r) (gB E) (gA E)) args s 0 0 (gA E)) E 5 F 9 [(0, .int x0), (1, .int x1), (2, .int x2), (3, .int x3), (4, .int x4)] []) (h : wb_X10_landings_9 Q F x0 x1 x2 K9 x3 x4) : VV p l e rm_X10_landings s m args below meth c 0 0 (MQ below (va_Qi (fun r G => G = F ∧ Q r) (gB E) (gA E)) args s 0 0 (gA E)) E 5 F 9 [(0, .int x0), (1, .int x1), (2, .int x2), (3, .int x3), (4, .int x4)] [] := by
  unfold wb_X10_landings_9 at h
  refine v_iload (pc := 9) hC dX10_landings_9 4 rfl ?_
  refine v_iload_n (pc := 11) hC dX10_landings_11 rfl 0 rfl ?_
  refine v_iload_n (pc := 12) hC dX10_landings_12 rfl 2 rfl ?_
  refine v_iadd (pc := 13) hC dX10_landings_13 ?_
  refine v_ic_gt (pc := 14) (tgt := 35) hC dX10_landings_14 (by decide) h (fun h => ?_) (fun h => ?_)
  · skip
    refine v_iload_n (pc := 35) hC dX10_landings_35 rfl 3 rfl ?_
    exact v_iret (pc := 36) hC dX10_landings_36 ⟨rfl, h⟩
  · skip
    refine v_iload (pc := 17) hC dX10_landings_17 4 rfl ?_
    refine v_iload_n (pc := 19) hC dX10_landings_19 rfl 1 rfl ?_
    refine v_cyp (pc := 20) (r_S (rest := []) hC ml_X10_15 ms_X10_turnsOver (c_X10_turnsOver l E h) ⟨rfl, rfl⟩ ⟨Nat.le_of_ble_eq_true rfl, Nat.le_of_ble_eq_true rfl⟩ rfl rfl (Nat.le_of_ble_eq_true rfl) ⟨Nat.zero_le _, Nat.zero_le _⟩ dX10_landings_20) (fun r2 b3 h => ?_)
    refine v_if_eq (pc := 23) (tgt := 29) hC dX10_landings_23 (by decide) h (fun h => ?_) (fun h => ?_)
    · skip
      refine v_iinc (pc := 29) (v := 1) hC (fun z => [(4, .int z), (0, .int x0), (1, .int x1), (2, .int x2), (3, .int x3)]) dX10_landings_29 4 rfl (by decide) (by decide) (fun _ => rfl) h (fun n4 h => ?_)
      refine v_goto (pc := 32) (tgt := 9) hC dX10_landings_32 (by decide) ?_
      exact v_sub [1, 2, 3, 4, 0] rfl (hK9 _ _ h)
    · skip
      refine v_iinc (pc := 26) (v := 1) hC (fun z => [(3, .int z), (0, .int x0), (1, .int x1), (2, .int x2), (4, .int x4)]) dX10_landings_26 3 rfl (by decide) (by decide) (fun _ => rfl) h (fun n5 h => ?_)
      refine v_iinc (pc := 29) (v := 1) hC (fun z => [(4, .int z), (3, .int n5), (0, .int x0), (1, .int x1), (2, .int x2)]) dX10_landings_29 4 rfl (by decide) (by decide) (fun _ => rfl) h (fun n6 h => ?_)
      refine v_goto (pc := 32) (tgt := 9) hC dX10_landings_32 (by decide) ?_
      exact v_sub [2, 3, 4, 1, 0] rfl (hK9 _ _ h)
set_option maxRecDepth 20000 in
set_option maxHeartbeats 4000000 in
theorem jl_X10_landings_9 {p : Program} {l : Launch} {e : Env} {s : State} {m : MethodId} {args : Array Value} {below : List Frame} {meth : Method} {c : Code} {E : gE} (hC : CX p s m args meth c cX10_landings RX10 (some .int) E 5) {Q : Int32 → Prop} {F : gS} {x0 : Int32} {x1 : Int32} {x2 : Int32} {x3 : Int32} {x4 : Int32} (h : LP2 (wb_X10_landings_9 Q F x0 x1 x2) x3 x4) : VV p l e rm_X10_landings s m args below meth c 0 0 (MQ below (va_Qi (fun r G => G = F ∧ Q r) (gB E) (gA E)) args s 0 0 (gA E)) E 5 F 9 [(0, .int x0), (1, .int x1), (2, .int x2), (3, .int x3), (4, .int x4)] [] :=
  LP2_go (V := fun (x3 : Int32) (x4 : Int32) => VV p l e rm_X10_landings s m args below meth c 0 0 (MQ below (va_Qi (fun r G => G = F ∧ Q r) (gB E) (gA E)) args s 0 0 (gA E)) E 5 F 9 [(0, .int x0), (1, .int x1), (2, .int x2), (3, .int x3), (4, .int x4)] []) (fun K9 hK9 x3 x4 h => jb_X10_landings_9 hC hK9 h) x3 x4 h
set_option maxRecDepth 20000 in
set_option maxHeartbeats 4000000 in
theorem c_X10_landings (l : Launch) (E : gE) {x0 : Int32} {x1 : Int32} {x2 : Int32} {F : gS} {Q : Int32 → Prop} (h : wp_X10_landings x0 x1 x2 F Q) : CtI l E yX10_landings cX10_landings 5 (some .int) rm_X10_landings [.int x0, .int x1, .int x2] F (fun r G => G = F ∧ Q r) := by
  refine ct_of (by decide) (Nat.le_of_ble_eq_true rfl) (fun p e s m below meth c hC => ?_)
  generalize ([.int x0, .int x1, .int x2] : List Value).toArray = args at hC ⊢
  refine v_sub (lv' := [(0, .int x0), (1, .int x1), (2, .int x2)]) [0, 1, 2] rfl ?_
  unfold wp_X10_landings at h
  refine v_iconst (pc := 0) (v := 0) hC dX10_landings_0 (by decide) ?_
  refine v_istore_n (pc := 1) (lv' := [(3, .int 0), (0, .int x0), (1, .int x1), (2, .int x2)]) hC dX10_landings_1 rfl (by decide) rfl ?_
  refine v_iload_n (pc := 2) hC dX10_landings_2 rfl 1 rfl ?_
  refine v_iload_n (pc := 3) hC dX10_landings_3 rfl 3 rfl ?_
  refine v_cip (pc := 4) (r_S (rest := []) hC ml_X10_9 ms_X10_slowest (c_X10_slowest l E h) ⟨rfl, rfl⟩ ⟨Nat.le_of_ble_eq_true rfl, Nat.le_of_ble_eq_true rfl⟩ rfl rfl (Nat.le_of_ble_eq_true rfl) ⟨Nat.zero_le _, Nat.zero_le _⟩ dX10_landings_4) (fun r1 h => ?_)
  refine v_istore (pc := 7) (lv' := [(4, .int r1), (3, .int 0), (0, .int x0), (1, .int x1), (2, .int x2)]) hC dX10_landings_7 (by decide) rfl ?_
  exact v_sub [2, 3, 4, 1, 0] rfl (jl_X10_landings_9 hC h)
def rm_X10_likeliestSpin : Room := { frames := 3, cells := 0, slots := 0, locals := 58 }
def wb_X10_likeliestSpin_7 (Q : Int32 → Prop) (F : gS) (x0 : Int32) (x1 : Int32) (K7 : Int32 → Int32 → Int32 → Prop) (x2 : Int32) (x3 : Int32) (x4 : Int32) : Prop :=
  if 30 < x4 then
    (Q x2)
  else
    (wp_X10_landings x0 x4 x1 F fun r1 =>
    if r1 ≤ x3 then
      (Nm (x4 + 1) fun n2 =>
      K7 x2 x3 n2)
    else
      (Nm (x4 + 1) fun n3 =>
      K7 x4 r1 n3))
def wp_X10_likeliestSpin (x0 : Int32) (x1 : Int32) (F : gS) (Q : Int32 → Prop) : Prop :=
  LP3 (wb_X10_likeliestSpin_7 Q F x0 x1) 1 (-1) 1
set_option maxRecDepth 20000 in
set_option maxHeartbeats 4000000 in
theorem jb_X10_likeliestSpin_7 {p : Program} {l : Launch} {e : Env} {s : State} {m : MethodId} {args : Array Value} {below : List Frame} {meth : Method} {c : Code} {E : gE} (hC : CX p s m args meth c cX10_likeliestSpin RX10 (some .int) E 6) {Q : Int32 → Prop} {F : gS} {x0 : Int32} {x1 : Int32} {x2 : Int32} {x3 : Int32} {x4 : Int32} {K7 : Int32 → Int32 → Int32 → Prop} (hK7 : ∀ (x2 : Int32) (x3 : Int32) (x4 : Int32), K7 x2 x3 x4 → VV p l e rm_X10_likeliestSpin s m args below meth c 0 0 (MQ below (va_Qi (fun r G => G = F ∧ Q r) (gB E) (gA E)) args s 0 0 (gA E)) E 6 F 7 [(0, .int x0), (1, .int x1), (2, .int x2), (3, .int x3), (4, .int x4)] []) (h : wb_X10_likeliestSpin_7 Q F x0 x1 K7 x2 x3 x4) : VV p l e rm_X10_likeliestSpin s m args below meth c 0 0 (MQ below (va_Qi (fun r G => G = F ∧ Q r) (gB E) (gA E)) args s 0 0 (gA E)) E 6 F 7 [(0, .int x0), (1, .int x1), (2, .int x2), (3, .int x3), (4, .int x4)] [] := by
  unfold wb_X10_likeliestSpin_7 at h
  refine v_iload (pc := 7) hC dX10_likeliestSpin_7 4 rfl ?_
  refine v_bipush (pc := 9) (v := 30) hC dX10_likeliestSpin_9 (by decide) ?_
  refine v_ic_gt (pc := 11) (tgt := 41) hC dX10_likeliestSpin_11 (by decide) h (fun h => ?_) (fun h => ?_)
  · skip
    refine v_iload_n (pc := 41) hC dX10_likeliestSpin_41 rfl 2 rfl ?_
    exact v_iret (pc := 42) hC dX10_likeliestSpin_42 ⟨rfl, h⟩
  · skip
    refine v_iload_n (pc := 14) hC dX10_likeliestSpin_14 rfl 0 rfl ?_
    refine v_iload (pc := 15) hC dX10_likeliestSpin_15 4 rfl ?_
    refine v_iload_n (pc := 17) hC dX10_likeliestSpin_17 rfl 1 rfl ?_
    refine v_cip (pc := 18) (r_S (rest := []) hC ml_X10_19 ms_X10_landings (c_X10_landings l E h) ⟨rfl, rfl⟩ ⟨Nat.le_of_ble_eq_true rfl, Nat.le_of_ble_eq_true rfl⟩ rfl rfl (Nat.le_of_ble_eq_true rfl) ⟨Nat.zero_le _, Nat.zero_le _⟩ dX10_likeliestSpin_18) (fun r1 h => ?_)
    refine v_istore (pc := 21) (lv' := [(5, .int r1), (0, .int x0), (1, .int x1), (2, .int x2), (3, .int x3), (4, .int x4)]) hC dX10_likeliestSpin_21 (by decide) rfl ?_
    refine v_iload (pc := 23) hC dX10_likeliestSpin_23 0 rfl ?_
    refine v_iload_n (pc := 25) hC dX10_likeliestSpin_25 rfl 4 rfl ?_
    refine v_ic_le (pc := 26) (tgt := 35) hC dX10_likeliestSpin_26 (by decide) h (fun h => ?_) (fun h => ?_)
    · skip
      refine v_iinc (pc := 35) (v := 1) hC (fun z => [(4, .int z), (5, .int r1), (0, .int x0), (1, .int x1), (2, .int x2), (3, .int x3)]) dX10_likeliestSpin_35 5 rfl (by decide) (by decide) (fun _ => rfl) h (fun n2 h => ?_)
      refine v_goto (pc := 38) (tgt := 7) hC dX10_likeliestSpin_38 (by decide) ?_
      exact v_sub [2, 3, 4, 5, 0] rfl (hK7 _ _ _ h)
    · skip
      refine v_iload (pc := 29) hC dX10_likeliestSpin_29 0 rfl ?_
      refine v_istore_n (pc := 31) (lv' := [(3, .int r1), (5, .int r1), (0, .int x0), (1, .int x1), (2, .int x2), (4, .int x4)]) hC dX10_likeliestSpin_31 rfl (by decide) rfl ?_
      refine v_iload (pc := 32) hC dX10_likeliestSpin_32 5 rfl ?_
      refine v_istore_n (pc := 34) (lv' := [(2, .int x4), (3, .int r1), (5, .int r1), (0, .int x0), (1, .int x1), (4, .int x4)]) hC dX10_likeliestSpin_34 rfl (by decide) rfl ?_
      refine v_iinc (pc := 35) (v := 1) hC (fun z => [(4, .int z), (2, .int x4), (3, .int r1), (5, .int r1), (0, .int x0), (1, .int x1)]) dX10_likeliestSpin_35 5 rfl (by decide) (by decide) (fun _ => rfl) h (fun n3 h => ?_)
      refine v_goto (pc := 38) (tgt := 7) hC dX10_likeliestSpin_38 (by decide) ?_
      exact v_sub [4, 5, 1, 2, 0] rfl (hK7 _ _ _ h)
set_option maxRecDepth 20000 in
set_option maxHeartbeats 4000000 in
theorem jl_X10_likeliestSpin_7 {p : Program} {l : Launch} {e : Env} {s : State} {m : MethodId} {args : Array Value} {below : List Frame} {meth : Method} {c : Code} {E : gE} (hC : CX p s m args meth c cX10_likeliestSpin RX10 (some .int) E 6) {Q : Int32 → Prop} {F : gS} {x0 : Int32} {x1 : Int32} {x2 : Int32} {x3 : Int32} {x4 : Int32} (h : LP3 (wb_X10_likeliestSpin_7 Q F x0 x1) x2 x3 x4) : VV p l e rm_X10_likeliestSpin s m args below meth c 0 0 (MQ below (va_Qi (fun r G => G = F ∧ Q r) (gB E) (gA E)) args s 0 0 (gA E)) E 6 F 7 [(0, .int x0), (1, .int x1), (2, .int x2), (3, .int x3), (4, .int x4)] [] :=
  LP3_go (V := fun (x2 : Int32) (x3 : Int32) (x4 : Int32) => VV p l e rm_X10_likeliestSpin s m args below meth c 0 0 (MQ below (va_Qi (fun r G => G = F ∧ Q r) (gB E) (gA E)) args s 0 0 (gA E)) E 6 F 7 [(0, .int x0), (1, .int x1), (2, .int x2), (3, .int x3), (4, .int x4)] []) (fun K7 hK7 x2 x3 x4 h => jb_X10_likeliestSpin_7 hC hK7 h) x2 x3 x4 h
set_option maxRecDepth 20000 in
set_option maxHeartbeats 4000000 in
theorem c_X10_likeliestSpin (l : Launch) (E : gE) {x0 : Int32} {x1 : Int32} {F : gS} {Q : Int32 → Prop} (h : wp_X10_likeliestSpin x0 x1 F Q) : CtI l E yX10_likeliestSpin cX10_likeliestSpin 6 (some .int) rm_X10_likeliestSpin [.int x0, .int x1] F (fun r G => G = F ∧ Q r) := by
  refine ct_of (by decide) (Nat.le_of_ble_eq_true rfl) (fun p e s m below meth c hC => ?_)
  generalize ([.int x0, .int x1] : List Value).toArray = args at hC ⊢
  refine v_sub (lv' := [(0, .int x0), (1, .int x1)]) [0, 1] rfl ?_
  unfold wp_X10_likeliestSpin at h
  refine v_iconst (pc := 0) (v := 1) hC dX10_likeliestSpin_0 (by decide) ?_
  refine v_istore_n (pc := 1) (lv' := [(2, .int 1), (0, .int x0), (1, .int x1)]) hC dX10_likeliestSpin_1 rfl (by decide) rfl ?_
  refine v_iconst (pc := 2) (v := (-1)) hC dX10_likeliestSpin_2 (by decide) ?_
  refine v_istore_n (pc := 3) (lv' := [(3, .int (-1)), (2, .int 1), (0, .int x0), (1, .int x1)]) hC dX10_likeliestSpin_3 rfl (by decide) rfl ?_
  refine v_iconst (pc := 4) (v := 1) hC dX10_likeliestSpin_4 (by decide) ?_
  refine v_istore (pc := 5) (lv' := [(4, .int 1), (3, .int (-1)), (2, .int 1), (0, .int x0), (1, .int x1)]) hC dX10_likeliestSpin_5 (by decide) rfl ?_
  exact v_sub [3, 4, 2, 1, 0] rfl (jl_X10_likeliestSpin_7 hC h)
def rm_X10_commonDivisor : Room := { frames := 0, cells := 0, slots := 0, locals := 0 }
def wb_X10_commonDivisor_2 (Q : Int32 → Prop) (F : gS) (x0 : Int32) (x1 : Int32) (K2 : Int32 → Prop) (x2 : Int32) : Prop :=
  if x2 ≤ 1 then
    (Q 1)
  else
    (¬ x2 = 0 ∧
    if (x0 - x0 / x2 * x2) = 0 then
      (¬ x2 = 0 ∧
      if (x1 - x1 / x2 * x2) = 0 then
        (Q x2)
      else
        (Nm (x2 + (-1)) fun n2 =>
        K2 n2))
    else
      (Nm (x2 + (-1)) fun n1 =>
      K2 n1))
def wp_X10_commonDivisor (x0 : Int32) (x1 : Int32) (F : gS) (Q : Int32 → Prop) : Prop :=
  LP1 (wb_X10_commonDivisor_2 Q F x0 x1) x1
set_option maxRecDepth 20000 in
set_option maxHeartbeats 4000000 in
theorem jb_X10_commonDivisor_2 {p : Program} {l : Launch} {e : Env} {s : State} {m : MethodId} {args : Array Value} {below : List Frame} {meth : Method} {c : Code} {E : gE} (hC : CX p s m args meth c cX10_commonDivisor RX10 (some .int) E 3) {Q : Int32 → Prop} {F : gS} {x0 : Int32} {x1 : Int32} {x2 : Int32} {K2 : Int32 → Prop} (hK2 : ∀ (x2 : Int32), K2 x2 → VV p l e rm_X10_commonDivisor s m args below meth c 0 0 (MQ below (va_Qi (fun r G => G = F ∧ Q r) (gB E) (gA E)) args s 0 0 (gA E)) E 3 F 2 [(0, .int x0), (1, .int x1), (2, .int x2)] []) (h : wb_X10_commonDivisor_2 Q F x0 x1 K2 x2) : VV p l e rm_X10_commonDivisor s m args below meth c 0 0 (MQ below (va_Qi (fun r G => G = F ∧ Q r) (gB E) (gA E)) args s 0 0 (gA E)) E 3 F 2 [(0, .int x0), (1, .int x1), (2, .int x2)] [] := by
  unfold wb_X10_commonDivisor_2 at h
  refine v_iload_n (pc := 2) hC dX10_commonDivisor_2 rfl 2 rfl ?_
  refine v_iconst (pc := 3) (v := 1) hC dX10_commonDivisor_3 (by decide) ?_
  refine v_ic_le (pc := 4) (tgt := 27) hC dX10_commonDivisor_4 (by decide) h (fun h => ?_) (fun h => ?_)
  · skip
    refine v_iconst (pc := 27) (v := 1) hC dX10_commonDivisor_27 (by decide) ?_
    exact v_iret (pc := 28) hC dX10_commonDivisor_28 ⟨rfl, h⟩
  · skip
    refine v_iload_n (pc := 7) hC dX10_commonDivisor_7 rfl 0 rfl ?_
    refine v_iload_n (pc := 8) hC dX10_commonDivisor_8 rfl 2 rfl ?_
    refine v_irem (pc := 9) hC dX10_commonDivisor_9 h (fun h => ?_)
    refine v_if_ne (pc := 10) (tgt := 21) hC dX10_commonDivisor_10 (by decide) h (fun h => ?_) (fun h => ?_)
    · skip
      refine v_iinc (pc := 21) (v := (-1)) hC (fun z => [(2, .int z), (0, .int x0), (1, .int x1)]) dX10_commonDivisor_21 2 rfl (by decide) (by decide) (fun _ => rfl) h (fun n1 h => ?_)
      refine v_goto (pc := 24) (tgt := 2) hC dX10_commonDivisor_24 (by decide) ?_
      exact v_sub [1, 2, 0] rfl (hK2 _ h)
    · skip
      refine v_iload_n (pc := 13) hC dX10_commonDivisor_13 rfl 1 rfl ?_
      refine v_iload_n (pc := 14) hC dX10_commonDivisor_14 rfl 2 rfl ?_
      refine v_irem (pc := 15) hC dX10_commonDivisor_15 h (fun h => ?_)
      refine v_if_ne (pc := 16) (tgt := 21) hC dX10_commonDivisor_16 (by decide) h (fun h => ?_) (fun h => ?_)
      · skip
        refine v_iinc (pc := 21) (v := (-1)) hC (fun z => [(2, .int z), (0, .int x0), (1, .int x1)]) dX10_commonDivisor_21 2 rfl (by decide) (by decide) (fun _ => rfl) h (fun n2 h => ?_)
        refine v_goto (pc := 24) (tgt := 2) hC dX10_commonDivisor_24 (by decide) ?_
        exact v_sub [1, 2, 0] rfl (hK2 _ h)
      · skip
        refine v_iload_n (pc := 19) hC dX10_commonDivisor_19 rfl 2 rfl ?_
        exact v_iret (pc := 20) hC dX10_commonDivisor_20 ⟨rfl, h⟩
set_option maxRecDepth 20000 in
set_option maxHeartbeats 4000000 in
theorem jl_X10_commonDivisor_2 {p : Program} {l : Launch} {e : Env} {s : State} {m : MethodId} {args : Array Value} {below : List Frame} {meth : Method} {c : Code} {E : gE} (hC : CX p s m args meth c cX10_commonDivisor RX10 (some .int) E 3) {Q : Int32 → Prop} {F : gS} {x0 : Int32} {x1 : Int32} {x2 : Int32} (h : LP1 (wb_X10_commonDivisor_2 Q F x0 x1) x2) : VV p l e rm_X10_commonDivisor s m args below meth c 0 0 (MQ below (va_Qi (fun r G => G = F ∧ Q r) (gB E) (gA E)) args s 0 0 (gA E)) E 3 F 2 [(0, .int x0), (1, .int x1), (2, .int x2)] [] :=
  LP1_go (V := fun (x2 : Int32) => VV p l e rm_X10_commonDivisor s m args below meth c 0 0 (MQ below (va_Qi (fun r G => G = F ∧ Q r) (gB E) (gA E)) args s 0 0 (gA E)) E 3 F 2 [(0, .int x0), (1, .int x1), (2, .int x2)] []) (fun K2 hK2 x2 h => jb_X10_commonDivisor_2 hC hK2 h) x2 h
set_option maxRecDepth 20000 in
set_option maxHeartbeats 4000000 in
theorem c_X10_commonDivisor (l : Launch) (E : gE) {x0 : Int32} {x1 : Int32} {F : gS} {Q : Int32 → Prop} (h : wp_X10_commonDivisor x0 x1 F Q) : CtI l E yX10_commonDivisor cX10_commonDivisor 3 (some .int) rm_X10_commonDivisor [.int x0, .int x1] F (fun r G => G = F ∧ Q r) := by
  refine ct_of (by decide) (Nat.le_of_ble_eq_true rfl) (fun p e s m below meth c hC => ?_)
  generalize ([.int x0, .int x1] : List Value).toArray = args at hC ⊢
  refine v_sub (lv' := [(0, .int x0), (1, .int x1)]) [0, 1] rfl ?_
  unfold wp_X10_commonDivisor at h
  refine v_iload_n (pc := 0) hC dX10_commonDivisor_0 rfl 1 rfl ?_
  refine v_istore_n (pc := 1) (lv' := [(2, .int x1), (0, .int x0), (1, .int x1)]) hC dX10_commonDivisor_1 rfl (by decide) rfl ?_
  exact v_sub [1, 2, 0] rfl (jl_X10_commonDivisor_2 hC h)
