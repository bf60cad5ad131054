def rm_X9_isDigit : Room := { frames := 0, cells := 0, slots := 0, locals := 0 }
def wp_X9_isDigit (x0 : Int32) (F : gS) (Q : Int32 → Prop) : Prop :=
  if x0 < 48 then
    (Q 0)
  else
    (if 57 < x0 then
      (Q 0)
    else
      (Q 1))
set_option maxRecDepth 20000 in
set_option maxHeartbeats 4000000 in
theorem c_X9_isDigit (l : Launch) (E : gE) {x0 : Int32} {F : gS} {Q : Int32 → Prop} (h : wp_X9_isDigit x0 F Q) : CtI l E yX9_isDigit cX9_isDigit 1 (some .boolean) rm_X9_isDigit [.int x0] F (fun r G => (r = 0 ∨ r = 1) ∧ G = F ∧ Q r) := by
  refine ct_of (by decide) (Nat.le_of_ble_eq_true rfl) (fun p e s m below meth c hC => ?_)
  generalize ([.int x0] : List Value).toArray = args at hC ⊢
  refine v_sub (lv' := [(0, .int x0)]) [0] rfl ?_
  unfold wp_X9_isDigit at h
  refine v_iload_n (pc := 0) hC dX9_isDigit_0 rfl 0 rfl ?_
  refine v_bipush (pc := 1) (v := 48) hC dX9_isDigit_1 (by decide) ?_
  refine v_ic_lt (pc := 3) (tgt := 16) hC dX9_isDigit_3 (by decide) h (fun h => ?_) (fun h => ?_)
  · skip
    refine v_iconst (pc := 16) (v := 0) hC dX9_isDigit_16 (by decide) ?_
    exact v_zret (pc := 17) hC dX9_isDigit_17 (Or.inl rfl) ⟨Or.inl rfl, rfl, h⟩
  · skip
    refine v_iload_n (pc := 6) hC dX9_isDigit_6 rfl 0 rfl ?_
    refine v_bipush (pc := 7) (v := 57) hC dX9_isDigit_7 (by decide) ?_
    refine v_ic_gt (pc := 9) (tgt := 16) hC dX9_isDigit_9 (by decide) h (fun h => ?_) (fun h => ?_)
    · skip
      refine v_iconst (pc := 16) (v := 0) hC dX9_isDigit_16 (by decide) ?_
      exact v_zret (pc := 17) hC dX9_isDigit_17 (Or.inl rfl) ⟨Or.inl rfl, rfl, h⟩
    · skip
      refine v_iconst (pc := 12) (v := 1) hC dX9_isDigit_12 (by decide) ?_
      refine v_goto (pc := 13) (tgt := 17) hC dX9_isDigit_13 (by decide) ?_
      exact v_zret (pc := 17) hC dX9_isDigit_17 (Or.inr rfl) ⟨Or.inr rfl, rfl, h⟩
def rm_X6_begin : Room := { frames := 0, cells := 0, slots := 0, locals := 0 }
def wp_X6_begin (F : gS) (Q : gS → Prop) : Prop :=
  Nm (upF F 3 2 1) fun F1 =>
  Nm (upF F1 3 3 0) fun F2 =>
  Nm (upF F2 3 5 0) fun F3 =>
  Nm (upF F3 3 4 0) fun F4 =>
  Nm (upF F4 3 6 0) fun F5 =>
  Q F5
set_option maxRecDepth 20000 in
set_option maxHeartbeats 4000000 in
theorem c_X6_begin (l : Launch) (E : gE) {F : gS} {Q : gS → Prop} (h : wp_X6_begin F Q) : CtV l E yX6_begin cX6_begin 1 none rm_X6_begin [.ref (ad E 3)] F Q := by
  refine ct_of (by decide) (Nat.le_of_ble_eq_true rfl) (fun p e s m below meth c hC => ?_)
  generalize ([.ref (ad E 3)] : List Value).toArray = args at hC ⊢
  refine v_sub (lv' := [(0, .ref (ad E 3))]) [0] rfl ?_
  unfold wp_X6_begin at h
  refine v_aload_n (pc := 0) hC dX6_begin_0 rfl 0 rfl ?_
  refine v_iconst (pc := 1) (v := 1) hC dX6_begin_1 (by decide) ?_
  refine v_puti (pc := 2) hC fp_X6_19 kq_3 (fs_6_2 E _ _ _) (fn_6_2 E _ _) dX6_begin_2 h (fun F1 h => ?_)
  refine v_aload_n (pc := 5) hC dX6_begin_5 rfl 0 rfl ?_
  refine v_iconst (pc := 6) (v := 0) hC dX6_begin_6 (by decide) ?_
  refine v_puti (pc := 7) hC fp_X6_23 kq_3 (fs_6_3 E _ _ _) (fn_6_3 E _ _) dX6_begin_7 h (fun F2 h => ?_)
  refine v_aload_n (pc := 10) hC dX6_begin_10 rfl 0 rfl ?_
  refine v_iconst (pc := 11) (v := 0) hC dX6_begin_11 (by decide) ?_
  refine v_puti (pc := 12) hC fp_X6_26 kq_3 (fs_6_5 E _ _ _) (fn_6_5 E _ _) dX6_begin_12 h (fun F3 h => ?_)
  refine v_aload_n (pc := 15) hC dX6_begin_15 rfl 0 rfl ?_
  refine v_iconst (pc := 16) (v := 0) hC dX6_begin_16 (by decide) ?_
  refine v_puti (pc := 17) hC fp_X6_29 kq_3 (fs_6_4 E _ _ _) (fn_6_4 E _ _) dX6_begin_17 h (fun F4 h => ?_)
  refine v_aload_n (pc := 20) hC dX6_begin_20 rfl 0 rfl ?_
  refine v_iconst (pc := 21) (v := 0) hC dX6_begin_21 (by decide) ?_
  refine v_putz (pc := 22) hC fp_X6_32 kq_3 (fs_6_6 E _ _ _) (fn_6_6 E _ _) dX6_begin_22 (Or.inl rfl) h (fun F5 h => ?_)
  exact v_vret (pc := 25) hC dX6_begin_25 h
def rm_X6_whole : Room := { frames := 0, cells := 0, slots := 0, locals := 0 }
def wp_X6_whole (F : gS) (Q : Int32 → Prop) : Prop :=
  if (F 3 2) < 2 then
    (Q 0)
  else
    (if (F 3 5) = (F 3 4) then
      (Q 1)
    else
      (Q 0))
set_option maxRecDepth 20000 in
set_option maxHeartbeats 4000000 in
theorem c_X6_whole (l : Launch) (E : gE) {F : gS} {Q : Int32 → Prop} (h : wp_X6_whole F Q) : CtI l E yX6_whole cX6_whole 1 (some .boolean) rm_X6_whole [.ref (ad E 3)] F (fun r G => (r = 0 ∨ r = 1) ∧ G = F ∧ Q r) := by
  refine ct_of (by decide) (Nat.le_of_ble_eq_true rfl) (fun p e s m below meth c hC => ?_)
  generalize ([.ref (ad E 3)] : List Value).toArray = args at hC ⊢
  refine v_sub (lv' := [(0, .ref (ad E 3))]) [0] rfl ?_
  unfold wp_X6_whole at h
  refine v_aload_n (pc := 0) hC dX6_whole_0 rfl 0 rfl ?_
  refine v_get (pc := 1) (v := .int (F 3 2)) hC fl_X6_19 kq_3 rfl dX6_whole_1 ?_
  refine v_iconst (pc := 4) (v := 2) hC dX6_whole_4 (by decide) ?_
  refine v_ic_lt (pc := 5) (tgt := 23) hC dX6_whole_5 (by decide) h (fun h => ?_) (fun h => ?_)
  · skip
    refine v_iconst (pc := 23) (v := 0) hC dX6_whole_23 (by decide) ?_
    exact v_zret (pc := 24) hC dX6_whole_24 (Or.inl rfl) ⟨Or.inl rfl, rfl, h⟩
  · skip
    refine v_aload_n (pc := 8) hC dX6_whole_8 rfl 0 rfl ?_
    refine v_get (pc := 9) (v := .int (F 3 5)) hC fl_X6_26 kq_3 rfl dX6_whole_9 ?_
    refine v_aload_n (pc := 12) hC dX6_whole_12 rfl 0 rfl ?_
    refine v_get (pc := 13) (v := .int (F 3 4)) hC fl_X6_29 kq_3 rfl dX6_whole_13 ?_
    refine v_ic_ne (pc := 16) (tgt := 23) hC dX6_whole_16 (by decide) h (fun h => ?_) (fun h => ?_)
    · skip
      refine v_iconst (pc := 23) (v := 0) hC dX6_whole_23 (by decide) ?_
      exact v_zret (pc := 24) hC dX6_whole_24 (Or.inl rfl) ⟨Or.inl rfl, rfl, h⟩
    · skip
      refine v_iconst (pc := 19) (v := 1) hC dX6_whole_19 (by decide) ?_
      refine v_goto (pc := 20) (tgt := 24) hC dX6_whole_20 (by decide) ?_
      exact v_zret (pc := 24) hC dX6_whole_24 (Or.inr rfl) ⟨Or.inr rfl, rfl, h⟩
def rm_X6_takeRing : Room := { frames := 0, cells := 0, slots := 0, locals := 0 }
def wp_X6_takeRing_16 (Q : Int32 → gS → Prop) (F : gS) (x1 : Int32) (t0 : Int32) : Prop :=
  if t0 ≤ (F 3 5) then
    (Q 0 F)
  else
    (if (F 3 3) < 16 then
      (vp_in (F 3 3) 16 ∧ Nm (upF F 4 (F 3 3).toNatClampNeg x1) fun F1 =>
      vp_in (F1 3 3) 16 ∧ Nm (upF F1 5 (F1 3 3).toNatClampNeg (vp_nar .boolean 0)) fun F2 =>
      Nm (upF F2 3 3 ((F2 3 3) + 1)) fun F3 =>
      Nm (upF F3 3 5 ((F3 3 5) + 1)) fun F4 =>
      Nm (upF F4 3 6 1) fun F5 =>
      Q 1 F5)
    else
      (Q 0 F))
def wp_X6_takeRing (x1 : Int32) (F : gS) (Q : Int32 → gS → Prop) : Prop :=
  if (F 3 2) = 1 then
    (wp_X6_takeRing_16 Q F x1 4)
  else
    (wp_X6_takeRing_16 Q F x1 (F 3 4))
set_option maxRecDepth 20000 in
set_option maxHeartbeats 4000000 in
theorem j_X6_takeRing_16 {p : Program} {l : Launch} {e : Env} {s : State} {m : MethodId} {args : Array Value} {below : List Frame} {meth : Method} {c : Code} {E : gE} (hC : CX p s m args meth c cX6_takeRing RX6 (some .boolean) E 3) {Q : Int32 → gS → Prop} {F : gS} {x1 : Int32} {t0 : Int32} (h : wp_X6_takeRing_16 Q F x1 t0) : VV p l e rm_X6_takeRing s m args below meth c 0 0 (MQ below (va_Qi (fun r G => (r = 0 ∨ r = 1) ∧ Q r G) (gB E) (gA E)) args s 0 0 (gA E)) E 3 F 16 [(0, .ref (ad E 3)), (1, .int x1)] [.int t0] := by
  unfold wp_X6_takeRing_16 at h
  refine v_istore_n (pc := 16) (lv' := [(2, .int t0), (0, .ref (ad E 3)), (1, .int x1)]) hC dX6_takeRing_16 rfl (by decide) rfl ?_
  refine v_aload_n (pc := 17) hC dX6_takeRing_17 rfl 1 rfl ?_
  refine v_get (pc := 18) (v := .int (F 3 5)) hC fl_X6_26 kq_3 rfl dX6_takeRing_18 ?_
  refine v_iload_n (pc := 21) hC dX6_takeRing_21 rfl 0 rfl ?_
  refine v_ic_ge (pc := 22) (tgt := 34) hC dX6_takeRing_22 (by decide) h (fun h => ?_) (fun h => ?_)
  · skip
    refine v_iconst (pc := 34) (v := 0) hC dX6_takeRing_34 (by decide) ?_
    exact v_zret (pc := 35) hC dX6_takeRing_35 (Or.inl rfl) ⟨Or.inl rfl, h⟩
  · skip
    refine v_aload_n (pc := 25) hC dX6_takeRing_25 rfl 1 rfl ?_
    refine v_get (pc := 26) (v := .int (F 3 3)) hC fl_X6_23 kq_3 rfl dX6_takeRing_26 ?_
    refine v_bipush (pc := 29) (v := 16) hC dX6_takeRing_29 (by decide) ?_
    refine v_ic_lt (pc := 31) (tgt := 36) hC dX6_takeRing_31 (by decide) h (fun h => ?_) (fun h => ?_)
    · skip
      refine v_aload_n (pc := 36) hC dX6_takeRing_36 rfl 1 rfl ?_
      refine v_get (pc := 37) (v := .ref (ad E 4)) hC fl_X6_9 kq_3 rfl dX6_takeRing_37 ?_
      refine v_aload_n (pc := 40) hC dX6_takeRing_40 rfl 1 rfl ?_
      refine v_get (pc := 41) (v := .int (F 3 3)) hC fl_X6_23 kq_3 rfl dX6_takeRing_41 ?_
      refine v_iload_n (pc := 44) hC dX6_takeRing_44 rfl 2 rfl ?_
      refine v_iast (pc := 45) (n := 16) hC kq_4 (by decide) dX6_takeRing_45 h (fun F1 h => ?_)
      refine v_aload_n (pc := 46) hC dX6_takeRing_46 rfl 1 rfl ?_
      refine v_get (pc := 47) (v := .ref (ad E 5)) hC fl_X6_15 kq_3 rfl dX6_takeRing_47 ?_
      refine v_aload_n (pc := 50) hC dX6_takeRing_50 rfl 1 rfl ?_
      refine v_get (pc := 51) (v := .int (F1 3 3)) hC fl_X6_23 kq_3 rfl dX6_takeRing_51 ?_
      refine v_iconst (pc := 54) (v := 0) hC dX6_takeRing_54 (by decide) ?_
      refine v_zast (pc := 55) (n := 16) hC kq_5 (by decide) dX6_takeRing_55 h (fun F2 h => ?_)
      refine v_aload_n (pc := 56) hC dX6_takeRing_56 rfl 1 rfl ?_
      refine v_dup (pc := 57) hC dX6_takeRing_57 rfl ?_
      refine v_get (pc := 58) (v := .int (F2 3 3)) hC fl_X6_23 kq_3 rfl dX6_takeRing_58 ?_
      refine v_iconst (pc := 61) (v := 1) hC dX6_takeRing_61 (by decide) ?_
      refine v_iadd (pc := 62) hC dX6_takeRing_62 ?_
      refine v_puti (pc := 63) hC fp_X6_23 kq_3 (fs_6_3 E _ _ _) (fn_6_3 E _ _) dX6_takeRing_63 h (fun F3 h => ?_)
      refine v_aload_n (pc := 66) hC dX6_takeRing_66 rfl 1 rfl ?_
      refine v_dup (pc := 67) hC dX6_takeRing_67 rfl ?_
      refine v_get (pc := 68) (v := .int (F3 3 5)) hC fl_X6_26 kq_3 rfl dX6_takeRing_68 ?_
      refine v_iconst (pc := 71) (v := 1) hC dX6_takeRing_71 (by decide) ?_
      refine v_iadd (pc := 72) hC dX6_takeRing_72 ?_
      refine v_puti (pc := 73) hC fp_X6_26 kq_3 (fs_6_5 E _ _ _) (fn_6_5 E _ _) dX6_takeRing_73 h (fun F4 h => ?_)
      refine v_aload_n (pc := 76) hC dX6_takeRing_76 rfl 1 rfl ?_
      refine v_iconst (pc := 77) (v := 1) hC dX6_takeRing_77 (by decide) ?_
      refine v_putz (pc := 78) hC fp_X6_32 kq_3 (fs_6_6 E _ _ _) (fn_6_6 E _ _) dX6_takeRing_78 (Or.inr rfl) h (fun F5 h => ?_)
      refine v_iconst (pc := 81) (v := 1) hC dX6_takeRing_81 (by decide) ?_
      exact v_zret (pc := 82) hC dX6_takeRing_82 (Or.inr rfl) ⟨Or.inr rfl, h⟩
    · skip
      refine v_iconst (pc := 34) (v := 0) hC dX6_takeRing_34 (by decide) ?_
      exact v_zret (pc := 35) hC dX6_takeRing_35 (Or.inl rfl) ⟨Or.inl rfl, h⟩
set_option maxRecDepth 20000 in
set_option maxHeartbeats 4000000 in
theorem c_X6_takeRing (l : Launch) (E : gE) {x1 : Int32} {F : gS} {Q : Int32 → gS → Prop} (h : wp_X6_takeRing x1 F Q) : CtI l E yX6_takeRing cX6_takeRing 3 (some .boolean) rm_X6_takeRing [.ref (ad E 3), .int x1] F (fun r G => (r = 0 ∨ r = 1) ∧ Q r G) := by
  refine ct_of (by decide) (Nat.le_of_ble_eq_true rfl) (fun p e s m below meth c hC => ?_)
  generalize ([.ref (ad E 3), .int x1] : List Value).toArray = args at hC ⊢
  refine v_sub (lv' := [(0, .ref (ad E 3)), (1, .int x1)]) [0, 1] rfl ?_
  unfold wp_X6_takeRing at h
  refine v_aload_n (pc := 0) hC dX6_takeRing_0 rfl 0 rfl ?_
  refine v_get (pc := 1) (v := .int (F 3 2)) hC fl_X6_19 kq_3 rfl dX6_takeRing_1 ?_
  refine v_iconst (pc := 4) (v := 1) hC dX6_takeRing_4 (by decide) ?_
  refine v_ic_ne (pc := 5) (tgt := 12) hC dX6_takeRing_5 (by decide) h (fun h => ?_) (fun h => ?_)
  · skip
    refine v_aload_n (pc := 12) hC dX6_takeRing_12 rfl 0 rfl ?_
    refine v_get (pc := 13) (v := .int (F 3 4)) hC fl_X6_29 kq_3 rfl dX6_takeRing_13 ?_
    exact v_sub [0, 1] rfl (j_X6_takeRing_16 hC h)
  · skip
    refine v_iconst (pc := 8) (v := 4) hC dX6_takeRing_8 (by decide) ?_
    refine v_goto (pc := 9) (tgt := 16) hC dX6_takeRing_9 (by decide) ?_
    exact v_sub [0, 1] rfl (j_X6_takeRing_16 hC h)
def rm_X6_takeSticky : Room := { frames := 0, cells := 0, slots := 0, locals := 0 }
def wp_X6_takeSticky (F : gS) (Q : Int32 → gS → Prop) : Prop :=
  if (F 3 6) = 0 then
    (Q 0 F)
  else
    (if 1 ≤ (F 3 3) then
      (vp_in ((F 3 3) - 1) 16 ∧ Nm (upF F 5 ((F 3 3) - 1).toNatClampNeg (vp_nar .boolean 1)) fun F1 =>
      Nm (upF F1 3 6 0) fun F2 =>
      Q 1 F2)
    else
      (Q 0 F))
set_option maxRecDepth 20000 in
set_option maxHeartbeats 4000000 in
theorem c_X6_takeSticky (l : Launch) (E : gE) {F : gS} {Q : Int32 → gS → Prop} (h : wp_X6_takeSticky F Q) : CtI l E yX6_takeSticky cX6_takeSticky 1 (some .boolean) rm_X6_takeSticky [.ref (ad E 3)] F (fun r G => (r = 0 ∨ r = 1) ∧ Q r G) := by
  refine ct_of (by decide) (Nat.le_of_ble_eq_true rfl) (fun p e s m below meth c hC => ?_)
  generalize ([.ref (ad E 3)] : List Value).toArray = args at hC ⊢
  refine v_sub (lv' := [(0, .ref (ad E 3))]) [0] rfl ?_
  unfold wp_X6_takeSticky at h
  refine v_aload_n (pc := 0) hC dX6_takeSticky_0 rfl 0 rfl ?_
  refine v_get (pc := 1) (v := .int (F 3 6)) hC fl_X6_32 kq_3 rfl dX6_takeSticky_1 ?_
  refine v_if_eq (pc := 4) (tgt := 15) hC dX6_takeSticky_4 (by decide) h (fun h => ?_) (fun h => ?_)
  · skip
    refine v_iconst (pc := 15) (v := 0) hC dX6_takeSticky_15 (by decide) ?_
    exact v_zret (pc := 16) hC dX6_takeSticky_16 (Or.inl rfl) ⟨Or.inl rfl, h⟩
  · skip
    refine v_aload_n (pc := 7) hC dX6_takeSticky_7 rfl 0 rfl ?_
    refine v_get (pc := 8) (v := .int (F 3 3)) hC fl_X6_23 kq_3 rfl dX6_takeSticky_8 ?_
    refine v_iconst (pc := 11) (v := 1) hC dX6_takeSticky_11 (by decide) ?_
    refine v_ic_ge (pc := 12) (tgt := 17) hC dX6_takeSticky_12 (by decide) h (fun h => ?_) (fun h => ?_)
    · skip
      refine v_aload_n (pc := 17) hC dX6_takeSticky_17 rfl 0 rfl ?_
      refine v_get (pc := 18) (v := .ref (ad E 5)) hC fl_X6_15 kq_3 rfl dX6_takeSticky_18 ?_
      refine v_aload_n (pc := 21) hC dX6_takeSticky_21 rfl 0 rfl ?_
      refine v_get (pc := 22) (v := .int (F 3 3)) hC fl_X6_23 kq_3 rfl dX6_takeSticky_22 ?_
      refine v_iconst (pc := 25) (v := 1) hC dX6_takeSticky_25 (by decide) ?_
      refine v_isub (pc := 26) hC dX6_takeSticky_26 ?_
      refine v_iconst (pc := 27) (v := 1) hC dX6_takeSticky_27 (by decide) ?_
      refine v_zast (pc := 28) (n := 16) hC kq_5 (by decide) dX6_takeSticky_28 h (fun F1 h => ?_)
      refine v_aload_n (pc := 29) hC dX6_takeSticky_29 rfl 0 rfl ?_
      refine v_iconst (pc := 30) (v := 0) hC dX6_takeSticky_30 (by decide) ?_
      refine v_putz (pc := 31) hC fp_X6_32 kq_3 (fs_6_6 E _ _ _) (fn_6_6 E _ _) dX6_takeSticky_31 (Or.inl rfl) h (fun F2 h => ?_)
      refine v_iconst (pc := 34) (v := 1) hC dX6_takeSticky_34 (by decide) ?_
      exact v_zret (pc := 35) hC dX6_takeSticky_35 (Or.inr rfl) ⟨Or.inr rfl, h⟩
    · skip
      refine v_iconst (pc := 15) (v := 0) hC dX6_takeSticky_15 (by decide) ?_
      exact v_zret (pc := 16) hC dX6_takeSticky_16 (Or.inl rfl) ⟨Or.inl rfl, h⟩
def rm_X6_takeRowEnd : Room := { frames := 0, cells := 0, slots := 0, locals := 0 }
def wp_X6_takeRowEnd_40 (Q : Int32 → gS → Prop) (F : gS) (t0 : Int32) : Prop :=
  if t0 = 0 then
    (Q 0 F)
  else
    (if (F 3 2) < 4 then
      (Nm (upF F 3 4 (F 3 5)) fun F1 =>
      Nm (upF F1 3 2 ((F1 3 2) + 1)) fun F2 =>
      Nm (upF F2 3 5 0) fun F3 =>
      Nm (upF F3 3 6 0) fun F4 =>
      Q 1 F4)
    else
      (Q 0 F))
def wp_X6_takeRowEnd (F : gS) (Q : Int32 → gS → Prop) : Prop :=
  if (F 3 2) = 1 then
    (if (F 3 5) < 2 then
      (wp_X6_takeRowEnd_40 Q F 0)
    else
      (wp_X6_takeRowEnd_40 Q F 1))
  else
    (if (F 3 5) = (F 3 4) then
      (wp_X6_takeRowEnd_40 Q F 1)
    else
      (wp_X6_takeRowEnd_40 Q F 0))
set_option maxRecDepth 20000 in
set_option maxHeartbeats 4000000 in
theorem j_X6_takeRowEnd_40 {p : Program} {l : Launch} {e : Env} {s : State} {m : MethodId} {args : Array Value} {below : List Frame} {meth : Method} {c : Code} {E : gE} (hC : CX p s m args meth c cX6_takeRowEnd RX6 (some .boolean) E 2) {Q : Int32 → gS → Prop} {F : gS} {t0 : Int32} (h : wp_X6_takeRowEnd_40 Q F t0) : VV p l e rm_X6_takeRowEnd s m args below meth c 0 0 (MQ below (va_Qi (fun r G => (r = 0 ∨ r = 1) ∧ Q r G) (gB E) (gA E)) args s 0 0 (gA E)) E 2 F 40 [(0, .ref (ad E 3))] [.int t0] := by
  unfold wp_X6_takeRowEnd_40 at h
  refine v_istore_n (pc := 40) (lv' := [(1, .int t0), (0, .ref (ad E 3))]) hC dX6_takeRowEnd_40 rfl (by decide) rfl ?_
  refine v_iload_n (pc := 41) hC dX6_takeRowEnd_41 rfl 0 rfl ?_
  refine v_if_eq (pc := 42) (tgt := 53) hC dX6_takeRowEnd_42 (by decide) h (fun h => ?_) (fun h => ?_)
  · skip
    refine v_iconst (pc := 53) (v := 0) hC dX6_takeRowEnd_53 (by decide) ?_
    exact v_zret (pc := 54) hC dX6_takeRowEnd_54 (Or.inl rfl) ⟨Or.inl rfl, h⟩
  · skip
    refine v_aload_n (pc := 45) hC dX6_takeRowEnd_45 rfl 1 rfl ?_
    refine v_get (pc := 46) (v := .int (F 3 2)) hC fl_X6_19 kq_3 rfl dX6_takeRowEnd_46 ?_
    refine v_iconst (pc := 49) (v := 4) hC dX6_takeRowEnd_49 (by decide) ?_
    refine v_ic_lt (pc := 50) (tgt := 55) hC dX6_takeRowEnd_50 (by decide) h (fun h => ?_) (fun h => ?_)
    · skip
      refine v_aload_n (pc := 55) hC dX6_takeRowEnd_55 rfl 1 rfl ?_
      refine v_aload_n (pc := 56) hC dX6_takeRowEnd_56 rfl 1 rfl ?_
      refine v_get (pc := 57) (v := .int (F 3 5)) hC fl_X6_26 kq_3 rfl dX6_takeRowEnd_57 ?_
      refine v_puti (pc := 60) hC fp_X6_29 kq_3 (fs_6_4 E _ _ _) (fn_6_4 E _ _) dX6_takeRowEnd_60 h (fun F1 h => ?_)
      refine v_aload_n (pc := 63) hC dX6_takeRowEnd_63 rfl 1 rfl ?_
      refine v_dup (pc := 64) hC dX6_takeRowEnd_64 rfl ?_
      refine v_get (pc := 65) (v := .int (F1 3 2)) hC fl_X6_19 kq_3 rfl dX6_takeRowEnd_65 ?_
      refine v_iconst (pc := 68) (v := 1) hC dX6_takeRowEnd_68 (by decide) ?_
      refine v_iadd (pc := 69) hC dX6_takeRowEnd_69 ?_
      refine v_puti (pc := 70) hC fp_X6_19 kq_3 (fs_6_2 E _ _ _) (fn_6_2 E _ _) dX6_takeRowEnd_70 h (fun F2 h => ?_)
      refine v_aload_n (pc := 73) hC dX6_takeRowEnd_73 rfl 1 rfl ?_
      refine v_iconst (pc := 74) (v := 0) hC dX6_takeRowEnd_74 (by decide) ?_
      refine v_puti (pc := 75) hC fp_X6_26 kq_3 (fs_6_5 E _ _ _) (fn_6_5 E _ _) dX6_takeRowEnd_75 h (fun F3 h => ?_)
      refine v_aload_n (pc := 78) hC dX6_takeRowEnd_78 rfl 1 rfl ?_
      refine v_iconst (pc := 79) (v := 0) hC dX6_takeRowEnd_79 (by decide) ?_
      refine v_putz (pc := 80) hC fp_X6_32 kq_3 (fs_6_6 E _ _ _) (fn_6_6 E _ _) dX6_takeRowEnd_80 (Or.inl rfl) h (fun F4 h => ?_)
      refine v_iconst (pc := 83) (v := 1) hC dX6_takeRowEnd_83 (by decide) ?_
      exact v_zret (pc := 84) hC dX6_takeRowEnd_84 (Or.inr rfl) ⟨Or.inr rfl, h⟩
    · skip
      refine v_iconst (pc := 53) (v := 0) hC dX6_takeRowEnd_53 (by decide) ?_
      exact v_zret (pc := 54) hC dX6_takeRowEnd_54 (Or.inl rfl) ⟨Or.inl rfl, h⟩
set_option maxRecDepth 20000 in
set_option maxHeartbeats 4000000 in
theorem c_X6_takeRowEnd (l : Launch) (E : gE) {F : gS} {Q : Int32 → gS → Prop} (h : wp_X6_takeRowEnd F Q) : CtI l E yX6_takeRowEnd cX6_takeRowEnd 2 (some .boolean) rm_X6_takeRowEnd [.ref (ad E 3)] F (fun r G => (r = 0 ∨ r = 1) ∧ Q r G) := by
  refine ct_of (by decide) (Nat.le_of_ble_eq_true rfl) (fun p e s m below meth c hC => ?_)
  generalize ([.ref (ad E 3)] : List Value).toArray = args at hC ⊢
  refine v_sub (lv' := [(0, .ref (ad E 3))]) [0] rfl ?_
  unfold wp_X6_takeRowEnd at h
  refine v_aload_n (pc := 0) hC dX6_takeRowEnd_0 rfl 0 rfl ?_
  refine v_get (pc := 1) (v := .int (F 3 2)) hC fl_X6_19 kq_3 rfl dX6_takeRowEnd_1 ?_
  refine v_iconst (pc := 4) (v := 1) hC dX6_takeRowEnd_4 (by decide) ?_
  refine v_ic_ne (pc := 5) (tgt := 24) hC dX6_takeRowEnd_5 (by decide) h (fun h => ?_) (fun h => ?_)
  · skip
    refine v_aload_n (pc := 24) hC dX6_takeRowEnd_24 rfl 0 rfl ?_
    refine v_get (pc := 25) (v := .int (F 3 5)) hC fl_X6_26 kq_3 rfl dX6_takeRowEnd_25 ?_
    refine v_aload_n (pc := 28) hC dX6_takeRowEnd_28 rfl 0 rfl ?_
    refine v_get (pc := 29) (v := .int (F 3 4)) hC fl_X6_29 kq_3 rfl dX6_takeRowEnd_29 ?_
    refine v_ic_ne (pc := 32) (tgt := 39) hC dX6_takeRowEnd_32 (by decide) h (fun h => ?_) (fun h => ?_)
    · skip
      refine v_iconst (pc := 39) (v := 0) hC dX6_takeRowEnd_39 (by decide) ?_
      exact v_sub [0] rfl (j_X6_takeRowEnd_40 hC h)
    · skip
      refine v_iconst (pc := 35) (v := 1) hC dX6_takeRowEnd_35 (by decide) ?_
      refine v_goto (pc := 36) (tgt := 40) hC dX6_takeRowEnd_36 (by decide) ?_
      exact v_sub [0] rfl (j_X6_takeRowEnd_40 hC h)
  · skip
    refine v_aload_n (pc := 8) hC dX6_takeRowEnd_8 rfl 0 rfl ?_
    refine v_get (pc := 9) (v := .int (F 3 5)) hC fl_X6_26 kq_3 rfl dX6_takeRowEnd_9 ?_
    refine v_iconst (pc := 12) (v := 2) hC dX6_takeRowEnd_12 (by decide) ?_
    refine v_ic_lt (pc := 13) (tgt := 20) hC dX6_takeRowEnd_13 (by decide) h (fun h => ?_) (fun h => ?_)
    · skip
      refine v_iconst (pc := 20) (v := 0) hC dX6_takeRowEnd_20 (by decide) ?_
      refine v_goto (pc := 21) (tgt := 40) hC dX6_takeRowEnd_21 (by decide) ?_
      exact v_sub [0] rfl (j_X6_takeRowEnd_40 hC h)
    · skip
      refine v_iconst (pc := 16) (v := 1) hC dX6_takeRowEnd_16 (by decide) ?_
      refine v_goto (pc := 17) (tgt := 40) hC dX6_takeRowEnd_17 (by decide) ?_
      exact v_sub [0] rfl (j_X6_takeRowEnd_40 hC h)
def rm_X6_take : Room := { frames := 1, cells := 0, slots := 0, locals := 22 }
def wp_X6_take (x1 : Int32) (F : gS) (Q : Int32 → gS → Prop) : Prop :=
  wp_X9_isDigit x1 F fun r1 =>
  if r1 = 0 then
    (if x1 = 115 then
      (wp_X6_takeSticky F fun r6 F7 =>
      Q r6 F7)
    else
      (if x1 = 47 then
        (wp_X6_takeRowEnd F fun r3 F4 =>
        if r3 = 0 then
          (Q 0 F4)
        else
          (Q 1 F4))
      else
        (Q 0 F)))
  else
    (wp_X6_takeRing (x1 - 48) F fun r9 F10 =>
    Q r9 F10)
set_option maxRecDepth 20000 in
set_option maxHeartbeats 4000000 in
theorem c_X6_take (l : Launch) (E : gE) {x1 : Int32} {F : gS} {Q : Int32 → gS → Prop} (h : wp_X6_take x1 F Q) : CtI l E yX6_take cX6_take 2 (some .boolean) rm_X6_take [.ref (ad E 3), .int x1] F (fun r G => (r = 0 ∨ r = 1) ∧ Q r G) := by
  refine ct_of (by decide) (Nat.le_of_ble_eq_true rfl) (fun p e s m below meth c hC => ?_)
  generalize ([.ref (ad E 3), .int x1] : List Value).toArray = args at hC ⊢
  refine v_sub (lv' := [(0, .ref (ad E 3)), (1, .int x1)]) [0, 1] rfl ?_
  unfold wp_X6_take at h
  refine v_iload_n (pc := 0) hC dX6_take_0 rfl 1 rfl ?_
  refine v_cyp (pc := 1) (r_SU (rest := []) hC ml_X6_36 sa_PanText_isDigit rfl ms_X9_isDigit (c_X9_isDigit l E h) ⟨rfl, rfl⟩ ⟨Nat.le_of_ble_eq_true rfl, Nat.le_of_ble_eq_true rfl⟩ rfl rfl (Nat.le_of_ble_eq_true rfl) ⟨Nat.zero_le _, Nat.zero_le _⟩ dX6_take_1) (fun r1 b2 h => ?_)
  refine v_if_eq (pc := 4) (tgt := 16) hC dX6_take_4 (by decide) h (fun h => ?_) (fun h => ?_)
  · skip
    refine v_iload_n (pc := 16) hC dX6_take_16 rfl 1 rfl ?_
    refine v_bipush (pc := 17) (v := 115) hC dX6_take_17 (by decide) ?_
    refine v_ic_ne (pc := 19) (tgt := 27) hC dX6_take_19 (by decide) h (fun h => ?_) (fun h => ?_)
    · skip
      refine v_iload_n (pc := 27) hC dX6_take_27 rfl 1 rfl ?_
      refine v_bipush (pc := 28) (v := 47) hC dX6_take_28 (by decide) ?_
      refine v_ic_ne (pc := 30) (tgt := 44) hC dX6_take_30 (by decide) h (fun h => ?_) (fun h => ?_)
      · skip
        refine v_iconst (pc := 44) (v := 0) hC dX6_take_44 (by decide) ?_
        exact v_zret (pc := 45) hC dX6_take_45 (Or.inl rfl) ⟨Or.inl rfl, h⟩
      · skip
        refine v_aload_n (pc := 33) hC dX6_take_33 rfl 0 rfl ?_
        refine v_ci (pc := 34) (r_V (rest := []) hC ml_X6_47 mv_X6_takeRowEnd (c_X6_takeRowEnd l E h) ⟨rfl, rfl⟩ ⟨Nat.le_of_ble_eq_true rfl, Nat.le_of_ble_eq_true rfl⟩ kq_3 rfl (by decide) rfl rfl (Nat.le_of_ble_eq_true rfl) ⟨Nat.zero_le _, Nat.zero_le _⟩ dX6_take_34) (fun r3 F4 h => ?_)
        obtain ⟨b5, h⟩ := h
        refine v_if_eq (pc := 37) (tgt := 44) hC dX6_take_37 (by decide) h (fun h => ?_) (fun h => ?_)
        · skip
          refine v_iconst (pc := 44) (v := 0) hC dX6_take_44 (by decide) ?_
          exact v_zret (pc := 45) hC dX6_take_45 (Or.inl rfl) ⟨Or.inl rfl, h⟩
        · skip
          refine v_iconst (pc := 40) (v := 1) hC dX6_take_40 (by decide) ?_
          refine v_goto (pc := 41) (tgt := 45) hC dX6_take_41 (by decide) ?_
          exact v_zret (pc := 45) hC dX6_take_45 (Or.inr rfl) ⟨Or.inr rfl, h⟩
    · skip
      refine v_aload_n (pc := 22) hC dX6_take_22 rfl 0 rfl ?_
      refine v_ci (pc := 23) (r_V (rest := []) hC ml_X6_43 mv_X6_takeSticky (c_X6_takeSticky l E h) ⟨rfl, rfl⟩ ⟨Nat.le_of_ble_eq_true rfl, Nat.le_of_ble_eq_true rfl⟩ kq_3 rfl (by decide) rfl rfl (Nat.le_of_ble_eq_true rfl) ⟨Nat.zero_le _, Nat.zero_le _⟩ dX6_take_23) (fun r6 F7 h => ?_)
      obtain ⟨b8, h⟩ := h
      exact v_zret (pc := 26) hC dX6_take_26 b8 ⟨b8, h⟩
  · skip
    refine v_aload_n (pc := 7) hC dX6_take_7 rfl 0 rfl ?_
    refine v_iload_n (pc := 8) hC dX6_take_8 rfl 1 rfl ?_
    refine v_bipush (pc := 9) (v := 48) hC dX6_take_9 (by decide) ?_
    refine v_isub (pc := 11) hC dX6_take_11 ?_
    refine v_ci (pc := 12) (r_V (rest := []) hC ml_X6_40 mv_X6_takeRing (c_X6_takeRing l E h) ⟨rfl, rfl⟩ ⟨Nat.le_of_ble_eq_true rfl, Nat.le_of_ble_eq_true rfl⟩ kq_3 rfl (by decide) rfl rfl (Nat.le_of_ble_eq_true rfl) ⟨Nat.zero_le _, Nat.zero_le _⟩ dX6_take_12) (fun r9 F10 h => ?_)
    obtain ⟨b11, h⟩ := h
    exact v_zret (pc := 15) hC dX6_take_15 b11 ⟨b11, h⟩
def rm_X8_begin : Room := { frames := 1, cells := 0, slots := 0, locals := 23 }
def wp_X8_begin (F : gS) (Q : gS → Prop) : Prop :=
  wp_J7_fill_53178_5 7 0 F fun F1 =>
  Nm (upF F1 6 2 0) fun F2 =>
  Nm (upF F2 6 3 0) fun F3 =>
  Q F3
set_option maxRecDepth 20000 in
set_option maxHeartbeats 4000000 in
theorem c_X8_begin (l : Launch) (E : gE) {F : gS} {Q : gS → Prop} (h : wp_X8_begin F Q) : CtV l E yX8_begin cX8_begin 1 none rm_X8_begin [.ref (ad E 6)] F Q := by
  refine ct_of (by decide) (Nat.le_of_ble_eq_true rfl) (fun p e s m below meth c hC => ?_)
  generalize ([.ref (ad E 6)] : List Value).toArray = args at hC ⊢
  refine v_sub (lv' := [(0, .ref (ad E 6))]) [0] rfl ?_
  unfold wp_X8_begin at h
  refine v_aload_n (pc := 0) hC dX8_begin_0 rfl 0 rfl ?_
  refine v_get (pc := 1) (v := .ref (ad E 7)) hC fl_X8_9 kq_6 rfl dX8_begin_1 ?_
  refine v_iconst (pc := 4) (v := 0) hC dX8_begin_4 (by decide) ?_
  refine v_cv (pc := 5) (r_S (rest := []) hC ml_X8_18 ms_J7_fill_53178 (c_J7_fill_53178_5 l E kq_7 h) ⟨rfl, rfl⟩ ⟨Nat.le_of_ble_eq_true rfl, Nat.le_of_ble_eq_true rfl⟩ rfl rfl (Nat.le_of_ble_eq_true rfl) ⟨Nat.zero_le _, Nat.zero_le _⟩ dX8_begin_5) (fun F1 h => ?_)
  refine v_aload_n (pc := 8) hC dX8_begin_8 rfl 0 rfl ?_
  refine v_iconst (pc := 9) (v := 0) hC dX8_begin_9 (by decide) ?_
  refine v_puti (pc := 10) hC fp_X8_24 kq_6 (fs_8_2 E _ _ _) (fn_8_2 E _ _) dX8_begin_10 h (fun F2 h => ?_)
  refine v_aload_n (pc := 13) hC dX8_begin_13 rfl 0 rfl ?_
  refine v_iconst (pc := 14) (v := 0) hC dX8_begin_14 (by decide) ?_
  refine v_puti (pc := 15) hC fp_X8_28 kq_6 (fs_8_3 E _ _ _) (fn_8_3 E _ _) dX8_begin_15 h (fun F3 h => ?_)
  exact v_vret (pc := 18) hC dX8_begin_18 h
def rm_X8_whole : Room := { frames := 0, cells := 0, slots := 0, locals := 0 }
def wp_X8_whole (F : gS) (Q : Int32 → Prop) : Prop :=
  if (F 6 3) = 4 then
    (vp_in 4 5 ∧
    if (F 7 (4 : Int32).toNatClampNeg) ≤ 0 then
      (Q 0)
    else
      (Q 1))
  else
    (Q 0)
set_option maxRecDepth 20000 in
set_option maxHeartbeats 4000000 in
theorem c_X8_whole (l : Launch) (E : gE) {F : gS} {Q : Int32 → Prop} (h : wp_X8_whole F Q) : CtI l E yX8_whole cX8_whole 1 (some .boolean) rm_X8_whole [.ref (ad E 6)] F (fun r G => (r = 0 ∨ r = 1) ∧ G = F ∧ Q r) := by
  refine ct_of (by decide) (Nat.le_of_ble_eq_true rfl) (fun p e s m below meth c hC => ?_)
  generalize ([.ref (ad E 6)] : List Value).toArray = args at hC ⊢
  refine v_sub (lv' := [(0, .ref (ad E 6))]) [0] rfl ?_
  unfold wp_X8_whole at h
  refine v_aload_n (pc := 0) hC dX8_whole_0 rfl 0 rfl ?_
  refine v_get (pc := 1) (v := .int (F 6 3)) hC fl_X8_28 kq_6 rfl dX8_whole_1 ?_
  refine v_iconst (pc := 4) (v := 4) hC dX8_whole_4 (by decide) ?_
  refine v_ic_ne (pc := 5) (tgt := 21) hC dX8_whole_5 (by decide) h (fun h => ?_) (fun h => ?_)
  · skip
    refine v_iconst (pc := 21) (v := 0) hC dX8_whole_21 (by decide) ?_
    exact v_zret (pc := 22) hC dX8_whole_22 (Or.inl rfl) ⟨Or.inl rfl, rfl, h⟩
  · skip
    refine v_aload_n (pc := 8) hC dX8_whole_8 rfl 0 rfl ?_
    refine v_get (pc := 9) (v := .ref (ad E 7)) hC fl_X8_9 kq_6 rfl dX8_whole_9 ?_
    refine v_iconst (pc := 12) (v := 4) hC dX8_whole_12 (by decide) ?_
    refine v_iald (pc := 13) (n := 5) hC kq_7 (by decide) dX8_whole_13 h (fun h => ?_)
    refine v_if_le (pc := 14) (tgt := 21) hC dX8_whole_14 (by decide) h (fun h => ?_) (fun h => ?_)
    · skip
      refine v_iconst (pc := 21) (v := 0) hC dX8_whole_21 (by decide) ?_
      exact v_zret (pc := 22) hC dX8_whole_22 (Or.inl rfl) ⟨Or.inl rfl, rfl, h⟩
    · skip
      refine v_iconst (pc := 17) (v := 1) hC dX8_whole_17 (by decide) ?_
      refine v_goto (pc := 18) (tgt := 22) hC dX8_whole_18 (by decide) ?_
      exact v_zret (pc := 22) hC dX8_whole_22 (Or.inr rfl) ⟨Or.inr rfl, rfl, h⟩
def rm_X8_takeDigit : Room := { frames := 0, cells := 0, slots := 0, locals := 0 }
def wp_X8_takeDigit (x1 : Int32) (F : gS) (Q : Int32 → gS → Prop) : Prop :=
  vp_in (F 6 3) 5 ∧
  Nm ((10 * (F 7 (F 6 3).toNatClampNeg)) + x1) fun n1 =>
  if n1 < 1 then
    (Q 0 F)
  else
    (vp_in (F 6 3) 5 ∧
    if (gMost.getD (F 6 3).toNatClampNeg 0) < n1 then
      (Q 0 F)
    else
      (if (F 6 3) = 2 then
        (if (F 6 2) ≤ 0 then
          (vp_in (F 6 3) 5 ∧ Nm (upF F 7 (F 6 3).toNatClampNeg n1) fun F3 =>
          Q 1 F3)
        else
          (Q 0 F))
      else
        (vp_in (F 6 3) 5 ∧ Nm (upF F 7 (F 6 3).toNatClampNeg n1) fun F2 =>
        Q 1 F2)))
set_option maxRecDepth 20000 in
set_option maxHeartbeats 4000000 in
theorem c_X8_takeDigit (l : Launch) (E : gE) {x1 : Int32} {F : gS} {Q : Int32 → gS → Prop} (h : wp_X8_takeDigit x1 F Q) : CtI l E yX8_takeDigit cX8_takeDigit 3 (some .boolean) rm_X8_takeDigit [.ref (ad E 6), .int x1] F (fun r G => (r = 0 ∨ r = 1) ∧ Q r G) := by
  refine ct_of (by decide) (Nat.le_of_ble_eq_true rfl) (fun p e s m below meth c hC => ?_)
  generalize ([.ref (ad E 6), .int x1] : List Value).toArray = args at hC ⊢
  refine v_sub (lv' := [(0, .ref (ad E 6)), (1, .int x1)]) [0, 1] rfl ?_
  unfold wp_X8_takeDigit at h
  refine v_bipush (pc := 0) (v := 10) hC dX8_takeDigit_0 (by decide) ?_
  refine v_aload_n (pc := 2) hC dX8_takeDigit_2 rfl 0 rfl ?_
  refine v_get (pc := 3) (v := .ref (ad E 7)) hC fl_X8_9 kq_6 rfl dX8_takeDigit_3 ?_
  refine v_aload_n (pc := 6) hC dX8_takeDigit_6 rfl 0 rfl ?_
  refine v_get (pc := 7) (v := .int (F 6 3)) hC fl_X8_28 kq_6 rfl dX8_takeDigit_7 ?_
  refine v_iald (pc := 10) (n := 5) hC kq_7 (by decide) dX8_takeDigit_10 h (fun h => ?_)
  refine v_imul (pc := 11) hC dX8_takeDigit_11 ?_
  refine v_iload_n (pc := 12) hC dX8_takeDigit_12 rfl 1 rfl ?_
  refine v_iadd (pc := 13) hC dX8_takeDigit_13 ?_
  refine v_nmi h (fun n1 h => ?_)
  refine v_istore_n (pc := 14) (lv' := [(2, .int n1), (0, .ref (ad E 6)), (1, .int x1)]) hC dX8_takeDigit_14 rfl (by decide) rfl ?_
  refine v_iload_n (pc := 15) hC dX8_takeDigit_15 rfl 0 rfl ?_
  refine v_iconst (pc := 16) (v := 1) hC dX8_takeDigit_16 (by decide) ?_
  refine v_ic_lt (pc := 17) (tgt := 47) hC dX8_takeDigit_17 (by decide) h (fun h => ?_) (fun h => ?_)
  · skip
    refine v_iconst (pc := 47) (v := 0) hC dX8_takeDigit_47 (by decide) ?_
    exact v_zret (pc := 48) hC dX8_takeDigit_48 (Or.inl rfl) ⟨Or.inl rfl, h⟩
  · skip
    refine v_iload_n (pc := 20) hC dX8_takeDigit_20 rfl 0 rfl ?_
    refine v_gets (pc := 21) (v := .ref (E.2.2.2 3)) hC hC.2.2.2.2.2.1.2.2.2.1.2.2.2.2.1 sl_X8_52 dX8_takeDigit_21 ?_
    refine v_aload_n (pc := 24) hC dX8_takeDigit_24 rfl 1 rfl ?_
    refine v_get (pc := 25) (v := .int (F 6 3)) hC fl_X8_28 kq_6 rfl dX8_takeDigit_25 ?_
    refine v_tald (pc := 28) (f := fun j => gMost.getD j 0) hC hC.2.2.2.2.2.1.2.2.2.1.2.2.2.2.2.1 dX8_takeDigit_28 h (fun h => ?_)
    refine v_ic_gt (pc := 29) (tgt := 47) hC dX8_takeDigit_29 (by decide) h (fun h => ?_) (fun h => ?_)
    · skip
      refine v_iconst (pc := 47) (v := 0) hC dX8_takeDigit_47 (by decide) ?_
      exact v_zret (pc := 48) hC dX8_takeDigit_48 (Or.inl rfl) ⟨Or.inl rfl, h⟩
    · skip
      refine v_aload_n (pc := 32) hC dX8_takeDigit_32 rfl 1 rfl ?_
      refine v_get (pc := 33) (v := .int (F 6 3)) hC fl_X8_28 kq_6 rfl dX8_takeDigit_33 ?_
      refine v_iconst (pc := 36) (v := 2) hC dX8_takeDigit_36 (by decide) ?_
      refine v_ic_ne (pc := 37) (tgt := 49) hC dX8_takeDigit_37 (by decide) h (fun h => ?_) (fun h => ?_)
      · skip
        refine v_aload_n (pc := 49) hC dX8_takeDigit_49 rfl 1 rfl ?_
        refine v_get (pc := 50) (v := .ref (ad E 7)) hC fl_X8_9 kq_6 rfl dX8_takeDigit_50 ?_
        refine v_aload_n (pc := 53) hC dX8_takeDigit_53 rfl 1 rfl ?_
        refine v_get (pc := 54) (v := .int (F 6 3)) hC fl_X8_28 kq_6 rfl dX8_takeDigit_54 ?_
        refine v_iload_n (pc := 57) hC dX8_takeDigit_57 rfl 0 rfl ?_
        refine v_iast (pc := 58) (n := 5) hC kq_7 (by decide) dX8_takeDigit_58 h (fun F2 h => ?_)
        refine v_iconst (pc := 59) (v := 1) hC dX8_takeDigit_59 (by decide) ?_
        exact v_zret (pc := 60) hC dX8_takeDigit_60 (Or.inr rfl) ⟨Or.inr rfl, h⟩
      · skip
        refine v_aload_n (pc := 40) hC dX8_takeDigit_40 rfl 1 rfl ?_
        refine v_get (pc := 41) (v := .int (F 6 2)) hC fl_X8_24 kq_6 rfl dX8_takeDigit_41 ?_
        refine v_if_le (pc := 44) (tgt := 49) hC dX8_takeDigit_44 (by decide) h (fun h => ?_) (fun h => ?_)
        · skip
          refine v_aload_n (pc := 49) hC dX8_takeDigit_49 rfl 1 rfl ?_
          refine v_get (pc := 50) (v := .ref (ad E 7)) hC fl_X8_9 kq_6 rfl dX8_takeDigit_50 ?_
          refine v_aload_n (pc := 53) hC dX8_takeDigit_53 rfl 1 rfl ?_
          refine v_get (pc := 54) (v := .int (F 6 3)) hC fl_X8_28 kq_6 rfl dX8_takeDigit_54 ?_
          refine v_iload_n (pc := 57) hC dX8_takeDigit_57 rfl 0 rfl ?_
          refine v_iast (pc := 58) (n := 5) hC kq_7 (by decide) dX8_takeDigit_58 h (fun F3 h => ?_)
          refine v_iconst (pc := 59) (v := 1) hC dX8_takeDigit_59 (by decide) ?_
          exact v_zret (pc := 60) hC dX8_takeDigit_60 (Or.inr rfl) ⟨Or.inr rfl, h⟩
        · skip
          refine v_iconst (pc := 47) (v := 0) hC dX8_takeDigit_47 (by decide) ?_
          exact v_zret (pc := 48) hC dX8_takeDigit_48 (Or.inl rfl) ⟨Or.inl rfl, h⟩
def rm_X8_takeSwing : Room := { frames := 0, cells := 0, slots := 0, locals := 0 }
def wp_X8_takeSwing (x1 : Int32) (F : gS) (Q : Int32 → gS → Prop) : Prop :=
  if (F 6 3) = 2 then
    (vp_in 2 5 ∧
    if (F 7 (2 : Int32).toNatClampNeg) < 1 then
      (Q 0 F)
    else
      (if (F 6 2) < 6 then
        (vp_in (F 6 2) 6 ∧ Nm (upF F 8 (F 6 2).toNatClampNeg x1) fun F1 =>
        Nm (upF F1 6 2 ((F1 6 2) + 1)) fun F2 =>
        Q 1 F2)
      else
        (Q 0 F)))
  else
    (Q 0 F)
set_option maxRecDepth 20000 in
set_option maxHeartbeats 4000000 in
theorem c_X8_takeSwing (l : Launch) (E : gE) {x1 : Int32} {F : gS} {Q : Int32 → gS → Prop} (h : wp_X8_takeSwing x1 F Q) : CtI l E yX8_takeSwing cX8_takeSwing 2 (some .boolean) rm_X8_takeSwing [.ref (ad E 6), .int x1] F (fun r G => (r = 0 ∨ r = 1) ∧ Q r G) := by
  refine ct_of (by decide) (Nat.le_of_ble_eq_true rfl) (fun p e s m below meth c hC => ?_)
  generalize ([.ref (ad E 6), .int x1] : List Value).toArray = args at hC ⊢
  refine v_sub (lv' := [(0, .ref (ad E 6)), (1, .int x1)]) [0, 1] rfl ?_
  unfold wp_X8_takeSwing at h
  refine v_aload_n (pc := 0) hC dX8_takeSwing_0 rfl 0 rfl ?_
  refine v_get (pc := 1) (v := .int (F 6 3)) hC fl_X8_28 kq_6 rfl dX8_takeSwing_1 ?_
  refine v_iconst (pc := 4) (v := 2) hC dX8_takeSwing_4 (by decide) ?_
  refine v_ic_ne (pc := 5) (tgt := 27) hC dX8_takeSwing_5 (by decide) h (fun h => ?_) (fun h => ?_)
  · skip
    refine v_iconst (pc := 27) (v := 0) hC dX8_takeSwing_27 (by decide) ?_
    exact v_zret (pc := 28) hC dX8_takeSwing_28 (Or.inl rfl) ⟨Or.inl rfl, h⟩
  · skip
    refine v_aload_n (pc := 8) hC dX8_takeSwing_8 rfl 0 rfl ?_
    refine v_get (pc := 9) (v := .ref (ad E 7)) hC fl_X8_9 kq_6 rfl dX8_takeSwing_9 ?_
    refine v_iconst (pc := 12) (v := 2) hC dX8_takeSwing_12 (by decide) ?_
    refine v_iald (pc := 13) (n := 5) hC kq_7 (by decide) dX8_takeSwing_13 h (fun h => ?_)
    refine v_iconst (pc := 14) (v := 1) hC dX8_takeSwing_14 (by decide) ?_
    refine v_ic_lt (pc := 15) (tgt := 27) hC dX8_takeSwing_15 (by decide) h (fun h => ?_) (fun h => ?_)
    · skip
      refine v_iconst (pc := 27) (v := 0) hC dX8_takeSwing_27 (by decide) ?_
      exact v_zret (pc := 28) hC dX8_takeSwing_28 (Or.inl rfl) ⟨Or.inl rfl, h⟩
    · skip
      refine v_aload_n (pc := 18) hC dX8_takeSwing_18 rfl 0 rfl ?_
      refine v_get (pc := 19) (v := .int (F 6 2)) hC fl_X8_24 kq_6 rfl dX8_takeSwing_19 ?_
      refine v_bipush (pc := 22) (v := 6) hC dX8_takeSwing_22 (by decide) ?_
      refine v_ic_lt (pc := 24) (tgt := 29) hC dX8_takeSwing_24 (by decide) h (fun h => ?_) (fun h => ?_)
      · skip
        refine v_aload_n (pc := 29) hC dX8_takeSwing_29 rfl 0 rfl ?_
        refine v_get (pc := 30) (v := .ref (ad E 8)) hC fl_X8_15 kq_6 rfl dX8_takeSwing_30 ?_
        refine v_aload_n (pc := 33) hC dX8_takeSwing_33 rfl 0 rfl ?_
        refine v_get (pc := 34) (v := .int (F 6 2)) hC fl_X8_24 kq_6 rfl dX8_takeSwing_34 ?_
        refine v_iload_n (pc := 37) hC dX8_takeSwing_37 rfl 1 rfl ?_
        refine v_iast (pc := 38) (n := 6) hC kq_8 (by decide) dX8_takeSwing_38 h (fun F1 h => ?_)
        refine v_aload_n (pc := 39) hC dX8_takeSwing_39 rfl 0 rfl ?_
        refine v_dup (pc := 40) hC dX8_takeSwing_40 rfl ?_
        refine v_get (pc := 41) (v := .int (F1 6 2)) hC fl_X8_24 kq_6 rfl dX8_takeSwing_41 ?_
        refine v_iconst (pc := 44) (v := 1) hC dX8_takeSwing_44 (by decide) ?_
        refine v_iadd (pc := 45) hC dX8_takeSwing_45 ?_
        refine v_puti (pc := 46) hC fp_X8_24 kq_6 (fs_8_2 E _ _ _) (fn_8_2 E _ _) dX8_takeSwing_46 h (fun F2 h => ?_)
        refine v_iconst (pc := 49) (v := 1) hC dX8_takeSwing_49 (by decide) ?_
        exact v_zret (pc := 50) hC dX8_takeSwing_50 (Or.inr rfl) ⟨Or.inr rfl, h⟩
      · skip
        refine v_iconst (pc := 27) (v := 0) hC dX8_takeSwing_27 (by decide) ?_
        exact v_zret (pc := 28) hC dX8_takeSwing_28 (Or.inl rfl) ⟨Or.inl rfl, h⟩
def rm_X8_takeSign : Room := { frames := 4, cells := 0, slots := 0, locals := 85 }
def wp_X8_takeSign (x1 : Int32) (F : gS) (Q : Int32 → gS → Prop) : Prop :=
  if 4 ≤ (F 6 3) then
    (Q 0 F)
  else
    (wp_J0_charAt_5068e_1 (F 6 3) F fun r1 =>
    if x1 = r1 then
      (if (F 6 3) ≤ 0 then
        (Nm (upF F 6 3 ((F 6 3) + 1)) fun F3 =>
        Q 1 F3)
      else
        (vp_in (F 6 3) 5 ∧
        if 1 ≤ (F 7 (F 6 3).toNatClampNeg) then
          (Nm (upF F 6 3 ((F 6 3) + 1)) fun F4 =>
          Q 1 F4)
        else
          (Q 0 F)))
    else
      (Q 0 F))
set_option maxRecDepth 20000 in
set_option maxHeartbeats 4000000 in
theorem c_X8_takeSign (l : Launch) (E : gE) {x1 : Int32} {F : gS} {Q : Int32 → gS → Prop} (h : wp_X8_takeSign x1 F Q) : CtI l E yX8_takeSign cX8_takeSign 2 (some .boolean) rm_X8_takeSign [.ref (ad E 6), .int x1] F (fun r G => (r = 0 ∨ r = 1) ∧ Q r G) := by
  refine ct_of (by decide) (Nat.le_of_ble_eq_true rfl) (fun p e s m below meth c hC => ?_)
  generalize ([.ref (ad E 6), .int x1] : List Value).toArray = args at hC ⊢
  refine v_sub (lv' := [(0, .ref (ad E 6)), (1, .int x1)]) [0, 1] rfl ?_
  unfold wp_X8_takeSign at h
  refine v_aload_n (pc := 0) hC dX8_takeSign_0 rfl 0 rfl ?_
  refine v_get (pc := 1) (v := .int (F 6 3)) hC fl_X8_28 kq_6 rfl dX8_takeSign_1 ?_
  refine v_iconst (pc := 4) (v := 4) hC dX8_takeSign_4 (by decide) ?_
  refine v_ic_ge (pc := 5) (tgt := 41) hC dX8_takeSign_5 (by decide) h (fun h => ?_) (fun h => ?_)
  · skip
    refine v_iconst (pc := 41) (v := 0) hC dX8_takeSign_41 (by decide) ?_
    exact v_zret (pc := 42) hC dX8_takeSign_42 (Or.inl rfl) ⟨Or.inl rfl, h⟩
  · skip
    refine v_iload_n (pc := 8) hC dX8_takeSign_8 rfl 1 rfl ?_
    refine v_ldcS (pc := 9) hC hC.2.2.2.2.2.1.2.2.2.2.2.2 dX8_takeSign_9 ?_
    refine v_aload_n (pc := 11) hC dX8_takeSign_11 rfl 0 rfl ?_
    refine v_get (pc := 12) (v := .int (F 6 3)) hC fl_X8_28 kq_6 rfl dX8_takeSign_12 ?_
    refine v_cyp (pc := 15) (r_T (rest := [.int x1]) hC ml_X8_57 mv_J0_charAt_5068e 1 (c_J0_charAt_5068e_1 l E h) ⟨rfl, rfl⟩ ⟨Nat.le_of_ble_eq_true rfl, Nat.le_of_ble_eq_true rfl⟩ (by decide) rfl rfl rfl (Nat.le_of_ble_eq_true rfl) ⟨Nat.zero_le _, Nat.zero_le _⟩ dX8_takeSign_15) (fun r1 b2 h => ?_)
    refine v_ic_ne (pc := 18) (tgt := 41) hC dX8_takeSign_18 (by decide) h (fun h => ?_) (fun h => ?_)
    · skip
      refine v_iconst (pc := 41) (v := 0) hC dX8_takeSign_41 (by decide) ?_
      exact v_zret (pc := 42) hC dX8_takeSign_42 (Or.inl rfl) ⟨Or.inl rfl, h⟩
    · skip
      refine v_aload_n (pc := 21) hC dX8_takeSign_21 rfl 0 rfl ?_
      refine v_get (pc := 22) (v := .int (F 6 3)) hC fl_X8_28 kq_6 rfl dX8_takeSign_22 ?_
      refine v_if_le (pc := 25) (tgt := 43) hC dX8_takeSign_25 (by decide) h (fun h => ?_) (fun h => ?_)
      · skip
        refine v_aload_n (pc := 43) hC dX8_takeSign_43 rfl 0 rfl ?_
        refine v_dup (pc := 44) hC dX8_takeSign_44 rfl ?_
        refine v_get (pc := 45) (v := .int (F 6 3)) hC fl_X8_28 kq_6 rfl dX8_takeSign_45 ?_
        refine v_iconst (pc := 48) (v := 1) hC dX8_takeSign_48 (by decide) ?_
        refine v_iadd (pc := 49) hC dX8_takeSign_49 ?_
        refine v_puti (pc := 50) hC fp_X8_28 kq_6 (fs_8_3 E _ _ _) (fn_8_3 E _ _) dX8_takeSign_50 h (fun F3 h => ?_)
        refine v_iconst (pc := 53) (v := 1) hC dX8_takeSign_53 (by decide) ?_
        exact v_zret (pc := 54) hC dX8_takeSign_54 (Or.inr rfl) ⟨Or.inr rfl, h⟩
      · skip
        refine v_aload_n (pc := 28) hC dX8_takeSign_28 rfl 0 rfl ?_
        refine v_get (pc := 29) (v := .ref (ad E 7)) hC fl_X8_9 kq_6 rfl dX8_takeSign_29 ?_
        refine v_aload_n (pc := 32) hC dX8_takeSign_32 rfl 0 rfl ?_
        refine v_get (pc := 33) (v := .int (F 6 3)) hC fl_X8_28 kq_6 rfl dX8_takeSign_33 ?_
        refine v_iald (pc := 36) (n := 5) hC kq_7 (by decide) dX8_takeSign_36 h (fun h => ?_)
        refine v_iconst (pc := 37) (v := 1) hC dX8_takeSign_37 (by decide) ?_
        refine v_ic_ge (pc := 38) (tgt := 43) hC dX8_takeSign_38 (by decide) h (fun h => ?_) (fun h => ?_)
        · skip
          refine v_aload_n (pc := 43) hC dX8_takeSign_43 rfl 0 rfl ?_
          refine v_dup (pc := 44) hC dX8_takeSign_44 rfl ?_
          refine v_get (pc := 45) (v := .int (F 6 3)) hC fl_X8_28 kq_6 rfl dX8_takeSign_45 ?_
          refine v_iconst (pc := 48) (v := 1) hC dX8_takeSign_48 (by decide) ?_
          refine v_iadd (pc := 49) hC dX8_takeSign_49 ?_
          refine v_puti (pc := 50) hC fp_X8_28 kq_6 (fs_8_3 E _ _ _) (fn_8_3 E _ _) dX8_takeSign_50 h (fun F4 h => ?_)
          refine v_iconst (pc := 53) (v := 1) hC dX8_takeSign_53 (by decide) ?_
          exact v_zret (pc := 54) hC dX8_takeSign_54 (Or.inr rfl) ⟨Or.inr rfl, h⟩
        · skip
          refine v_iconst (pc := 41) (v := 0) hC dX8_takeSign_41 (by decide) ?_
          exact v_zret (pc := 42) hC dX8_takeSign_42 (Or.inl rfl) ⟨Or.inl rfl, h⟩
def rm_X8_take : Room := { frames := 5, cells := 0, slots := 0, locals := 106 }
def wp_X8_take (x1 : Int32) (F : gS) (Q : Int32 → gS → Prop) : Prop :=
  wp_X9_isDigit x1 F fun r1 =>
  if r1 = 0 then
    (wp_J0_indexOf_0f7a4_0 ((x1.toUInt32 % 65536).toInt32) F fun r3 =>
    if r3 < 0 then
      (wp_X8_takeSign x1 F fun r4 F5 =>
      Q r4 F5)
    else
      (wp_X8_takeSwing r3 F fun r7 F8 =>
      Q r7 F8))
  else
    (wp_X8_takeDigit (x1 - 48) F fun r10 F11 =>
    Q r10 F11)
set_option maxRecDepth 20000 in
set_option maxHeartbeats 4000000 in
theorem c_X8_take (l : Launch) (E : gE) {x1 : Int32} {F : gS} {Q : Int32 → gS → Prop} (h : wp_X8_take x1 F Q) : CtI l E yX8_take cX8_take 3 (some .boolean) rm_X8_take [.ref (ad E 6), .int x1] F (fun r G => (r = 0 ∨ r = 1) ∧ Q r G) := by
  refine ct_of (by decide) (Nat.le_of_ble_eq_true rfl) (fun p e s m below meth c hC => ?_)
  generalize ([.ref (ad E 6), .int x1] : List Value).toArray = args at hC ⊢
  refine v_sub (lv' := [(0, .ref (ad E 6)), (1, .int x1)]) [0, 1] rfl ?_
  unfold wp_X8_take at h
  refine v_iload_n (pc := 0) hC dX8_take_0 rfl 1 rfl ?_
  refine v_cyp (pc := 1) (r_SU (rest := []) hC ml_X8_31 sa_PlanText_isDigit rfl ms_X9_isDigit (c_X9_isDigit l E h) ⟨rfl, rfl⟩ ⟨Nat.le_of_ble_eq_true rfl, Nat.le_of_ble_eq_true rfl⟩ rfl rfl (Nat.le_of_ble_eq_true rfl) ⟨Nat.zero_le _, Nat.zero_le _⟩ dX8_take_1) (fun r1 b2 h => ?_)
  refine v_if_eq (pc := 4) (tgt := 16) hC dX8_take_4 (by decide) h (fun h => ?_) (fun h => ?_)
  · skip
    refine v_ldcS (pc := 16) hC hC.2.2.2.2.2.1.2.2.2.2.2.1 dX8_take_16 ?_
    refine v_iload_n (pc := 18) hC dX8_take_18 rfl 1 rfl ?_
    refine v_i2c (pc := 19) hC dX8_take_19 ?_
    refine v_cip (pc := 20) (r_T (rest := []) hC ml_X8_40 mv_J0_indexOf_0f7a4 0 (c_J0_indexOf_0f7a4_0 l E h) ⟨rfl, rfl⟩ ⟨Nat.le_of_ble_eq_true rfl, Nat.le_of_ble_eq_true rfl⟩ (by decide) rfl rfl rfl (Nat.le_of_ble_eq_true rfl) ⟨Nat.zero_le _, Nat.zero_le _⟩ dX8_take_20) (fun r3 h => ?_)
    refine v_istore_n (pc := 23) (lv' := [(2, .int r3), (0, .ref (ad E 6)), (1, .int x1)]) hC dX8_take_23 rfl (by decide) rfl ?_
    refine v_iload_n (pc := 24) hC dX8_take_24 rfl 0 rfl ?_
    refine v_if_lt (pc := 25) (tgt := 36) hC dX8_take_25 (by decide) h (fun h => ?_) (fun h => ?_)
    · skip
      refine v_aload_n (pc := 36) hC dX8_take_36 rfl 1 rfl ?_
      refine v_iload_n (pc := 37) hC dX8_take_37 rfl 2 rfl ?_
      refine v_ci (pc := 38) (r_V (rest := []) hC ml_X8_49 mv_X8_takeSign (c_X8_takeSign l E h) ⟨rfl, rfl⟩ ⟨Nat.le_of_ble_eq_true rfl, Nat.le_of_ble_eq_true rfl⟩ kq_6 rfl (by decide) rfl rfl (Nat.le_of_ble_eq_true rfl) ⟨Nat.zero_le _, Nat.zero_le _⟩ dX8_take_38) (fun r4 F5 h => ?_)
      obtain ⟨b6, h⟩ := h
      exact v_zret (pc := 41) hC dX8_take_41 b6 ⟨b6, h⟩
    · skip
      refine v_aload_n (pc := 28) hC dX8_take_28 rfl 1 rfl ?_
      refine v_iload_n (pc := 29) hC dX8_take_29 rfl 0 rfl ?_
      refine v_ci (pc := 30) (r_V (rest := []) hC ml_X8_46 mv_X8_takeSwing (c_X8_takeSwing l E h) ⟨rfl, rfl⟩ ⟨Nat.le_of_ble_eq_true rfl, Nat.le_of_ble_eq_true rfl⟩ kq_6 rfl (by decide) rfl rfl (Nat.le_of_ble_eq_true rfl) ⟨Nat.zero_le _, Nat.zero_le _⟩ dX8_take_30) (fun r7 F8 h => ?_)
      obtain ⟨b9, h⟩ := h
      refine v_goto (pc := 33) (tgt := 41) hC dX8_take_33 (by decide) ?_
      exact v_zret (pc := 41) hC dX8_take_41 b9 ⟨b9, h⟩
  · skip
    refine v_aload_n (pc := 7) hC dX8_take_7 rfl 0 rfl ?_
    refine v_iload_n (pc := 8) hC dX8_take_8 rfl 1 rfl ?_
    refine v_bipush (pc := 9) (v := 48) hC dX8_take_9 (by decide) ?_
    refine v_isub (pc := 11) hC dX8_take_11 ?_
    refine v_ci (pc := 12) (r_V (rest := []) hC ml_X8_35 mv_X8_takeDigit (c_X8_takeDigit l E h) ⟨rfl, rfl⟩ ⟨Nat.le_of_ble_eq_true rfl, Nat.le_of_ble_eq_true rfl⟩ kq_6 rfl (by decide) rfl rfl (Nat.le_of_ble_eq_true rfl) ⟨Nat.zero_le _, Nat.zero_le _⟩ dX8_take_12) (fun r10 F11 h => ?_)
    obtain ⟨b12, h⟩ := h
    exact v_zret (pc := 15) hC dX8_take_15 b12 ⟨b12, h⟩
def rm_X4_codeAt : Room := { frames := 0, cells := 0, slots := 0, locals := 0 }
def wp_X4_codeAt (x0 : Int64) (x2 : Int32) (F : gS) (Q : Int32 → Prop) : Prop :=
  Q ((((x0.toUInt64 >>> ((8 * x2).toInt64.toUInt64 &&& Int64.toUInt64 63)).toInt64).toInt32) &&& 255)
set_option maxRecDepth 20000 in
set_option maxHeartbeats 4000000 in
theorem c_X4_codeAt (l : Launch) (E : gE) {x0 : Int64} {x2 : Int32} {F : gS} {Q : Int32 → Prop} (h : wp_X4_codeAt x0 x2 F Q) : CtI l E yX4_codeAt cX4_codeAt 3 (some .int) rm_X4_codeAt [.long x0, .int x2] F (fun r G => G = F ∧ Q r) := by
  refine ct_of (by decide) (Nat.le_of_ble_eq_true rfl) (fun p e s m below meth c hC => ?_)
  generalize ([.long x0, .int x2] : List Value).toArray = args at hC ⊢
  refine v_sub (lv' := [(0, .long x0), (2, .int x2)]) [0, 1] rfl ?_
  unfold wp_X4_codeAt at h
  refine v_lload_n (pc := 0) hC dX4_codeAt_0 rfl 0 rfl ?_
  refine v_bipush (pc := 1) (v := 8) hC dX4_codeAt_1 (by decide) ?_
  refine v_iload_n (pc := 3) hC dX4_codeAt_3 rfl 1 rfl ?_
  refine v_imul (pc := 4) hC dX4_codeAt_4 ?_
  refine v_lushr (pc := 5) hC dX4_codeAt_5 ?_
  refine v_l2i (pc := 6) hC dX4_codeAt_6 ?_
  refine v_sipush (pc := 7) (v := 255) hC dX4_codeAt_7 (by decide) ?_
  refine v_iand (pc := 10) hC dX4_codeAt_10 ?_
  exact v_iret (pc := 11) hC dX4_codeAt_11 ⟨rfl, h⟩
def rm_X4_lettersIn : Room := { frames := 1, cells := 0, slots := 0, locals := 22 }
def wb_X4_lettersIn_4 (Q : Int32 → Prop) (F : gS) (x0 : Int64) (K4 : Int32 → Int32 → Prop) (x2 : Int32) (x3 : Int32) : Prop :=
  if 8 ≤ x3 then
    (Q x2)
  else
    (wp_X4_codeAt x0 x3 F fun r1 =>
    if 126 < r1 then
      (Q (-1))
    else
      (if r1 = 0 then
        (if r1 = 0 then
          (Nm (x3 + 1) fun n2 =>
          K4 x2 n2)
        else
          (Nm (x2 + 1) fun n3 =>
          Nm (x3 + 1) fun n4 =>
          K4 n3 n4))
      else
        (if x3 ≤ x2 then
          (if r1 = 0 then
            (Nm (x3 + 1) fun n5 =>
            K4 x2 n5)
          else
            (Nm (x2 + 1) fun n6 =>
            Nm (x3 + 1) fun n7 =>
            K4 n6 n7))
        else
          (Q (-1)))))
def wp_X4_lettersIn (x0 : Int64) (F : gS) (Q : Int32 → Prop) : Prop :=
  LP2 (wb_X4_lettersIn_4 Q F x0) 0 0
set_option maxRecDepth 20000 in
set_option maxHeartbeats 4000000 in
theorem jb_X4_lettersIn_4 {p : Program} {l : Launch} {e : Env} {s : State} {m : MethodId} {args : Array Value} {below : List Frame} {meth : Method} {c : Code} {E : gE} (hC : CX p s m args meth c cX4_lettersIn RX4 (some .int) E 5) {Q : Int32 → Prop} {F : gS} {x0 : Int64} {x2 : Int32} {x3 : Int32} {K4 : Int32 → Int32 → Prop} (hK4 : ∀ (x2 : Int32) (x3 : Int32), K4 x2 x3 → VV p l e rm_X4_lettersIn s m args below meth c 0 0 (MQ below (va_Qi (fun r G => G = F ∧ Q r) (gB E) (gA E)) args s 0 0 (gA E)) E 5 F 4 [(0, .long x0), (2, .int x2), (3, .int x3)] []) (h : wb_X4_lettersIn_4 Q F x0 K4 x2 x3) : VV p l e rm_X4_lettersIn s m args below meth c 0 0 (MQ below (va_Qi (fun r G => G = F ∧ Q r) (gB E) (gA E)) args s 0 0 (gA E)) E 5 F 4 [(0, .long x0), (2, .int x2), (3, .int x3)] [] := by
  unfold wb_X4_lettersIn_4 at h
  refine v_iload_n (pc := 4) hC dX4_lettersIn_4 rfl 2 rfl ?_
  refine v_bipush (pc := 5) (v := 8) hC dX4_lettersIn_5 (by decide) ?_
  refine v_ic_ge (pc := 7) (tgt := 50) hC dX4_lettersIn_7 (by decide) h (fun h => ?_) (fun h => ?_)
  · skip
    refine v_iload_n (pc := 50) hC dX4_lettersIn_50 rfl 1 rfl ?_
    exact v_iret (pc := 51) hC dX4_lettersIn_51 ⟨rfl, h⟩
  · skip
    refine v_lload_n (pc := 10) hC dX4_lettersIn_10 rfl 0 rfl ?_
    refine v_iload_n (pc := 11) hC dX4_lettersIn_11 rfl 2 rfl ?_
    refine v_cip (pc := 12) (r_S (rest := []) hC ml_X4_15 ms_X4_codeAt (c_X4_codeAt l E h) ⟨rfl, rfl⟩ ⟨Nat.le_of_ble_eq_true rfl, Nat.le_of_ble_eq_true rfl⟩ rfl rfl (Nat.le_of_ble_eq_true rfl) ⟨Nat.zero_le _, Nat.zero_le _⟩ dX4_lettersIn_12) (fun r1 h => ?_)
    refine v_istore (pc := 15) (lv' := [(4, .int r1), (0, .long x0), (2, .int x2), (3, .int x3)]) hC dX4_lettersIn_15 (by decide) rfl ?_
    refine v_iload (pc := 17) hC dX4_lettersIn_17 0 rfl ?_
    refine v_bipush (pc := 19) (v := 126) hC dX4_lettersIn_19 (by decide) ?_
    refine v_ic_gt (pc := 21) (tgt := 34) hC dX4_lettersIn_21 (by decide) h (fun h => ?_) (fun h => ?_)
    · skip
      refine v_iconst (pc := 34) (v := (-1)) hC dX4_lettersIn_34 (by decide) ?_
      exact v_iret (pc := 35) hC dX4_lettersIn_35 ⟨rfl, h⟩
    · skip
      refine v_iload (pc := 24) hC dX4_lettersIn_24 0 rfl ?_
      refine v_if_eq (pc := 26) (tgt := 36) hC dX4_lettersIn_26 (by decide) h (fun h => ?_) (fun h => ?_)
      · skip
        refine v_iload (pc := 36) hC dX4_lettersIn_36 0 rfl ?_
        refine v_if_eq (pc := 38) (tgt := 44) hC dX4_lettersIn_38 (by decide) h (fun h => ?_) (fun h => ?_)
        · skip
          refine v_iinc (pc := 44) (v := 1) hC (fun z => [(3, .int z), (4, .int r1), (0, .long x0), (2, .int x2)]) dX4_lettersIn_44 3 rfl (by decide) (by decide) (fun _ => rfl) h (fun n2 h => ?_)
          refine v_goto (pc := 47) (tgt := 4) hC dX4_lettersIn_47 (by decide) ?_
          exact v_sub [2, 3, 0] rfl (hK4 _ _ h)
        · skip
          refine v_iinc (pc := 41) (v := 1) hC (fun z => [(2, .int z), (4, .int r1), (0, .long x0), (3, .int x3)]) dX4_lettersIn_41 2 rfl (by decide) (by decide) (fun _ => rfl) h (fun n3 h => ?_)
          refine v_iinc (pc := 44) (v := 1) hC (fun z => [(3, .int z), (2, .int n3), (4, .int r1), (0, .long x0)]) dX4_lettersIn_44 3 rfl (by decide) (by decide) (fun _ => rfl) h (fun n4 h => ?_)
          refine v_goto (pc := 47) (tgt := 4) hC dX4_lettersIn_47 (by decide) ?_
          exact v_sub [3, 1, 0] rfl (hK4 _ _ h)
      · skip
        refine v_iload_n (pc := 29) hC dX4_lettersIn_29 rfl 2 rfl ?_
        refine v_iload_n (pc := 30) hC dX4_lettersIn_30 rfl 3 rfl ?_
        refine v_ic_ge (pc := 31) (tgt := 36) hC dX4_lettersIn_31 (by decide) h (fun h => ?_) (fun h => ?_)
        · skip
          refine v_iload (pc := 36) hC dX4_lettersIn_36 0 rfl ?_
          refine v_if_eq (pc := 38) (tgt := 44) hC dX4_lettersIn_38 (by decide) h (fun h => ?_) (fun h => ?_)
          · skip
            refine v_iinc (pc := 44) (v := 1) hC (fun z => [(3, .int z), (4, .int r1), (0, .long x0), (2, .int x2)]) dX4_lettersIn_44 3 rfl (by decide) (by decide) (fun _ => rfl) h (fun n5 h => ?_)
            refine v_goto (pc := 47) (tgt := 4) hC dX4_lettersIn_47 (by decide) ?_
            exact v_sub [2, 3, 0] rfl (hK4 _ _ h)
          · skip
            refine v_iinc (pc := 41) (v := 1) hC (fun z => [(2, .int z), (4, .int r1), (0, .long x0), (3, .int x3)]) dX4_lettersIn_41 2 rfl (by decide) (by decide) (fun _ => rfl) h (fun n6 h => ?_)
            refine v_iinc (pc := 44) (v := 1) hC (fun z => [(3, .int z), (2, .int n6), (4, .int r1), (0, .long x0)]) dX4_lettersIn_44 3 rfl (by decide) (by decide) (fun _ => rfl) h (fun n7 h => ?_)
            refine v_goto (pc := 47) (tgt := 4) hC dX4_lettersIn_47 (by decide) ?_
            exact v_sub [3, 1, 0] rfl (hK4 _ _ h)
        · skip
          refine v_iconst (pc := 34) (v := (-1)) hC dX4_lettersIn_34 (by decide) ?_
          exact v_iret (pc := 35) hC dX4_lettersIn_35 ⟨rfl, h⟩
set_option maxRecDepth 20000 in
set_option maxHeartbeats 4000000 in
theorem jl_X4_lettersIn_4 {p : Program} {l : Launch} {e : Env} {s : State} {m : MethodId} {args : Array Value} {below : List Frame} {meth : Method} {c : Code} {E : gE} (hC : CX p s m args meth c cX4_lettersIn RX4 (some .int) E 5) {Q : Int32 → Prop} {F : gS} {x0 : Int64} {x2 : Int32} {x3 : Int32} (h : LP2 (wb_X4_lettersIn_4 Q F x0) x2 x3) : VV p l e rm_X4_lettersIn s m args below meth c 0 0 (MQ below (va_Qi (fun r G => G = F ∧ Q r) (gB E) (gA E)) args s 0 0 (gA E)) E 5 F 4 [(0, .long x0), (2, .int x2), (3, .int x3)] [] :=
  LP2_go (V := fun (x2 : Int32) (x3 : Int32) => VV p l e rm_X4_lettersIn s m args below meth c 0 0 (MQ below (va_Qi (fun r G => G = F ∧ Q r) (gB E) (gA E)) args s 0 0 (gA E)) E 5 F 4 [(0, .long x0), (2, .int x2), (3, .int x3)] []) (fun K4 hK4 x2 x3 h => jb_X4_lettersIn_4 hC hK4 h) x2 x3 h
set_option maxRecDepth 20000 in
set_option maxHeartbeats 4000000 in
theorem c_X4_lettersIn (l : Launch) (E : gE) {x0 : Int64} {F : gS} {Q : Int32 → Prop} (h : wp_X4_lettersIn x0 F Q) : CtI l E yX4_lettersIn cX4_lettersIn 5 (some .int) rm_X4_lettersIn [.long x0] F (fun r G => G = F ∧ Q r) := by
  refine ct_of (by decide) (Nat.le_of_ble_eq_true rfl) (fun p e s m below meth c hC => ?_)
  generalize ([.long x0] : List Value).toArray = args at hC ⊢
  refine v_sub (lv' := [(0, .long x0)]) [0] rfl ?_
  unfold wp_X4_lettersIn at h
  refine v_iconst (pc := 0) (v := 0) hC dX4_lettersIn_0 (by decide) ?_
  refine v_istore_n (pc := 1) (lv' := [(2, .int 0), (0, .long x0)]) hC dX4_lettersIn_1 rfl (by decide) rfl ?_
  refine v_iconst (pc := 2) (v := 0) hC dX4_lettersIn_2 (by decide) ?_
  refine v_istore_n (pc := 3) (lv' := [(3, .int 0), (2, .int 0), (0, .long x0)]) hC dX4_lettersIn_3 rfl (by decide) rfl ?_
  exact v_sub [2, 1, 0] rfl (jl_X4_lettersIn_4 hC h)
def rm_X4_add : Room := { frames := 1, cells := 0, slots := 0, locals := 22 }
def wb_X4_add_3 (Q : gS → Prop) (x1 : Int64) (x3 : Int32) (K3 : gS → Int32 → Prop) (F : gS) (x4 : Int32) : Prop :=
  if x3 ≤ x4 then
    (Q F)
  else
    (if 40 ≤ (F 1 1) then
      (Q F)
    else
      (wp_X4_codeAt x1 x4 F fun r1 =>
      vp_in (F 1 1) 40 ∧ Nm (upF F 2 (F 1 1).toNatClampNeg r1) fun F2 =>
      Nm (upF F2 1 1 ((F2 1 1) + 1)) fun F3 =>
      Nm (x4 + 1) fun n4 =>
      K3 F3 n4))
def wp_X4_add (x1 : Int64) (x3 : Int32) (F : gS) (Q : gS → Prop) : Prop :=
  LP2 (wb_X4_add_3 Q x1 x3) F 0
set_option maxRecDepth 20000 in
set_option maxHeartbeats 4000000 in
theorem jb_X4_add_3 {p : Program} {l : Launch} {e : Env} {s : State} {m : MethodId} {args : Array Value} {below : List Frame} {meth : Method} {c : Code} {E : gE} (hC : CX p s m args meth c cX4_add RX4 none E 5) {Q : gS → Prop} {F : gS} {x1 : Int64} {x3 : Int32} {x4 : Int32} {K3 : gS → Int32 → Prop} (hK3 : ∀ (F : gS) (x4 : Int32), K3 F x4 → VV p l e rm_X4_add s m args below meth c 0 0 (MQ below (va_Qv Q (gB E) (gA E)) args s 0 0 (gA E)) E 5 F 3 [(0, .ref (ad E 1)), (1, .long x1), (3, .int x3), (4, .int x4)] []) (h : wb_X4_add_3 Q x1 x3 K3 F x4) : VV p l e rm_X4_add s m args below meth c 0 0 (MQ below (va_Qv Q (gB E) (gA E)) args s 0 0 (gA E)) E 5 F 3 [(0, .ref (ad E 1)), (1, .long x1), (3, .int x3), (4, .int x4)] [] := by
  unfold wb_X4_add_3 at h
  refine v_iload (pc := 3) hC dX4_add_3 3 rfl ?_
  refine v_iload_n (pc := 5) hC dX4_add_5 rfl 2 rfl ?_
  refine v_ic_ge (pc := 6) (tgt := 49) hC dX4_add_6 (by decide) h (fun h => ?_) (fun h => ?_)
  · skip
    exact v_vret (pc := 49) hC dX4_add_49 h
  · skip
    refine v_aload_n (pc := 9) hC dX4_add_9 rfl 0 rfl ?_
    refine v_get (pc := 10) (v := .int (F 1 1)) hC fl_X4_19 kq_1 rfl dX4_add_10 ?_
    refine v_bipush (pc := 13) (v := 40) hC dX4_add_13 (by decide) ?_
    refine v_ic_ge (pc := 15) (tgt := 49) hC dX4_add_15 (by decide) h (fun h => ?_) (fun h => ?_)
    · skip
      exact v_vret (pc := 49) hC dX4_add_49 h
    · skip
      refine v_aload_n (pc := 18) hC dX4_add_18 rfl 0 rfl ?_
      refine v_get (pc := 19) (v := .ref (ad E 2)) hC fl_X4_9 kq_1 rfl dX4_add_19 ?_
      refine v_aload_n (pc := 22) hC dX4_add_22 rfl 0 rfl ?_
      refine v_get (pc := 23) (v := .int (F 1 1)) hC fl_X4_19 kq_1 rfl dX4_add_23 ?_
      refine v_lload_n (pc := 26) hC dX4_add_26 rfl 1 rfl ?_
      refine v_iload (pc := 27) hC dX4_add_27 3 rfl ?_
      refine v_cip (pc := 29) (r_S (rest := [.int (F 1 1), .ref (ad E 2)]) hC ml_X4_15 ms_X4_codeAt (c_X4_codeAt l E h) ⟨rfl, rfl⟩ ⟨Nat.le_of_ble_eq_true rfl, Nat.le_of_ble_eq_true rfl⟩ rfl rfl (Nat.le_of_ble_eq_true rfl) ⟨Nat.zero_le _, Nat.zero_le _⟩ dX4_add_29) (fun r1 h => ?_)
      refine v_iast (pc := 32) (n := 40) hC kq_2 (by decide) dX4_add_32 h (fun F2 h => ?_)
      refine v_aload_n (pc := 33) hC dX4_add_33 rfl 0 rfl ?_
      refine v_dup (pc := 34) hC dX4_add_34 rfl ?_
      refine v_get (pc := 35) (v := .int (F2 1 1)) hC fl_X4_19 kq_1 rfl dX4_add_35 ?_
      refine v_iconst (pc := 38) (v := 1) hC dX4_add_38 (by decide) ?_
      refine v_iadd (pc := 39) hC dX4_add_39 ?_
      refine v_puti (pc := 40) hC fp_X4_19 kq_1 (fs_4_1 E _ _ _) (fn_4_1 E _ _) dX4_add_40 h (fun F3 h => ?_)
      refine v_iinc (pc := 43) (v := 1) hC (fun z => [(4, .int z), (0, .ref (ad E 1)), (1, .long x1), (3, .int x3)]) dX4_add_43 3 rfl (by decide) (by decide) (fun _ => rfl) h (fun n4 h => ?_)
      refine v_goto (pc := 46) (tgt := 3) hC dX4_add_46 (by decide) ?_
      exact v_sub [1, 2, 3, 0] rfl (hK3 _ _ h)
set_option maxRecDepth 20000 in
set_option maxHeartbeats 4000000 in
theorem jl_X4_add_3 {p : Program} {l : Launch} {e : Env} {s : State} {m : MethodId} {args : Array Value} {below : List Frame} {meth : Method} {c : Code} {E : gE} (hC : CX p s m args meth c cX4_add RX4 none E 5) {Q : gS → Prop} {F : gS} {x1 : Int64} {x3 : Int32} {x4 : Int32} (h : LP2 (wb_X4_add_3 Q x1 x3) F x4) : VV p l e rm_X4_add s m args below meth c 0 0 (MQ below (va_Qv Q (gB E) (gA E)) args s 0 0 (gA E)) E 5 F 3 [(0, .ref (ad E 1)), (1, .long x1), (3, .int x3), (4, .int x4)] [] :=
  LP2_go (V := fun (F : gS) (x4 : Int32) => VV p l e rm_X4_add s m args below meth c 0 0 (MQ below (va_Qv Q (gB E) (gA E)) args s 0 0 (gA E)) E 5 F 3 [(0, .ref (ad E 1)), (1, .long x1), (3, .int x3), (4, .int x4)] []) (fun K3 hK3 F x4 h => jb_X4_add_3 hC hK3 h) F x4 h
set_option maxRecDepth 20000 in
set_option maxHeartbeats 4000000 in
theorem c_X4_add (l : Launch) (E : gE) {x1 : Int64} {x3 : Int32} {F : gS} {Q : gS → Prop} (h : wp_X4_add x1 x3 F Q) : CtV l E yX4_add cX4_add 5 none rm_X4_add [.ref (ad E 1), .long x1, .int x3] F Q := by
  refine ct_of (by decide) (Nat.le_of_ble_eq_true rfl) (fun p e s m below meth c hC => ?_)
  generalize ([.ref (ad E 1), .long x1, .int x3] : List Value).toArray = args at hC ⊢
  refine v_sub (lv' := [(0, .ref (ad E 1)), (1, .long x1), (3, .int x3)]) [0, 1, 2] rfl ?_
  unfold wp_X4_add at h
  refine v_iconst (pc := 0) (v := 0) hC dX4_add_0 (by decide) ?_
  refine v_istore (pc := 1) (lv' := [(4, .int 0), (0, .ref (ad E 1)), (1, .long x1), (3, .int x3)]) hC dX4_add_1 (by decide) rfl ?_
  exact v_sub [1, 2, 3, 0] rfl (jl_X4_add_3 hC h)
def rm_X4_readAs_3 : Room := { frames := 2, cells := 0, slots := 0, locals := 43 }
def wb_X4_readAs_3_6 (Q : Int32 → gS → Prop) (K6 : gS → Int32 → Prop) (F : gS) (x2 : Int32) : Prop :=
  if (F 1 1) ≤ x2 then
    (Q (F 1 1) F)
  else
    (vp_in x2 40 ∧
    wp_X6_take (F 2 x2.toNatClampNeg) F fun r2 F3 =>
    if r2 = 0 then
      (Q x2 F3)
    else
      (Nm (x2 + 1) fun n5 =>
      K6 F3 n5))
def wp_X4_readAs_3 (F : gS) (Q : Int32 → gS → Prop) : Prop :=
  wp_X6_begin F fun F1 =>
  LP2 (wb_X4_readAs_3_6 Q) F1 0
set_option maxRecDepth 20000 in
set_option maxHeartbeats 4000000 in
theorem jb_X4_readAs_3_6 {p : Program} {l : Launch} {e : Env} {s : State} {m : MethodId} {args : Array Value} {below : List Frame} {meth : Method} {c : Code} {E : gE} (hC : CX p s m args meth c cX4_readAs RX4 (some .int) E 3) {Q : Int32 → gS → Prop} {F : gS} {x2 : Int32} {K6 : gS → Int32 → Prop} (hK6 : ∀ (F : gS) (x2 : Int32), K6 F x2 → VV p l e rm_X4_readAs_3 s m args below meth c 0 0 (MQ below (va_Qi Q (gB E) (gA E)) args s 0 0 (gA E)) E 3 F 6 [(0, .ref (ad E 1)), (1, .ref (ad E 3)), (2, .int x2)] []) (h : wb_X4_readAs_3_6 Q K6 F x2) : VV p l e rm_X4_readAs_3 s m args below meth c 0 0 (MQ below (va_Qi Q (gB E) (gA E)) args s 0 0 (gA E)) E 3 F 6 [(0, .ref (ad E 1)), (1, .ref (ad E 3)), (2, .int x2)] [] := by
  unfold wb_X4_readAs_3_6 at h
  refine v_iload_n (pc := 6) hC dX4_readAs_6 rfl 2 rfl ?_
  refine v_aload_n (pc := 7) hC dX4_readAs_7 rfl 0 rfl ?_
  refine v_get (pc := 8) (v := .int (F 1 1)) hC fl_X4_19 kq_1 rfl dX4_readAs_8 ?_
  refine v_ic_ge (pc := 11) (tgt := 35) hC dX4_readAs_11 (by decide) h (fun h => ?_) (fun h => ?_)
  · skip
    refine v_aload_n (pc := 35) hC dX4_readAs_35 rfl 0 rfl ?_
    refine v_get (pc := 36) (v := .int (F 1 1)) hC fl_X4_19 kq_1 rfl dX4_readAs_36 ?_
    exact v_iret (pc := 39) hC dX4_readAs_39 h
  · skip
    refine v_aload_n (pc := 14) hC dX4_readAs_14 rfl 1 rfl ?_
    refine v_aload_n (pc := 15) hC dX4_readAs_15 rfl 0 rfl ?_
    refine v_get (pc := 16) (v := .ref (ad E 2)) hC fl_X4_9 kq_1 rfl dX4_readAs_16 ?_
    refine v_iload_n (pc := 19) hC dX4_readAs_19 rfl 2 rfl ?_
    refine v_iald (pc := 20) (n := 40) hC kq_2 (by decide) dX4_readAs_20 h (fun h => ?_)
    refine v_ci (pc := 21) (r_A (n := 1) (rest := []) hC ml_X4_28 sa_Text_take se_X6_take dc_take ⟨by decide +kernel, by decide +kernel, by decide +kernel⟩ mw_X6_take (c_X6_take l E h) ⟨rfl, rfl⟩ ⟨Nat.le_of_ble_eq_true rfl, Nat.le_of_ble_eq_true rfl⟩ kq_3 rfl (by decide) rfl rfl (Nat.le_of_ble_eq_true rfl) ⟨Nat.zero_le _, Nat.zero_le _⟩ dX4_readAs_21) (fun r2 F3 h => ?_)
    obtain ⟨b4, h⟩ := h
    refine v_if_ne (pc := 24) (tgt := 29) hC dX4_readAs_24 (by decide) h (fun h => ?_) (fun h => ?_)
    · skip
      refine v_iinc (pc := 29) (v := 1) hC (fun z => [(2, .int z), (0, .ref (ad E 1)), (1, .ref (ad E 3))]) dX4_readAs_29 2 rfl (by decide) (by decide) (fun _ => rfl) h (fun n5 h => ?_)
      refine v_goto (pc := 32) (tgt := 6) hC dX4_readAs_32 (by decide) ?_
      exact v_sub [1, 2, 0] rfl (hK6 _ _ h)
    · skip
      refine v_iload_n (pc := 27) hC dX4_readAs_27 rfl 2 rfl ?_
      exact v_iret (pc := 28) hC dX4_readAs_28 h
set_option maxRecDepth 20000 in
set_option maxHeartbeats 4000000 in
theorem jl_X4_readAs_3_6 {p : Program} {l : Launch} {e : Env} {s : State} {m : MethodId} {args : Array Value} {below : List Frame} {meth : Method} {c : Code} {E : gE} (hC : CX p s m args meth c cX4_readAs RX4 (some .int) E 3) {Q : Int32 → gS → Prop} {F : gS} {x2 : Int32} (h : LP2 (wb_X4_readAs_3_6 Q) F x2) : VV p l e rm_X4_readAs_3 s m args below meth c 0 0 (MQ below (va_Qi Q (gB E) (gA E)) args s 0 0 (gA E)) E 3 F 6 [(0, .ref (ad E 1)), (1, .ref (ad E 3)), (2, .int x2)] [] :=
  LP2_go (V := fun (F : gS) (x2 : Int32) => VV p l e rm_X4_readAs_3 s m args below meth c 0 0 (MQ below (va_Qi Q (gB E) (gA E)) args s 0 0 (gA E)) E 3 F 6 [(0, .ref (ad E 1)), (1, .ref (ad E 3)), (2, .int x2)] []) (fun K6 hK6 F x2 h => jb_X4_readAs_3_6 hC hK6 h) F x2 h
set_option maxRecDepth 20000 in
set_option maxHeartbeats 4000000 in
theorem c_X4_readAs_3 (l : Launch) (E : gE) {F : gS} {Q : Int32 → gS → Prop} (h : wp_X4_readAs_3 F Q) : CtI l E yX4_readAs cX4_readAs 3 (some .int) rm_X4_readAs_3 [.ref (ad E 1), .ref (ad E 3)] F Q := by
  refine ct_of (by decide) (Nat.le_of_ble_eq_true rfl) (fun p e s m below meth c hC => ?_)
  generalize ([.ref (ad E 1), .ref (ad E 3)] : List Value).toArray = args at hC ⊢
  refine v_sub (lv' := [(0, .ref (ad E 1)), (1, .ref (ad E 3))]) [0, 1] rfl ?_
  unfold wp_X4_readAs_3 at h
  refine v_aload_n (pc := 0) hC dX4_readAs_0 rfl 1 rfl ?_
  refine v_cv (pc := 1) (r_A (n := 0) (rest := []) hC ml_X4_23 sa_Text_begin se_X6_begin dc_begin ⟨by decide +kernel, by decide +kernel, by decide +kernel⟩ mw_X6_begin (c_X6_begin l E h) ⟨rfl, rfl⟩ ⟨Nat.le_of_ble_eq_true rfl, Nat.le_of_ble_eq_true rfl⟩ kq_3 rfl (by decide) rfl rfl (Nat.le_of_ble_eq_true rfl) ⟨Nat.zero_le _, Nat.zero_le _⟩ dX4_readAs_1) (fun F1 h => ?_)
  refine v_iconst (pc := 4) (v := 0) hC dX4_readAs_4 (by decide) ?_
  refine v_istore_n (pc := 5) (lv' := [(2, .int 0), (0, .ref (ad E 1)), (1, .ref (ad E 3))]) hC dX4_readAs_5 rfl (by decide) rfl ?_
  exact v_sub [1, 2, 0] rfl (jl_X4_readAs_3_6 hC h)
def rm_X4_readAs_6 : Room := { frames := 6, cells := 0, slots := 0, locals := 128 }
def wb_X4_readAs_6_6 (Q : Int32 → gS → Prop) (K6 : gS → Int32 → Prop) (F : gS) (x2 : Int32) : Prop :=
  if (F 1 1) ≤ x2 then
    (Q (F 1 1) F)
  else
    (vp_in x2 40 ∧
    wp_X8_take (F 2 x2.toNatClampNeg) F fun r2 F3 =>
    if r2 = 0 then
      (Q x2 F3)
    else
      (Nm (x2 + 1) fun n5 =>
      K6 F3 n5))
def wp_X4_readAs_6 (F : gS) (Q : Int32 → gS → Prop) : Prop :=
  wp_X8_begin F fun F1 =>
  LP2 (wb_X4_readAs_6_6 Q) F1 0
set_option maxRecDepth 20000 in
set_option maxHeartbeats 4000000 in
theorem jb_X4_readAs_6_6 {p : Program} {l : Launch} {e : Env} {s : State} {m : MethodId} {args : Array Value} {below : List Frame} {meth : Method} {c : Code} {E : gE} (hC : CX p s m args meth c cX4_readAs RX4 (some .int) E 3) {Q : Int32 → gS → Prop} {F : gS} {x2 : Int32} {K6 : gS → Int32 → Prop} (hK6 : ∀ (F : gS) (x2 : Int32), K6 F x2 → VV p l e rm_X4_readAs_6 s m args below meth c 0 0 (MQ below (va_Qi Q (gB E) (gA E)) args s 0 0 (gA E)) E 3 F 6 [(0, .ref (ad E 1)), (1, .ref (ad E 6)), (2, .int x2)] []) (h : wb_X4_readAs_6_6 Q K6 F x2) : VV p l e rm_X4_readAs_6 s m args below meth c 0 0 (MQ below (va_Qi Q (gB E) (gA E)) args s 0 0 (gA E)) E 3 F 6 [(0, .ref (ad E 1)), (1, .ref (ad E 6)), (2, .int x2)] [] := by
  unfold wb_X4_readAs_6_6 at h
  refine v_iload_n (pc := 6) hC dX4_readAs_6 rfl 2 rfl ?_
  refine v_aload_n (pc := 7) hC dX4_readAs_7 rfl 0 rfl ?_
  refine v_get (pc := 8) (v := .int (F 1 1)) hC fl_X4_19 kq_1 rfl dX4_readAs_8 ?_
  refine v_ic_ge (pc := 11) (tgt := 35) hC dX4_readAs_11 (by decide) h (fun h => ?_) (fun h => ?_)
  · skip
    refine v_aload_n (pc := 35) hC dX4_readAs_35 rfl 0 rfl ?_
    refine v_get (pc := 36) (v := .int (F 1 1)) hC fl_X4_19 kq_1 rfl dX4_readAs_36 ?_
    exact v_iret (pc := 39) hC dX4_readAs_39 h
  · skip
    refine v_aload_n (pc := 14) hC dX4_readAs_14 rfl 1 rfl ?_
    refine v_aload_n (pc := 15) hC dX4_readAs_15 rfl 0 rfl ?_
    refine v_get (pc := 16) (v := .ref (ad E 2)) hC fl_X4_9 kq_1 rfl dX4_readAs_16 ?_
    refine v_iload_n (pc := 19) hC dX4_readAs_19 rfl 2 rfl ?_
    refine v_iald (pc := 20) (n := 40) hC kq_2 (by decide) dX4_readAs_20 h (fun h => ?_)
    refine v_ci (pc := 21) (r_A (n := 1) (rest := []) hC ml_X4_28 sa_Text_take se_X8_take dc_take ⟨by decide +kernel, by decide +kernel, by decide +kernel⟩ mw_X8_take (c_X8_take l E h) ⟨rfl, rfl⟩ ⟨Nat.le_of_ble_eq_true rfl, Nat.le_of_ble_eq_true rfl⟩ kq_6 rfl (by decide) rfl rfl (Nat.le_of_ble_eq_true rfl) ⟨Nat.zero_le _, Nat.zero_le _⟩ dX4_readAs_21) (fun r2 F3 h => ?_)
    obtain ⟨b4, h⟩ := h
    refine v_if_ne (pc := 24) (tgt := 29) hC dX4_readAs_24 (by decide) h (fun h => ?_) (fun h => ?_)
    · skip
      refine v_iinc (pc := 29) (v := 1) hC (fun z => [(2, .int z), (0, .ref (ad E 1)), (1, .ref (ad E 6))]) dX4_readAs_29 2 rfl (by decide) (by decide) (fun _ => rfl) h (fun n5 h => ?_)
      refine v_goto (pc := 32) (tgt := 6) hC dX4_readAs_32 (by decide) ?_
      exact v_sub [1, 2, 0] rfl (hK6 _ _ h)
    · skip
      refine v_iload_n (pc := 27) hC dX4_readAs_27 rfl 2 rfl ?_
      exact v_iret (pc := 28) hC dX4_readAs_28 h
set_option maxRecDepth 20000 in
set_option maxHeartbeats 4000000 in
theorem jl_X4_readAs_6_6 {p : Program} {l : Launch} {e : Env} {s : State} {m : MethodId} {args : Array Value} {below : List Frame} {meth : Method} {c : Code} {E : gE} (hC : CX p s m args meth c cX4_readAs RX4 (some .int) E 3) {Q : Int32 → gS → Prop} {F : gS} {x2 : Int32} (h : LP2 (wb_X4_readAs_6_6 Q) F x2) : VV p l e rm_X4_readAs_6 s m args below meth c 0 0 (MQ below (va_Qi Q (gB E) (gA E)) args s 0 0 (gA E)) E 3 F 6 [(0, .ref (ad E 1)), (1, .ref (ad E 6)), (2, .int x2)] [] :=
  LP2_go (V := fun (F : gS) (x2 : Int32) => VV p l e rm_X4_readAs_6 s m args below meth c 0 0 (MQ below (va_Qi Q (gB E) (gA E)) args s 0 0 (gA E)) E 3 F 6 [(0, .ref (ad E 1)), (1, .ref (ad E 6)), (2, .int x2)] []) (fun K6 hK6 F x2 h => jb_X4_readAs_6_6 hC hK6 h) F x2 h
set_option maxRecDepth 20000 in
set_option maxHeartbeats 4000000 in
theorem c_X4_readAs_6 (l : Launch) (E : gE) {F : gS} {Q : Int32 → gS → Prop} (h : wp_X4_readAs_6 F Q) : CtI l E yX4_readAs cX4_readAs 3 (some .int) rm_X4_readAs_6 [.ref (ad E 1), .ref (ad E 6)] F Q := by
  refine ct_of (by decide) (Nat.le_of_ble_eq_true rfl) (fun p e s m below meth c hC => ?_)
  generalize ([.ref (ad E 1), .ref (ad E 6)] : List Value).toArray = args at hC ⊢
  refine v_sub (lv' := [(0, .ref (ad E 1)), (1, .ref (ad E 6))]) [0, 1] rfl ?_
  unfold wp_X4_readAs_6 at h
  refine v_aload_n (pc := 0) hC dX4_readAs_0 rfl 1 rfl ?_
  refine v_cv (pc := 1) (r_A (n := 0) (rest := []) hC ml_X4_23 sa_Text_begin se_X8_begin dc_begin ⟨by decide +kernel, by decide +kernel, by decide +kernel⟩ mw_X8_begin (c_X8_begin l E h) ⟨rfl, rfl⟩ ⟨Nat.le_of_ble_eq_true rfl, Nat.le_of_ble_eq_true rfl⟩ kq_6 rfl (by decide) rfl rfl (Nat.le_of_ble_eq_true rfl) ⟨Nat.zero_le _, Nat.zero_le _⟩ dX4_readAs_1) (fun F1 h => ?_)
  refine v_iconst (pc := 4) (v := 0) hC dX4_readAs_4 (by decide) ?_
  refine v_istore_n (pc := 5) (lv' := [(2, .int 0), (0, .ref (ad E 1)), (1, .ref (ad E 6))]) hC dX4_readAs_5 rfl (by decide) rfl ?_
  exact v_sub [1, 2, 0] rfl (jl_X4_readAs_6_6 hC h)
def rm_X4_isWhole_3 : Room := { frames := 3, cells := 0, slots := 0, locals := 65 }
def wp_X4_isWhole_3 (F : gS) (Q : Int32 → gS → Prop) : Prop :=
  wp_X4_readAs_3 F fun r1 F2 =>
  if r1 = (F2 1 1) then
    (wp_X6_whole F2 fun r3 =>
    if r3 = 0 then
      (Q 0 F2)
    else
      (Q 1 F2))
  else
    (Q 0 F2)
set_option maxRecDepth 20000 in
set_option maxHeartbeats 4000000 in
theorem c_X4_isWhole_3 (l : Launch) (E : gE) {F : gS} {Q : Int32 → gS → Prop} (h : wp_X4_isWhole_3 F Q) : CtI l E yX4_isWhole cX4_isWhole 2 (some .boolean) rm_X4_isWhole_3 [.ref (ad E 1), .ref (ad E 3)] F (fun r G => (r = 0 ∨ r = 1) ∧ Q r G) := by
  refine ct_of (by decide) (Nat.le_of_ble_eq_true rfl) (fun p e s m below meth c hC => ?_)
  generalize ([.ref (ad E 1), .ref (ad E 3)] : List Value).toArray = args at hC ⊢
  refine v_sub (lv' := [(0, .ref (ad E 1)), (1, .ref (ad E 3))]) [0, 1] rfl ?_
  unfold wp_X4_isWhole_3 at h
  refine v_aload_n (pc := 0) hC dX4_isWhole_0 rfl 0 rfl ?_
  refine v_aload_n (pc := 1) hC dX4_isWhole_1 rfl 1 rfl ?_
  refine v_ci (pc := 2) (r_V (rest := []) hC ml_X4_32 mv_X4_readAs (c_X4_readAs_3 l E h) ⟨rfl, rfl⟩ ⟨Nat.le_of_ble_eq_true rfl, Nat.le_of_ble_eq_true rfl⟩ kq_1 rfl (by decide) rfl rfl (Nat.le_of_ble_eq_true rfl) ⟨Nat.zero_le _, Nat.zero_le _⟩ dX4_isWhole_2) (fun r1 F2 h => ?_)
  refine v_aload_n (pc := 5) hC dX4_isWhole_5 rfl 0 rfl ?_
  refine v_get (pc := 6) (v := .int (F2 1 1)) hC fl_X4_19 kq_1 rfl dX4_isWhole_6 ?_
  refine v_ic_ne (pc := 9) (tgt := 23) hC dX4_isWhole_9 (by decide) h (fun h => ?_) (fun h => ?_)
  · skip
    refine v_iconst (pc := 23) (v := 0) hC dX4_isWhole_23 (by decide) ?_
    exact v_zret (pc := 24) hC dX4_isWhole_24 (Or.inl rfl) ⟨Or.inl rfl, h⟩
  · skip
    refine v_aload_n (pc := 12) hC dX4_isWhole_12 rfl 1 rfl ?_
    refine v_cyp (pc := 13) (r_A (n := 0) (rest := []) hC ml_X4_36 sa_Text_whole se_X6_whole dc_whole ⟨by decide +kernel, by decide +kernel, by decide +kernel⟩ mw_X6_whole (c_X6_whole l E h) ⟨rfl, rfl⟩ ⟨Nat.le_of_ble_eq_true rfl, Nat.le_of_ble_eq_true rfl⟩ kq_3 rfl (by decide) rfl rfl (Nat.le_of_ble_eq_true rfl) ⟨Nat.zero_le _, Nat.zero_le _⟩ dX4_isWhole_13) (fun r3 b4 h => ?_)
    refine v_if_eq (pc := 16) (tgt := 23) hC dX4_isWhole_16 (by decide) h (fun h => ?_) (fun h => ?_)
    · skip
      refine v_iconst (pc := 23) (v := 0) hC dX4_isWhole_23 (by decide) ?_
      exact v_zret (pc := 24) hC dX4_isWhole_24 (Or.inl rfl) ⟨Or.inl rfl, h⟩
    · skip
      refine v_iconst (pc := 19) (v := 1) hC dX4_isWhole_19 (by decide) ?_
      refine v_goto (pc := 20) (tgt := 24) hC dX4_isWhole_20 (by decide) ?_
      exact v_zret (pc := 24) hC dX4_isWhole_24 (Or.inr rfl) ⟨Or.inr rfl, h⟩
def rm_X4_isWhole_6 : Room := { frames := 7, cells := 0, slots := 0, locals := 150 }
def wp_X4_isWhole_6 (F : gS) (Q : Int32 → gS → Prop) : Prop :=
  wp_X4_readAs_6 F fun r1 F2 =>
  if r1 = (F2 1 1) then
    (wp_X8_whole F2 fun r3 =>
    if r3 = 0 then
      (Q 0 F2)
    else
      (Q 1 F2))
  else
    (Q 0 F2)
set_option maxRecDepth 20000 in
set_option maxHeartbeats 4000000 in
theorem c_X4_isWhole_6 (l : Launch) (E : gE) {F : gS} {Q : Int32 → gS → Prop} (h : wp_X4_isWhole_6 F Q) : CtI l E yX4_isWhole cX4_isWhole 2 (some .boolean) rm_X4_isWhole_6 [.ref (ad E 1), .ref (ad E 6)] F (fun r G => (r = 0 ∨ r = 1) ∧ Q r G) := by
  refine ct_of (by decide) (Nat.le_of_ble_eq_true rfl) (fun p e s m below meth c hC => ?_)
  generalize ([.ref (ad E 1), .ref (ad E 6)] : List Value).toArray = args at hC ⊢
  refine v_sub (lv' := [(0, .ref (ad E 1)), (1, .ref (ad E 6))]) [0, 1] rfl ?_
  unfold wp_X4_isWhole_6 at h
  refine v_aload_n (pc := 0) hC dX4_isWhole_0 rfl 0 rfl ?_
  refine v_aload_n (pc := 1) hC dX4_isWhole_1 rfl 1 rfl ?_
  refine v_ci (pc := 2) (r_V (rest := []) hC ml_X4_32 mv_X4_readAs (c_X4_readAs_6 l E h) ⟨rfl, rfl⟩ ⟨Nat.le_of_ble_eq_true rfl, Nat.le_of_ble_eq_true rfl⟩ kq_1 rfl (by decide) rfl rfl (Nat.le_of_ble_eq_true rfl) ⟨Nat.zero_le _, Nat.zero_le _⟩ dX4_isWhole_2) (fun r1 F2 h => ?_)
  refine v_aload_n (pc := 5) hC dX4_isWhole_5 rfl 0 rfl ?_
  refine v_get (pc := 6) (v := .int (F2 1 1)) hC fl_X4_19 kq_1 rfl dX4_isWhole_6 ?_
  refine v_ic_ne (pc := 9) (tgt := 23) hC dX4_isWhole_9 (by decide) h (fun h => ?_) (fun h => ?_)
  · skip
    refine v_iconst (pc := 23) (v := 0) hC dX4_isWhole_23 (by decide) ?_
    exact v_zret (pc := 24) hC dX4_isWhole_24 (Or.inl rfl) ⟨Or.inl rfl, h⟩
  · skip
    refine v_aload_n (pc := 12) hC dX4_isWhole_12 rfl 1 rfl ?_
    refine v_cyp (pc := 13) (r_A (n := 0) (rest := []) hC ml_X4_36 sa_Text_whole se_X8_whole dc_whole ⟨by decide +kernel, by decide +kernel, by decide +kernel⟩ mw_X8_whole (c_X8_whole l E h) ⟨rfl, rfl⟩ ⟨Nat.le_of_ble_eq_true rfl, Nat.le_of_ble_eq_true rfl⟩ kq_6 rfl (by decide) rfl rfl (Nat.le_of_ble_eq_true rfl) ⟨Nat.zero_le _, Nat.zero_le _⟩ dX4_isWhole_13) (fun r3 b4 h => ?_)
    refine v_if_eq (pc := 16) (tgt := 23) hC dX4_isWhole_16 (by decide) h (fun h => ?_) (fun h => ?_)
    · skip
      refine v_iconst (pc := 23) (v := 0) hC dX4_isWhole_23 (by decide) ?_
      exact v_zret (pc := 24) hC dX4_isWhole_24 (Or.inl rfl) ⟨Or.inl rfl, h⟩
    · skip
      refine v_iconst (pc := 19) (v := 1) hC dX4_isWhole_19 (by decide) ?_
      refine v_goto (pc := 20) (tgt := 24) hC dX4_isWhole_20 (by decide) ?_
      exact v_zret (pc := 24) hC dX4_isWhole_24 (Or.inr rfl) ⟨Or.inr rfl, h⟩
