def rm_X7_become : Room := { frames := 1, cells := 0, slots := 0, locals := 18 }
def wp_X7_become (k0 : Nat) (F : gS) (Q : gS → Prop) : Prop :=
  vp_in 1 5 ∧
  Nm (upF F k0 1 (F 7 (1 : Int32).toNatClampNeg)) fun F1 =>
  vp_in 2 5 ∧
  Nm (upF F1 k0 2 (F1 7 (2 : Int32).toNatClampNeg)) fun F2 =>
  vp_in 3 5 ∧
  Nm (upF F2 k0 3 (F2 7 (3 : Int32).toNatClampNeg)) fun F3 =>
  vp_in 4 5 ∧
  Nm (upF F3 k0 4 (F3 7 (4 : Int32).toNatClampNeg)) fun F4 =>
  Nm (upF F4 k0 5 (F4 6 2)) fun F5 =>
  Nm (upR F5 (k0 + 1) (va_cpy (F5 8) (F5 (k0 + 1)) 0 0 6)) fun F6 =>
  Q F6
set_option maxRecDepth 20000 in
set_option maxHeartbeats 4000000 in
theorem c_X7_become (l : Launch) (E : gE) {k0 : Nat} (hk0 : kd k0 = 7) {F : gS} {Q : gS → Prop} (h : wp_X7_become k0 F Q) : CtV l E yX7_become cX7_become 2 none rm_X7_become [.ref (ad E k0), .ref (ad E 6)] F Q := by
  refine ct_of (by decide) (Nat.le_of_ble_eq_true rfl) (fun p e s m below meth c hC => ?_)
  generalize ([.ref (ad E k0), .ref (ad E 6)] : List Value).toArray = args at hC ⊢
  refine v_sub (lv' := [(0, .ref (ad E k0)), (1, .ref (ad E 6))]) [0, 1] rfl ?_
  unfold wp_X7_become at h
  refine v_aload_n (pc := 0) hC dX7_become_0 rfl 0 rfl ?_
  refine v_aload_n (pc := 1) hC dX7_become_1 rfl 1 rfl ?_
  refine v_get (pc := 2) (v := .ref (ad E 7)) hC fl_X7_15 kq_6 rfl dX7_become_2 ?_
  refine v_iconst (pc := 5) (v := 1) hC dX7_become_5 (by decide) ?_
  refine v_iald (pc := 6) (n := 5) hC kq_7 (by decide) dX7_become_6 h (fun h => ?_)
  refine v_puti (pc := 7) hC fp_X7_20 hk0 (fs_7_1 E _ _ _) (fn_7_1 E _ _) dX7_become_7 h (fun F1 h => ?_)
  refine v_aload_n (pc := 10) hC dX7_become_10 rfl 0 rfl ?_
  refine v_aload_n (pc := 11) hC dX7_become_11 rfl 1 rfl ?_
  refine v_get (pc := 12) (v := .ref (ad E 7)) hC fl_X7_15 kq_6 rfl dX7_become_12 ?_
  refine v_iconst (pc := 15) (v := 2) hC dX7_become_15 (by decide) ?_
  refine v_iald (pc := 16) (n := 5) hC kq_7 (by decide) dX7_become_16 h (fun h => ?_)
  refine v_puti (pc := 17) hC fp_X7_24 hk0 (fs_7_2 E _ _ _) (fn_7_2 E _ _) dX7_become_17 h (fun F2 h => ?_)
  refine v_aload_n (pc := 20) hC dX7_become_20 rfl 0 rfl ?_
  refine v_aload_n (pc := 21) hC dX7_become_21 rfl 1 rfl ?_
  refine v_get (pc := 22) (v := .ref (ad E 7)) hC fl_X7_15 kq_6 rfl dX7_become_22 ?_
  refine v_iconst (pc := 25) (v := 3) hC dX7_become_25 (by decide) ?_
  refine v_iald (pc := 26) (n := 5) hC kq_7 (by decide) dX7_become_26 h (fun h => ?_)
  refine v_puti (pc := 27) hC fp_X7_27 hk0 (fs_7_3 E _ _ _) (fn_7_3 E _ _) dX7_become_27 h (fun F3 h => ?_)
  refine v_aload_n (pc := 30) hC dX7_become_30 rfl 0 rfl ?_
  refine v_aload_n (pc := 31) hC dX7_become_31 rfl 1 rfl ?_
  refine v_get (pc := 32) (v := .ref (ad E 7)) hC fl_X7_15 kq_6 rfl dX7_become_32 ?_
  refine v_iconst (pc := 35) (v := 4) hC dX7_become_35 (by decide) ?_
  refine v_iald (pc := 36) (n := 5) hC kq_7 (by decide) dX7_become_36 h (fun h => ?_)
  refine v_puti (pc := 37) hC fp_X7_30 hk0 (fs_7_4 E _ _ _) (fn_7_4 E _ _) dX7_become_37 h (fun F4 h => ?_)
  refine v_aload_n (pc := 40) hC dX7_become_40 rfl 0 rfl ?_
  refine v_aload_n (pc := 41) hC dX7_become_41 rfl 1 rfl ?_
  refine v_get (pc := 42) (v := .int (F4 6 2)) hC fl_X7_33 kq_6 rfl dX7_become_42 ?_
  refine v_puti (pc := 45) hC fp_X7_36 hk0 (fs_7_5 E _ _ _) (fn_7_5 E _ _) dX7_become_45 h (fun F5 h => ?_)
  refine v_aload_n (pc := 48) hC dX7_become_48 rfl 1 rfl ?_
  refine v_get (pc := 49) (v := .ref (ad E 8)) hC fl_X7_37 kq_6 rfl dX7_become_49 ?_
  refine v_iconst (pc := 52) (v := 0) hC dX7_become_52 (by decide) ?_
  refine v_aload_n (pc := 53) hC dX7_become_53 rfl 0 rfl ?_
  refine v_get (pc := 54) (v := .ref (ad E (k0 + 1))) hC fl_X7_9 hk0 rfl dX7_become_54 ?_
  refine v_iconst (pc := 57) (v := 0) hC dX7_become_57 (by decide) ?_
  refine v_bipush (pc := 58) (v := 6) hC dX7_become_58 (by decide) ?_
  refine v_copy (pc := 60) (n0 := 6) (n1 := 6) (n' := 6) hC ac_X7_38 ac_n ac_s in_Sys kq_8 (by decide) (kd_p1 hk0) (by decide) (by decide) (by decide) (by decide) (by decide) ⟨Nat.le_of_ble_eq_true rfl, Nat.le_of_ble_eq_true rfl⟩ dX7_become_60 h (fun F6 h => ?_)
  exact v_vret (pc := 63) hC dX7_become_63 h
def rm_X7_become_ : Room := { frames := 1, cells := 0, slots := 0, locals := 18 }
def wp_X7_become_ (k0 : Nat) (k1 : Nat) (F : gS) (Q : gS → Prop) : Prop :=
  Nm (upF F k0 1 (F k1 1)) fun F1 =>
  Nm (upF F1 k0 2 (F1 k1 2)) fun F2 =>
  Nm (upF F2 k0 3 (F2 k1 3)) fun F3 =>
  Nm (upF F3 k0 4 (F3 k1 4)) fun F4 =>
  Nm (upF F4 k0 5 (F4 k1 5)) fun F5 =>
  Nm (upR F5 (k0 + 1) (va_cpy (F5 (k1 + 1)) (F5 (k0 + 1)) 0 0 6)) fun F6 =>
  Q F6
set_option maxRecDepth 20000 in
set_option maxHeartbeats 4000000 in
theorem c_X7_become_ (l : Launch) (E : gE) {k0 : Nat} (hk0 : kd k0 = 7) {k1 : Nat} (hk1 : kd k1 = 7) {F : gS} {Q : gS → Prop} (h : wp_X7_become_ k0 k1 F Q) : CtV l E yX7_become_ cX7_become_ 2 none rm_X7_become_ [.ref (ad E k0), .ref (ad E k1)] F Q := by
  refine ct_of (by decide) (Nat.le_of_ble_eq_true rfl) (fun p e s m below meth c hC => ?_)
  generalize ([.ref (ad E k0), .ref (ad E k1)] : List Value).toArray = args at hC ⊢
  refine v_sub (lv' := [(0, .ref (ad E k0)), (1, .ref (ad E k1))]) [0, 1] rfl ?_
  unfold wp_X7_become_ at h
  refine v_aload_n (pc := 0) hC dX7_become__0 rfl 0 rfl ?_
  refine v_aload_n (pc := 1) hC dX7_become__1 rfl 1 rfl ?_
  refine v_get (pc := 2) (v := .int (F k1 1)) hC fl_X7_20 hk1 rfl dX7_become__2 ?_
  refine v_puti (pc := 5) hC fp_X7_20 hk0 (fs_7_1 E _ _ _) (fn_7_1 E _ _) dX7_become__5 h (fun F1 h => ?_)
  refine v_aload_n (pc := 8) hC dX7_become__8 rfl 0 rfl ?_
  refine v_aload_n (pc := 9) hC dX7_become__9 rfl 1 rfl ?_
  refine v_get (pc := 10) (v := .int (F1 k1 2)) hC fl_X7_24 hk1 rfl dX7_become__10 ?_
  refine v_puti (pc := 13) hC fp_X7_24 hk0 (fs_7_2 E _ _ _) (fn_7_2 E _ _) dX7_become__13 h (fun F2 h => ?_)
  refine v_aload_n (pc := 16) hC dX7_become__16 rfl 0 rfl ?_
  refine v_aload_n (pc := 17) hC dX7_become__17 rfl 1 rfl ?_
  refine v_get (pc := 18) (v := .int (F2 k1 3)) hC fl_X7_27 hk1 rfl dX7_become__18 ?_
  refine v_puti (pc := 21) hC fp_X7_27 hk0 (fs_7_3 E _ _ _) (fn_7_3 E _ _) dX7_become__21 h (fun F3 h => ?_)
  refine v_aload_n (pc := 24) hC dX7_become__24 rfl 0 rfl ?_
  refine v_aload_n (pc := 25) hC dX7_become__25 rfl 1 rfl ?_
  refine v_get (pc := 26) (v := .int (F3 k1 4)) hC fl_X7_30 hk1 rfl dX7_become__26 ?_
  refine v_puti (pc := 29) hC fp_X7_30 hk0 (fs_7_4 E _ _ _) (fn_7_4 E _ _) dX7_become__29 h (fun F4 h => ?_)
  refine v_aload_n (pc := 32) hC dX7_become__32 rfl 0 rfl ?_
  refine v_aload_n (pc := 33) hC dX7_become__33 rfl 1 rfl ?_
  refine v_get (pc := 34) (v := .int (F4 k1 5)) hC fl_X7_36 hk1 rfl dX7_become__34 ?_
  refine v_puti (pc := 37) hC fp_X7_36 hk0 (fs_7_5 E _ _ _) (fn_7_5 E _ _) dX7_become__37 h (fun F5 h => ?_)
  refine v_aload_n (pc := 40) hC dX7_become__40 rfl 1 rfl ?_
  refine v_get (pc := 41) (v := .ref (ad E (k1 + 1))) hC fl_X7_9 hk1 rfl dX7_become__41 ?_
  refine v_iconst (pc := 44) (v := 0) hC dX7_become__44 (by decide) ?_
  refine v_aload_n (pc := 45) hC dX7_become__45 rfl 0 rfl ?_
  refine v_get (pc := 46) (v := .ref (ad E (k0 + 1))) hC fl_X7_9 hk0 rfl dX7_become__46 ?_
  refine v_iconst (pc := 49) (v := 0) hC dX7_become__49 (by decide) ?_
  refine v_bipush (pc := 50) (v := 6) hC dX7_become__50 (by decide) ?_
  refine v_copy (pc := 52) (n0 := 6) (n1 := 6) (n' := 6) hC ac_X7_38 ac_n ac_s in_Sys (kd_p1 hk1) (by decide) (kd_p1 hk0) (by decide) (by decide) (by decide) (by decide) (by decide) ⟨Nat.le_of_ble_eq_true rfl, Nat.le_of_ble_eq_true rfl⟩ dX7_become__52 h (fun F6 h => ?_)
  exact v_vret (pc := 55) hC dX7_become__55 h
def rm_X7_told : Room := { frames := 0, cells := 0, slots := 0, locals := 0 }
def wp_X7_told (k0 : Nat) (x1 : Int32) (F : gS) (Q : Int32 → Prop) : Prop :=
  if x1 = 0 then
    (Q (F k0 1))
  else (if x1 = 1 then
    (Q (F k0 2))
  else (if x1 = 2 then
    (Q (F k0 3))
  else (if x1 = 3 then
    (Q (F k0 4))
  else (Q (F k0 5)))))
set_option maxRecDepth 20000 in
set_option maxHeartbeats 4000000 in
theorem c_X7_told (l : Launch) (E : gE) {k0 : Nat} (hk0 : kd k0 = 7) {x1 : Int32} {F : gS} {Q : Int32 → Prop} (h : wp_X7_told k0 x1 F Q) : CtI l E yX7_told cX7_told 2 (some .int) rm_X7_told [.ref (ad E k0), .int x1] F (fun r G => G = F ∧ Q r) := by
  refine ct_of (by decide) (Nat.le_of_ble_eq_true rfl) (fun p e s m below meth c hC => ?_)
  generalize ([.ref (ad E k0), .int x1] : List Value).toArray = args at hC ⊢
  refine v_sub (lv' := [(0, .ref (ad E k0)), (1, .int x1)]) [0, 1] rfl ?_
  unfold wp_X7_told at h
  refine v_iload_n (pc := 0) hC dX7_told_0 rfl 1 rfl ?_
  by_cases c1 : x1 = 0
  · skip
    rw [if_pos c1] at h
    refine v_tin (pc := 1) (tgt := 32) hC dX7_told_1 0 (by rw [c1]; rfl) (by decide) (by decide) rfl (by decide) ?_
    refine v_aload_n (pc := 32) hC dX7_told_32 rfl 0 rfl ?_
    refine v_get (pc := 33) (v := .int (F k0 1)) hC fl_X7_20 hk0 rfl dX7_told_33 ?_
    exact v_iret (pc := 36) hC dX7_told_36 ⟨rfl, h⟩
  · skip
    rw [if_neg c1] at h
    by_cases c2 : x1 = 1
    · skip
      rw [if_pos c2] at h
      refine v_tin (pc := 1) (tgt := 37) hC dX7_told_1 1 (by rw [c2]; rfl) (by decide) (by decide) rfl (by decide) ?_
      refine v_aload_n (pc := 37) hC dX7_told_37 rfl 0 rfl ?_
      refine v_get (pc := 38) (v := .int (F k0 2)) hC fl_X7_24 hk0 rfl dX7_told_38 ?_
      exact v_iret (pc := 41) hC dX7_told_41 ⟨rfl, h⟩
    · skip
      rw [if_neg c2] at h
      by_cases c3 : x1 = 2
      · skip
        rw [if_pos c3] at h
        refine v_tin (pc := 1) (tgt := 42) hC dX7_told_1 2 (by rw [c3]; rfl) (by decide) (by decide) rfl (by decide) ?_
        refine v_aload_n (pc := 42) hC dX7_told_42 rfl 0 rfl ?_
        refine v_get (pc := 43) (v := .int (F k0 3)) hC fl_X7_27 hk0 rfl dX7_told_43 ?_
        exact v_iret (pc := 46) hC dX7_told_46 ⟨rfl, h⟩
      · skip
        rw [if_neg c3] at h
        by_cases c4 : x1 = 3
        · skip
          rw [if_pos c4] at h
          refine v_tin (pc := 1) (tgt := 47) hC dX7_told_1 3 (by rw [c4]; rfl) (by decide) (by decide) rfl (by decide) ?_
          refine v_aload_n (pc := 47) hC dX7_told_47 rfl 0 rfl ?_
          refine v_get (pc := 48) (v := .int (F k0 4)) hC fl_X7_30 hk0 rfl dX7_told_48 ?_
          exact v_iret (pc := 51) hC dX7_told_51 ⟨rfl, h⟩
        · skip
          rw [if_neg c4] at h
          refine v_tout (pc := 1) (tgt := 52) hC dX7_told_1 (by have := lv_neT c1 (a := 0) rfl; have := lv_neT c2 (a := 1) rfl; have := lv_neT c3 (a := 2) rfl; have := lv_neT c4 (a := 3) rfl; omega) (by decide) ?_
          refine v_aload_n (pc := 52) hC dX7_told_52 rfl 0 rfl ?_
          refine v_get (pc := 53) (v := .int (F k0 5)) hC fl_X7_36 hk0 rfl dX7_told_53 ?_
          exact v_iret (pc := 56) hC dX7_told_56 ⟨rfl, h⟩
def rm_X7_swingAt : Room := { frames := 1, cells := 0, slots := 0, locals := 22 }
def wp_X7_swingAt (k0 : Nat) (x1 : Int32) (F : gS) (Q : Int32 → Prop) : Prop :=
  wp_X11_within x1 0 ((F k0 5) - 1) F fun r1 =>
  if r1 = 0 then
    (Q (-1))
  else
    (vp_in x1 6 ∧
    Q (F (k0 + 1) x1.toNatClampNeg))
set_option maxRecDepth 20000 in
set_option maxHeartbeats 4000000 in
theorem c_X7_swingAt (l : Launch) (E : gE) {k0 : Nat} (hk0 : kd k0 = 7) {x1 : Int32} {F : gS} {Q : Int32 → Prop} (h : wp_X7_swingAt k0 x1 F Q) : CtI l E yX7_swingAt cX7_swingAt 2 (some .int) rm_X7_swingAt [.ref (ad E k0), .int x1] F (fun r G => G = F ∧ Q r) := by
  refine ct_of (by decide) (Nat.le_of_ble_eq_true rfl) (fun p e s m below meth c hC => ?_)
  generalize ([.ref (ad E k0), .int x1] : List Value).toArray = args at hC ⊢
  refine v_sub (lv' := [(0, .ref (ad E k0)), (1, .int x1)]) [0, 1] rfl ?_
  unfold wp_X7_swingAt at h
  refine v_iload_n (pc := 0) hC dX7_swingAt_0 rfl 1 rfl ?_
  refine v_iconst (pc := 1) (v := 0) hC dX7_swingAt_1 (by decide) ?_
  refine v_aload_n (pc := 2) hC dX7_swingAt_2 rfl 0 rfl ?_
  refine v_get (pc := 3) (v := .int (F k0 5)) hC fl_X7_36 hk0 rfl dX7_swingAt_3 ?_
  refine v_iconst (pc := 6) (v := 1) hC dX7_swingAt_6 (by decide) ?_
  refine v_isub (pc := 7) hC dX7_swingAt_7 ?_
  refine v_cyp (pc := 8) (r_SN (rest := []) hC mn_X7_44 ms_X11_within (c_X11_within l E h) ⟨rfl, rfl⟩ ⟨Nat.le_of_ble_eq_true rfl, Nat.le_of_ble_eq_true rfl⟩ rfl rfl (Nat.le_of_ble_eq_true rfl) ⟨Nat.zero_le _, Nat.zero_le _⟩ dX7_swingAt_8) (fun r1 b2 h => ?_)
  refine v_if_eq (pc := 11) (tgt := 23) hC dX7_swingAt_11 (by decide) h (fun h => ?_) (fun h => ?_)
  · skip
    refine v_iconst (pc := 23) (v := (-1)) hC dX7_swingAt_23 (by decide) ?_
    exact v_iret (pc := 24) hC dX7_swingAt_24 ⟨rfl, h⟩
  · skip
    refine v_aload_n (pc := 14) hC dX7_swingAt_14 rfl 0 rfl ?_
    refine v_get (pc := 15) (v := .ref (ad E (k0 + 1))) hC fl_X7_9 hk0 rfl dX7_swingAt_15 ?_
    refine v_iload_n (pc := 18) hC dX7_swingAt_18 rfl 1 rfl ?_
    refine v_iald (pc := 19) (n := 6) hC (kd_p1 hk0) (by decide) dX7_swingAt_19 h (fun h => ?_)
    refine v_goto (pc := 20) (tgt := 24) hC dX7_swingAt_20 (by decide) ?_
    exact v_iret (pc := 24) hC dX7_swingAt_24 ⟨rfl, h⟩
def rm_X5_become : Room := { frames := 0, cells := 0, slots := 0, locals := 0 }
def wb_X5_become_26 (Q : gS → Prop) (K26 : gS → Int32 → Prop) (F : gS) (x2 : Int32) : Prop :=
  if (F 9 2) ≤ x2 then
    (Q F)
  else
    (vp_in x2 16 ∧
    vp_in x2 16 ∧ Nm (upF F 10 x2.toNatClampNeg (F 4 x2.toNatClampNeg)) fun F4 =>
    vp_in x2 16 ∧
    vp_in x2 16 ∧ Nm (upF F4 11 x2.toNatClampNeg (vp_nar .boolean (F4 5 x2.toNatClampNeg))) fun F5 =>
    Nm (x2 + 1) fun n6 =>
    K26 F5 n6)
def wp_X5_become (F : gS) (Q : gS → Prop) : Prop :=
  Nm (upF F 9 3 (F 3 2)) fun F1 =>
  Nm (upF F1 9 4 (F1 3 4)) fun F2 =>
  Nm (upF F2 9 2 (F2 3 3)) fun F3 =>
  LP2 (wb_X5_become_26 Q) F3 0
set_option maxRecDepth 20000 in
set_option maxHeartbeats 4000000 in
theorem jb_X5_become_26 {p : Program} {l : Launch} {e : Env} {s : State} {m : MethodId} {args : Array Value} {below : List Frame} {meth : Method} {c : Code} {E : gE} (hC : CX p s m args meth c cX5_become RX5 none E 3) {Q : gS → Prop} {F : gS} {x2 : Int32} {K26 : gS → Int32 → Prop} (hK26 : ∀ (F : gS) (x2 : Int32), K26 F x2 → VV p l e rm_X5_become s m args below meth c 0 0 (MQ below (va_Qv Q (gB E) (gA E)) args s 0 0 (gA E)) E 3 F 26 [(0, .ref (ad E 9)), (1, .ref (ad E 3)), (2, .int x2)] []) (h : wb_X5_become_26 Q K26 F x2) : VV p l e rm_X5_become s m args below meth c 0 0 (MQ below (va_Qv Q (gB E) (gA E)) args s 0 0 (gA E)) E 3 F 26 [(0, .ref (ad E 9)), (1, .ref (ad E 3)), (2, .int x2)] [] := by
  unfold wb_X5_become_26 at h
  refine v_iload_n (pc := 26) hC dX5_become_26 rfl 2 rfl ?_
  refine v_aload_n (pc := 27) hC dX5_become_27 rfl 0 rfl ?_
  refine v_get (pc := 28) (v := .int (F 9 2)) hC fl_X5_41 kq_9 rfl dX5_become_28 ?_
  refine v_ic_ge (pc := 31) (tgt := 64) hC dX5_become_31 (by decide) h (fun h => ?_) (fun h => ?_)
  · skip
    exact v_vret (pc := 64) hC dX5_become_64 h
  · skip
    refine v_aload_n (pc := 34) hC dX5_become_34 rfl 0 rfl ?_
    refine v_get (pc := 35) (v := .ref (ad E 10)) hC fl_X5_9 kq_9 rfl dX5_become_35 ?_
    refine v_iload_n (pc := 38) hC dX5_become_38 rfl 2 rfl ?_
    refine v_aload_n (pc := 39) hC dX5_become_39 rfl 1 rfl ?_
    refine v_get (pc := 40) (v := .ref (ad E 4)) hC fl_X5_42 kq_3 rfl dX5_become_40 ?_
    refine v_iload_n (pc := 43) hC dX5_become_43 rfl 2 rfl ?_
    refine v_iald (pc := 44) (n := 16) hC kq_4 (by decide) dX5_become_44 h (fun h => ?_)
    refine v_iast (pc := 45) (n := 16) hC kq_10 (by decide) dX5_become_45 h (fun F4 h => ?_)
    refine v_aload_n (pc := 46) hC dX5_become_46 rfl 0 rfl ?_
    refine v_get (pc := 47) (v := .ref (ad E 11)) hC fl_X5_15 kq_9 rfl dX5_become_47 ?_
    refine v_iload_n (pc := 50) hC dX5_become_50 rfl 2 rfl ?_
    refine v_aload_n (pc := 51) hC dX5_become_51 rfl 1 rfl ?_
    refine v_get (pc := 52) (v := .ref (ad E 5)) hC fl_X5_43 kq_3 rfl dX5_become_52 ?_
    refine v_iload_n (pc := 55) hC dX5_become_55 rfl 2 rfl ?_
    refine v_zald (pc := 56) (n := 16) hC kq_5 (by decide) dX5_become_56 h (fun h => ?_)
    refine v_zast (pc := 57) (n := 16) hC kq_11 (by decide) dX5_become_57 h (fun F5 h => ?_)
    refine v_iinc (pc := 58) (v := 1) hC (fun z => [(2, .int z), (0, .ref (ad E 9)), (1, .ref (ad E 3))]) dX5_become_58 2 rfl (by decide) (by decide) (fun _ => rfl) h (fun n6 h => ?_)
    refine v_goto (pc := 61) (tgt := 26) hC dX5_become_61 (by decide) ?_
    exact v_sub [1, 2, 0] rfl (hK26 _ _ h)
set_option maxRecDepth 20000 in
set_option maxHeartbeats 4000000 in
theorem jl_X5_become_26 {p : Program} {l : Launch} {e : Env} {s : State} {m : MethodId} {args : Array Value} {below : List Frame} {meth : Method} {c : Code} {E : gE} (hC : CX p s m args meth c cX5_become RX5 none E 3) {Q : gS → Prop} {F : gS} {x2 : Int32} (h : LP2 (wb_X5_become_26 Q) F x2) : VV p l e rm_X5_become s m args below meth c 0 0 (MQ below (va_Qv Q (gB E) (gA E)) args s 0 0 (gA E)) E 3 F 26 [(0, .ref (ad E 9)), (1, .ref (ad E 3)), (2, .int x2)] [] :=
  LP2_go (V := fun (F : gS) (x2 : Int32) => VV p l e rm_X5_become s m args below meth c 0 0 (MQ below (va_Qv Q (gB E) (gA E)) args s 0 0 (gA E)) E 3 F 26 [(0, .ref (ad E 9)), (1, .ref (ad E 3)), (2, .int x2)] []) (fun K26 hK26 F x2 h => jb_X5_become_26 hC hK26 h) F x2 h
set_option maxRecDepth 20000 in
set_option maxHeartbeats 4000000 in
theorem c_X5_become (l : Launch) (E : gE) {F : gS} {Q : gS → Prop} (h : wp_X5_become F Q) : CtV l E yX5_become cX5_become 3 none rm_X5_become [.ref (ad E 9), .ref (ad E 3)] F Q := by
  refine ct_of (by decide) (Nat.le_of_ble_eq_true rfl) (fun p e s m below meth c hC => ?_)
  generalize ([.ref (ad E 9), .ref (ad E 3)] : List Value).toArray = args at hC ⊢
  refine v_sub (lv' := [(0, .ref (ad E 9)), (1, .ref (ad E 3))]) [0, 1] rfl ?_
  unfold wp_X5_become at h
  refine v_aload_n (pc := 0) hC dX5_become_0 rfl 0 rfl ?_
  refine v_aload_n (pc := 1) hC dX5_become_1 rfl 1 rfl ?_
  refine v_get (pc := 2) (v := .int (F 3 2)) hC fl_X5_25 kq_3 rfl dX5_become_2 ?_
  refine v_puti (pc := 5) hC fp_X5_31 kq_9 (fs_5_3 E _ _ _) (fn_5_3 E _ _) dX5_become_5 h (fun F1 h => ?_)
  refine v_aload_n (pc := 8) hC dX5_become_8 rfl 0 rfl ?_
  refine v_aload_n (pc := 9) hC dX5_become_9 rfl 1 rfl ?_
  refine v_get (pc := 10) (v := .int (F1 3 4)) hC fl_X5_32 kq_3 rfl dX5_become_10 ?_
  refine v_puti (pc := 13) hC fp_X5_35 kq_9 (fs_5_4 E _ _ _) (fn_5_4 E _ _) dX5_become_13 h (fun F2 h => ?_)
  refine v_aload_n (pc := 16) hC dX5_become_16 rfl 0 rfl ?_
  refine v_aload_n (pc := 17) hC dX5_become_17 rfl 1 rfl ?_
  refine v_get (pc := 18) (v := .int (F2 3 3)) hC fl_X5_38 kq_3 rfl dX5_become_18 ?_
  refine v_puti (pc := 21) hC fp_X5_41 kq_9 (fs_5_2 E _ _ _) (fn_5_2 E _ _) dX5_become_21 h (fun F3 h => ?_)
  refine v_iconst (pc := 24) (v := 0) hC dX5_become_24 (by decide) ?_
  refine v_istore_n (pc := 25) (lv' := [(2, .int 0), (0, .ref (ad E 9)), (1, .ref (ad E 3))]) hC dX5_become_25 rfl (by decide) rfl ?_
  exact v_sub [1, 2, 0] rfl (jl_X5_become_26 hC h)
def rm_X5_beside : Room := { frames := 1, cells := 0, slots := 0, locals := 22 }
def wp_X5_beside_80 (Q : Int32 → Prop) (F : gS) (x4 : Int32) (x5 : Int32) (t0 : Int32) : Prop :=
  if t0 = 0 then
    (Q (-1))
  else
    (Q ((x4 * (F 9 4)) + x5))
def wp_X5_beside_42 (Q : Int32 → Prop) (F : gS) (x4 : Int32) (t0 : Int32) (t1 : Int32) : Prop :=
  Nm (t1 + t0) fun n2 =>
  wp_X11_within x4 0 ((F 9 3) - 1) F fun r3 =>
  if r3 = 0 then
    (wp_X5_beside_80 Q F x4 n2 0)
  else
    (wp_X11_within n2 0 ((F 9 4) - 1) F fun r5 =>
    if r5 = 0 then
      (wp_X5_beside_80 Q F x4 n2 0)
    else
      (wp_X5_beside_80 Q F x4 n2 1))
def wp_X5_beside_19 (Q : Int32 → Prop) (F : gS) (x2 : Int32) (x3 : Int32) (t0 : Int32) (t1 : Int32) : Prop :=
  Nm (t1 + t0) fun n1 =>
  if x3 = 3 then
    (wp_X5_beside_42 Q F n1 (-1) x2)
  else
    (if x3 = 1 then
      (wp_X5_beside_42 Q F n1 1 x2)
    else
      (wp_X5_beside_42 Q F n1 0 x2))
def wp_X5_beside (x1 : Int32) (x2 : Int32) (x3 : Int32) (F : gS) (Q : Int32 → Prop) : Prop :=
  if x3 = 0 then
    (wp_X5_beside_19 Q F x2 x3 (-1) x1)
  else
    (if x3 = 2 then
      (wp_X5_beside_19 Q F x2 x3 1 x1)
    else
      (wp_X5_beside_19 Q F x2 x3 0 x1))
set_option maxRecDepth 20000 in
set_option maxHeartbeats 4000000 in
theorem j_X5_beside_80 {p : Program} {l : Launch} {e : Env} {s : State} {m : MethodId} {args : Array Value} {below : List Frame} {meth : Method} {c : Code} {E : gE} (hC : CX p s m args meth c cX5_beside RX5 (some .int) E 7) {Q : Int32 → Prop} {F : gS} {x4 : Int32} {x5 : Int32} {t0 : Int32} (h : wp_X5_beside_80 Q F x4 x5 t0) : VV p l e rm_X5_beside s m args below meth c 0 0 (MQ below (va_Qi (fun r G => G = F ∧ Q r) (gB E) (gA E)) args s 0 0 (gA E)) E 7 F 80 [(0, .ref (ad E 9)), (4, .int x4), (5, .int x5)] [.int t0] := by
  unfold wp_X5_beside_80 at h
  refine v_istore (pc := 80) (lv' := [(6, .int t0), (0, .ref (ad E 9)), (4, .int x4), (5, .int x5)]) hC dX5_beside_80 (by decide) rfl ?_
  refine v_iload (pc := 82) hC dX5_beside_82 0 rfl ?_
  refine v_if_eq (pc := 84) (tgt := 100) hC dX5_beside_84 (by decide) h (fun h => ?_) (fun h => ?_)
  · skip
    refine v_iconst (pc := 100) (v := (-1)) hC dX5_beside_100 (by decide) ?_
    exact v_iret (pc := 101) hC dX5_beside_101 ⟨rfl, h⟩
  · skip
    refine v_iload (pc := 87) hC dX5_beside_87 2 rfl ?_
    refine v_aload_n (pc := 89) hC dX5_beside_89 rfl 1 rfl ?_
    refine v_get (pc := 90) (v := .int (F 9 4)) hC fl_X5_35 kq_9 rfl dX5_beside_90 ?_
    refine v_imul (pc := 93) hC dX5_beside_93 ?_
    refine v_iload (pc := 94) hC dX5_beside_94 3 rfl ?_
    refine v_iadd (pc := 96) hC dX5_beside_96 ?_
    refine v_goto (pc := 97) (tgt := 101) hC dX5_beside_97 (by decide) ?_
    exact v_iret (pc := 101) hC dX5_beside_101 ⟨rfl, h⟩
set_option maxRecDepth 20000 in
set_option maxHeartbeats 4000000 in
theorem j_X5_beside_42 {p : Program} {l : Launch} {e : Env} {s : State} {m : MethodId} {args : Array Value} {below : List Frame} {meth : Method} {c : Code} {E : gE} (hC : CX p s m args meth c cX5_beside RX5 (some .int) E 7) {Q : Int32 → Prop} {F : gS} {x4 : Int32} {t0 : Int32} {t1 : Int32} (h : wp_X5_beside_42 Q F x4 t0 t1) : VV p l e rm_X5_beside s m args below meth c 0 0 (MQ below (va_Qi (fun r G => G = F ∧ Q r) (gB E) (gA E)) args s 0 0 (gA E)) E 7 F 42 [(0, .ref (ad E 9)), (4, .int x4)] [.int t0, .int t1] := by
  unfold wp_X5_beside_42 at h
  refine v_iadd (pc := 42) hC dX5_beside_42 ?_
  refine v_nmi h (fun n2 h => ?_)
  refine v_istore (pc := 43) (lv' := [(5, .int n2), (0, .ref (ad E 9)), (4, .int x4)]) hC dX5_beside_43 (by decide) rfl ?_
  refine v_iload (pc := 45) hC dX5_beside_45 2 rfl ?_
  refine v_iconst (pc := 47) (v := 0) hC dX5_beside_47 (by decide) ?_
  refine v_aload_n (pc := 48) hC dX5_beside_48 rfl 1 rfl ?_
  refine v_get (pc := 49) (v := .int (F 9 3)) hC fl_X5_31 kq_9 rfl dX5_beside_49 ?_
  refine v_iconst (pc := 52) (v := 1) hC dX5_beside_52 (by decide) ?_
  refine v_isub (pc := 53) hC dX5_beside_53 ?_
  refine v_cyp (pc := 54) (r_SN (rest := []) hC mn_X5_115 ms_X11_within (c_X11_within l E h) ⟨rfl, rfl⟩ ⟨Nat.le_of_ble_eq_true rfl, Nat.le_of_ble_eq_true rfl⟩ rfl rfl (Nat.le_of_ble_eq_true rfl) ⟨Nat.zero_le _, Nat.zero_le _⟩ dX5_beside_54) (fun r3 b4 h => ?_)
  refine v_if_eq (pc := 57) (tgt := 79) hC dX5_beside_57 (by decide) h (fun h => ?_) (fun h => ?_)
  · skip
    refine v_iconst (pc := 79) (v := 0) hC dX5_beside_79 (by decide) ?_
    exact v_sub [1, 2, 0] rfl (j_X5_beside_80 hC h)
  · skip
    refine v_iload (pc := 60) hC dX5_beside_60 0 rfl ?_
    refine v_iconst (pc := 62) (v := 0) hC dX5_beside_62 (by decide) ?_
    refine v_aload_n (pc := 63) hC dX5_beside_63 rfl 1 rfl ?_
    refine v_get (pc := 64) (v := .int (F 9 4)) hC fl_X5_35 kq_9 rfl dX5_beside_64 ?_
    refine v_iconst (pc := 67) (v := 1) hC dX5_beside_67 (by decide) ?_
    refine v_isub (pc := 68) hC dX5_beside_68 ?_
    refine v_cyp (pc := 69) (r_SN (rest := []) hC mn_X5_115 ms_X11_within (c_X11_within l E h) ⟨rfl, rfl⟩ ⟨Nat.le_of_ble_eq_true rfl, Nat.le_of_ble_eq_true rfl⟩ rfl rfl (Nat.le_of_ble_eq_true rfl) ⟨Nat.zero_le _, Nat.zero_le _⟩ dX5_beside_69) (fun r5 b6 h => ?_)
    refine v_if_eq (pc := 72) (tgt := 79) hC dX5_beside_72 (by decide) h (fun h => ?_) (fun h => ?_)
    · skip
      refine v_iconst (pc := 79) (v := 0) hC dX5_beside_79 (by decide) ?_
      exact v_sub [1, 2, 0] rfl (j_X5_beside_80 hC h)
    · skip
      refine v_iconst (pc := 75) (v := 1) hC dX5_beside_75 (by decide) ?_
      refine v_goto (pc := 76) (tgt := 80) hC dX5_beside_76 (by decide) ?_
      exact v_sub [1, 2, 0] rfl (j_X5_beside_80 hC h)
set_option maxRecDepth 20000 in
set_option maxHeartbeats 4000000 in
theorem j_X5_beside_19 {p : Program} {l : Launch} {e : Env} {s : State} {m : MethodId} {args : Array Value} {below : List Frame} {meth : Method} {c : Code} {E : gE} (hC : CX p s m args meth c cX5_beside RX5 (some .int) E 7) {Q : Int32 → Prop} {F : gS} {x2 : Int32} {x3 : Int32} {t0 : Int32} {t1 : Int32} (h : wp_X5_beside_19 Q F x2 x3 t0 t1) : VV p l e rm_X5_beside s m args below meth c 0 0 (MQ below (va_Qi (fun r G => G = F ∧ Q r) (gB E) (gA E)) args s 0 0 (gA E)) E 7 F 19 [(0, .ref (ad E 9)), (2, .int x2), (3, .int x3)] [.int t0, .int t1] := by
  unfold wp_X5_beside_19 at h
  refine v_iadd (pc := 19) hC dX5_beside_19 ?_
  refine v_nmi h (fun n1 h => ?_)
  refine v_istore (pc := 20) (lv' := [(4, .int n1), (0, .ref (ad E 9)), (2, .int x2), (3, .int x3)]) hC dX5_beside_20 (by decide) rfl ?_
  refine v_iload_n (pc := 22) hC dX5_beside_22 rfl 2 rfl ?_
  refine v_iload_n (pc := 23) hC dX5_beside_23 rfl 3 rfl ?_
  refine v_iconst (pc := 24) (v := 3) hC dX5_beside_24 (by decide) ?_
  refine v_ic_ne (pc := 25) (tgt := 32) hC dX5_beside_25 (by decide) h (fun h => ?_) (fun h => ?_)
  · skip
    refine v_iload_n (pc := 32) hC dX5_beside_32 rfl 3 rfl ?_
    refine v_iconst (pc := 33) (v := 1) hC dX5_beside_33 (by decide) ?_
    refine v_ic_ne (pc := 34) (tgt := 41) hC dX5_beside_34 (by decide) h (fun h => ?_) (fun h => ?_)
    · skip
      refine v_iconst (pc := 41) (v := 0) hC dX5_beside_41 (by decide) ?_
      exact v_sub [1, 0] rfl (j_X5_beside_42 hC h)
    · skip
      refine v_iconst (pc := 37) (v := 1) hC dX5_beside_37 (by decide) ?_
      refine v_goto (pc := 38) (tgt := 42) hC dX5_beside_38 (by decide) ?_
      exact v_sub [1, 0] rfl (j_X5_beside_42 hC h)
  · skip
    refine v_iconst (pc := 28) (v := (-1)) hC dX5_beside_28 (by decide) ?_
    refine v_goto (pc := 29) (tgt := 42) hC dX5_beside_29 (by decide) ?_
    exact v_sub [1, 0] rfl (j_X5_beside_42 hC h)
set_option maxRecDepth 20000 in
set_option maxHeartbeats 4000000 in
theorem c_X5_beside (l : Launch) (E : gE) {x1 : Int32} {x2 : Int32} {x3 : Int32} {F : gS} {Q : Int32 → Prop} (h : wp_X5_beside x1 x2 x3 F Q) : CtI l E yX5_beside cX5_beside 7 (some .int) rm_X5_beside [.ref (ad E 9), .int x1, .int x2, .int x3] F (fun r G => G = F ∧ Q r) := by
  refine ct_of (by decide) (Nat.le_of_ble_eq_true rfl) (fun p e s m below meth c hC => ?_)
  generalize ([.ref (ad E 9), .int x1, .int x2, .int x3] : List Value).toArray = args at hC ⊢
  refine v_sub (lv' := [(0, .ref (ad E 9)), (1, .int x1), (2, .int x2), (3, .int x3)]) [0, 1, 2, 3] rfl ?_
  unfold wp_X5_beside at h
  refine v_iload_n (pc := 0) hC dX5_beside_0 rfl 1 rfl ?_
  refine v_iload_n (pc := 1) hC dX5_beside_1 rfl 3 rfl ?_
  refine v_if_ne (pc := 2) (tgt := 9) hC dX5_beside_2 (by decide) h (fun h => ?_) (fun h => ?_)
  · skip
    refine v_iload_n (pc := 9) hC dX5_beside_9 rfl 3 rfl ?_
    refine v_iconst (pc := 10) (v := 2) hC dX5_beside_10 (by decide) ?_
    refine v_ic_ne (pc := 11) (tgt := 18) hC dX5_beside_11 (by decide) h (fun h => ?_) (fun h => ?_)
    · skip
      refine v_iconst (pc := 18) (v := 0) hC dX5_beside_18 (by decide) ?_
      exact v_sub [0, 2, 3] rfl (j_X5_beside_19 hC h)
    · skip
      refine v_iconst (pc := 14) (v := 1) hC dX5_beside_14 (by decide) ?_
      refine v_goto (pc := 15) (tgt := 19) hC dX5_beside_15 (by decide) ?_
      exact v_sub [0, 2, 3] rfl (j_X5_beside_19 hC h)
  · skip
    refine v_iconst (pc := 5) (v := (-1)) hC dX5_beside_5 (by decide) ?_
    refine v_goto (pc := 6) (tgt := 19) hC dX5_beside_6 (by decide) ?_
    exact v_sub [0, 2, 3] rfl (j_X5_beside_19 hC h)
def rm_X5_pour : Room := { frames := 2, cells := 0, slots := 0, locals := 37 }
def wp_X5_pour_32 (k1 : Nat) (k3 : Nat) (Q : gS → Prop) (F : gS) (x2 : Int32) : Prop :=
  Nm ((((F 9 3) / 2) * (F 9 4)) + ((F 9 4) / 2)) fun n4 =>
  vp_in n4 16 ∧ Nm (upF F (k3 + 1) n4.toNatClampNeg x2) fun F5 =>
  wp_X1_cool k1 n4 x2 F5 fun F6 =>
  Q F6
def wb_X5_pour_3 (k1 : Nat) (k3 : Nat) (Q : gS → Prop) (x2 : Int32) (K3 : gS → Int32 → Prop) (F : gS) (x4 : Int32) : Prop :=
  if 16 ≤ x4 then
    (wp_X5_pour_32 k1 k3 Q F x2)
  else
    (vp_in x4 16 ∧ Nm (upF F (k3 + 1) x4.toNatClampNeg 0) fun F1 =>
    vp_in x4 16 ∧ Nm (upF F1 12 x4.toNatClampNeg (vp_nar .boolean 0)) fun F2 =>
    Nm (x4 + 1) fun n3 =>
    K3 F2 n3)
def wp_X5_pour (k1 : Nat) (k3 : Nat) (x2 : Int32) (F : gS) (Q : gS → Prop) : Prop :=
  LP2 (wb_X5_pour_3 k1 k3 Q x2) F 0
set_option maxRecDepth 20000 in
set_option maxHeartbeats 4000000 in
theorem j_X5_pour_32 {p : Program} {l : Launch} {e : Env} {s : State} {m : MethodId} {args : Array Value} {below : List Frame} {meth : Method} {c : Code} {E : gE} (hC : CX p s m args meth c cX5_pour RX5 none E 5) {k1 : Nat} (hk1 : kd k1 = 1) {k3 : Nat} (hk3 : kd k3 = 0) {Q : gS → Prop} {F : gS} {x2 : Int32} (h : wp_X5_pour_32 k1 k3 Q F x2) : VV p l e rm_X5_pour s m args below meth c 0 0 (MQ below (va_Qv Q (gB E) (gA E)) args s 0 0 (gA E)) E 5 F 32 [(0, .ref (ad E 9)), (1, .ref (ad E k1)), (2, .int x2), (3, .ref (ad E k3))] [] := by
  unfold wp_X5_pour_32 at h
  refine v_aload_n (pc := 32) hC dX5_pour_32 rfl 0 rfl ?_
  refine v_get (pc := 33) (v := .int (F 9 3)) hC fl_X5_31 kq_9 rfl dX5_pour_33 ?_
  refine v_iconst (pc := 36) (v := 2) hC dX5_pour_36 (by decide) ?_
  refine v_idiv (pc := 37) hC dX5_pour_37 ⟨by decide, h⟩ (fun h => ?_)
  refine v_aload_n (pc := 38) hC dX5_pour_38 rfl 0 rfl ?_
  refine v_get (pc := 39) (v := .int (F 9 4)) hC fl_X5_35 kq_9 rfl dX5_pour_39 ?_
  refine v_imul (pc := 42) hC dX5_pour_42 ?_
  refine v_aload_n (pc := 43) hC dX5_pour_43 rfl 0 rfl ?_
  refine v_get (pc := 44) (v := .int (F 9 4)) hC fl_X5_35 kq_9 rfl dX5_pour_44 ?_
  refine v_iconst (pc := 47) (v := 2) hC dX5_pour_47 (by decide) ?_
  refine v_idiv (pc := 48) hC dX5_pour_48 ⟨by decide, h⟩ (fun h => ?_)
  refine v_iadd (pc := 49) hC dX5_pour_49 ?_
  refine v_nmi h (fun n4 h => ?_)
  refine v_istore (pc := 50) (lv' := [(4, .int n4), (0, .ref (ad E 9)), (1, .ref (ad E k1)), (2, .int x2), (3, .ref (ad E k3))]) hC dX5_pour_50 (by decide) rfl ?_
  refine v_aload_n (pc := 52) hC dX5_pour_52 rfl 4 rfl ?_
  refine v_get (pc := 53) (v := .ref (ad E (k3 + 1))) hC fl_X5_95 hk3 rfl dX5_pour_53 ?_
  refine v_iload (pc := 56) hC dX5_pour_56 0 rfl ?_
  refine v_iload_n (pc := 58) hC dX5_pour_58 rfl 3 rfl ?_
  refine v_iast (pc := 59) (n := 16) hC (kd_c1 hk3) (by decide) dX5_pour_59 h (fun F5 h => ?_)
  refine v_aload_n (pc := 60) hC dX5_pour_60 rfl 2 rfl ?_
  refine v_iload (pc := 61) hC dX5_pour_61 0 rfl ?_
  refine v_iload_n (pc := 63) hC dX5_pour_63 rfl 3 rfl ?_
  refine v_cv (pc := 64) (r_V (rest := []) hC ml_X5_98 mv_X1_cool (c_X1_cool l E hk1 h) ⟨rfl, rfl⟩ ⟨Nat.le_of_ble_eq_true rfl, Nat.le_of_ble_eq_true rfl⟩ hk1 rfl (by decide) rfl rfl (Nat.le_of_ble_eq_true rfl) ⟨Nat.zero_le _, Nat.zero_le _⟩ dX5_pour_64) (fun F6 h => ?_)
  exact v_vret (pc := 67) hC dX5_pour_67 h
set_option maxRecDepth 20000 in
set_option maxHeartbeats 4000000 in
theorem jb_X5_pour_3 {p : Program} {l : Launch} {e : Env} {s : State} {m : MethodId} {args : Array Value} {below : List Frame} {meth : Method} {c : Code} {E : gE} (hC : CX p s m args meth c cX5_pour RX5 none E 5) {k1 : Nat} (hk1 : kd k1 = 1) {k3 : Nat} (hk3 : kd k3 = 0) {Q : gS → Prop} {F : gS} {x2 : Int32} {x4 : Int32} {K3 : gS → Int32 → Prop} (hK3 : ∀ (F : gS) (x4 : Int32), K3 F x4 → VV p l e rm_X5_pour s m args below meth c 0 0 (MQ below (va_Qv Q (gB E) (gA E)) args s 0 0 (gA E)) E 5 F 3 [(0, .ref (ad E 9)), (1, .ref (ad E k1)), (2, .int x2), (3, .ref (ad E k3)), (4, .int x4)] []) (h : wb_X5_pour_3 k1 k3 Q x2 K3 F x4) : VV p l e rm_X5_pour s m args below meth c 0 0 (MQ below (va_Qv Q (gB E) (gA E)) args s 0 0 (gA E)) E 5 F 3 [(0, .ref (ad E 9)), (1, .ref (ad E k1)), (2, .int x2), (3, .ref (ad E k3)), (4, .int x4)] [] := by
  unfold wb_X5_pour_3 at h
  refine v_iload (pc := 3) hC dX5_pour_3 4 rfl ?_
  refine v_bipush (pc := 5) (v := 16) hC dX5_pour_5 (by decide) ?_
  refine v_ic_ge (pc := 7) (tgt := 32) hC dX5_pour_7 (by decide) h (fun h => ?_) (fun h => ?_)
  · skip
    exact v_sub [0, 1, 2, 3] rfl (j_X5_pour_32 hC hk1 hk3 h)
  · skip
    refine v_aload_n (pc := 10) hC dX5_pour_10 rfl 3 rfl ?_
    refine v_get (pc := 11) (v := .ref (ad E (k3 + 1))) hC fl_X5_95 hk3 rfl dX5_pour_11 ?_
    refine v_iload (pc := 14) hC dX5_pour_14 4 rfl ?_
    refine v_iconst (pc := 16) (v := 0) hC dX5_pour_16 (by decide) ?_
    refine v_iast (pc := 17) (n := 16) hC (kd_c1 hk3) (by decide) dX5_pour_17 h (fun F1 h => ?_)
    refine v_aload_n (pc := 18) hC dX5_pour_18 rfl 0 rfl ?_
    refine v_get (pc := 19) (v := .ref (ad E 12)) hC fl_X5_19 kq_9 rfl dX5_pour_19 ?_
    refine v_iload (pc := 22) hC dX5_pour_22 4 rfl ?_
    refine v_iconst (pc := 24) (v := 0) hC dX5_pour_24 (by decide) ?_
    refine v_zast (pc := 25) (n := 16) hC kq_12 (by decide) dX5_pour_25 h (fun F2 h => ?_)
    refine v_iinc (pc := 26) (v := 1) hC (fun z => [(4, .int z), (0, .ref (ad E 9)), (1, .ref (ad E k1)), (2, .int x2), (3, .ref (ad E k3))]) dX5_pour_26 4 rfl (by decide) (by decide) (fun _ => rfl) h (fun n3 h => ?_)
    refine v_goto (pc := 29) (tgt := 3) hC dX5_pour_29 (by decide) ?_
    exact v_sub [1, 2, 3, 4, 0] rfl (hK3 _ _ h)
set_option maxRecDepth 20000 in
set_option maxHeartbeats 4000000 in
theorem jl_X5_pour_3 {p : Program} {l : Launch} {e : Env} {s : State} {m : MethodId} {args : Array Value} {below : List Frame} {meth : Method} {c : Code} {E : gE} (hC : CX p s m args meth c cX5_pour RX5 none E 5) {k1 : Nat} (hk1 : kd k1 = 1) {k3 : Nat} (hk3 : kd k3 = 0) {Q : gS → Prop} {F : gS} {x2 : Int32} {x4 : Int32} (h : LP2 (wb_X5_pour_3 k1 k3 Q x2) F x4) : VV p l e rm_X5_pour s m args below meth c 0 0 (MQ below (va_Qv Q (gB E) (gA E)) args s 0 0 (gA E)) E 5 F 3 [(0, .ref (ad E 9)), (1, .ref (ad E k1)), (2, .int x2), (3, .ref (ad E k3)), (4, .int x4)] [] :=
  LP2_go (V := fun (F : gS) (x4 : Int32) => VV p l e rm_X5_pour s m args below meth c 0 0 (MQ below (va_Qv Q (gB E) (gA E)) args s 0 0 (gA E)) E 5 F 3 [(0, .ref (ad E 9)), (1, .ref (ad E k1)), (2, .int x2), (3, .ref (ad E k3)), (4, .int x4)] []) (fun K3 hK3 F x4 h => jb_X5_pour_3 hC hk1 hk3 hK3 h) F x4 h
set_option maxRecDepth 20000 in
set_option maxHeartbeats 4000000 in
theorem c_X5_pour (l : Launch) (E : gE) {k1 : Nat} (hk1 : kd k1 = 1) {k3 : Nat} (hk3 : kd k3 = 0) {x2 : Int32} {F : gS} {Q : gS → Prop} (h : wp_X5_pour k1 k3 x2 F Q) : CtV l E yX5_pour cX5_pour 5 none rm_X5_pour [.ref (ad E 9), .ref (ad E k1), .int x2, .ref (ad E k3)] F Q := by
  refine ct_of (by decide) (Nat.le_of_ble_eq_true rfl) (fun p e s m below meth c hC => ?_)
  generalize ([.ref (ad E 9), .ref (ad E k1), .int x2, .ref (ad E k3)] : List Value).toArray = args at hC ⊢
  refine v_sub (lv' := [(0, .ref (ad E 9)), (1, .ref (ad E k1)), (2, .int x2), (3, .ref (ad E k3))]) [0, 1, 2, 3] rfl ?_
  unfold wp_X5_pour at h
  refine v_iconst (pc := 0) (v := 0) hC dX5_pour_0 (by decide) ?_
  refine v_istore (pc := 1) (lv' := [(4, .int 0), (0, .ref (ad E 9)), (1, .ref (ad E k1)), (2, .int x2), (3, .ref (ad E k3))]) hC dX5_pour_1 (by decide) rfl ?_
  exact v_sub [1, 2, 3, 4, 0] rfl (jl_X5_pour_3 hC hk1 hk3 h)
def rm_X5_lie : Room := { frames := 1, cells := 0, slots := 0, locals := 29 }
def wb_X5_lie_6 (k1 : Nat) (k4 : Nat) (Q : Int32 → gS → Prop) (x2 : Int32) (x3 : Int32) (K6 : gS → Int32 → Int32 → Prop) (F : gS) (x5 : Int32) (x6 : Int32) : Prop :=
  if (F 9 2) ≤ x6 then
    (Q x5 F)
  else
    (vp_in x6 16 ∧
    vp_in x6 16 ∧
    wp_X1_heat k1 x6 (x2 * (F 10 x6.toNatClampNeg)) x3 (F (k4 + 1) x6.toNatClampNeg) F fun r1 F2 =>
    Nm (x5 + r1) fun n3 =>
    Nm (x6 + 1) fun n4 =>
    K6 F2 n3 n4)
def wp_X5_lie (k1 : Nat) (k4 : Nat) (x2 : Int32) (x3 : Int32) (F : gS) (Q : Int32 → gS → Prop) : Prop :=
  LP3 (wb_X5_lie_6 k1 k4 Q x2 x3) F 0 0
set_option maxRecDepth 20000 in
set_option maxHeartbeats 4000000 in
theorem jb_X5_lie_6 {p : Program} {l : Launch} {e : Env} {s : State} {m : MethodId} {args : Array Value} {below : List Frame} {meth : Method} {c : Code} {E : gE} (hC : CX p s m args meth c cX5_lie RX5 (some .int) E 7) {k1 : Nat} (hk1 : kd k1 = 1) {k4 : Nat} (hk4 : kd k4 = 0) {Q : Int32 → gS → Prop} {F : gS} {x2 : Int32} {x3 : Int32} {x5 : Int32} {x6 : Int32} {K6 : gS → Int32 → Int32 → Prop} (hK6 : ∀ (F : gS) (x5 : Int32) (x6 : Int32), K6 F x5 x6 → VV p l e rm_X5_lie s m args below meth c 0 0 (MQ below (va_Qi Q (gB E) (gA E)) args s 0 0 (gA E)) E 7 F 6 [(0, .ref (ad E 9)), (1, .ref (ad E k1)), (2, .int x2), (3, .int x3), (4, .ref (ad E k4)), (5, .int x5), (6, .int x6)] []) (h : wb_X5_lie_6 k1 k4 Q x2 x3 K6 F x5 x6) : VV p l e rm_X5_lie s m args below meth c 0 0 (MQ below (va_Qi Q (gB E) (gA E)) args s 0 0 (gA E)) E 7 F 6 [(0, .ref (ad E 9)), (1, .ref (ad E k1)), (2, .int x2), (3, .int x3), (4, .ref (ad E k4)), (5, .int x5), (6, .int x6)] [] := by
  unfold wb_X5_lie_6 at h
  refine v_iload (pc := 6) hC dX5_lie_6 6 rfl ?_
  refine v_aload_n (pc := 8) hC dX5_lie_8 rfl 0 rfl ?_
  refine v_get (pc := 9) (v := .int (F 9 2)) hC fl_X5_41 kq_9 rfl dX5_lie_9 ?_
  refine v_ic_ge (pc := 12) (tgt := 50) hC dX5_lie_12 (by decide) h (fun h => ?_) (fun h => ?_)
  · skip
    refine v_iload (pc := 50) hC dX5_lie_50 5 rfl ?_
    exact v_iret (pc := 52) hC dX5_lie_52 h
  · skip
    refine v_iload (pc := 15) hC dX5_lie_15 5 rfl ?_
    refine v_aload_n (pc := 17) hC dX5_lie_17 rfl 1 rfl ?_
    refine v_iload (pc := 18) hC dX5_lie_18 6 rfl ?_
    refine v_iload_n (pc := 20) hC dX5_lie_20 rfl 2 rfl ?_
    refine v_aload_n (pc := 21) hC dX5_lie_21 rfl 0 rfl ?_
    refine v_get (pc := 22) (v := .ref (ad E 10)) hC fl_X5_9 kq_9 rfl dX5_lie_22 ?_
    refine v_iload (pc := 25) hC dX5_lie_25 6 rfl ?_
    refine v_iald (pc := 27) (n := 16) hC kq_10 (by decide) dX5_lie_27 h (fun h => ?_)
    refine v_imul (pc := 28) hC dX5_lie_28 ?_
    refine v_iload_n (pc := 29) hC dX5_lie_29 rfl 3 rfl ?_
    refine v_aload (pc := 30) hC dX5_lie_30 4 rfl ?_
    refine v_get (pc := 32) (v := .ref (ad E (k4 + 1))) hC fl_X5_95 hk4 rfl dX5_lie_32 ?_
    refine v_iload (pc := 35) hC dX5_lie_35 6 rfl ?_
    refine v_iald (pc := 37) (n := 16) hC (kd_c1 hk4) (by decide) dX5_lie_37 h (fun h => ?_)
    refine v_ci (pc := 38) (r_V (rest := [.int x5]) hC ml_X5_104 mv_X1_heat (c_X1_heat l E hk1 h) ⟨rfl, rfl⟩ ⟨Nat.le_of_ble_eq_true rfl, Nat.le_of_ble_eq_true rfl⟩ hk1 rfl (by decide) rfl rfl (Nat.le_of_ble_eq_true rfl) ⟨Nat.zero_le _, Nat.zero_le _⟩ dX5_lie_38) (fun r1 F2 h => ?_)
    refine v_iadd (pc := 41) hC dX5_lie_41 ?_
    refine v_nmi h (fun n3 h => ?_)
    refine v_istore (pc := 42) (lv' := [(5, .int n3), (0, .ref (ad E 9)), (1, .ref (ad E k1)), (2, .int x2), (3, .int x3), (4, .ref (ad E k4)), (6, .int x6)]) hC dX5_lie_42 (by decide) rfl ?_
    refine v_iinc (pc := 44) (v := 1) hC (fun z => [(6, .int z), (5, .int n3), (0, .ref (ad E 9)), (1, .ref (ad E k1)), (2, .int x2), (3, .int x3), (4, .ref (ad E k4))]) dX5_lie_44 6 rfl (by decide) (by decide) (fun _ => rfl) h (fun n4 h => ?_)
    refine v_goto (pc := 47) (tgt := 6) hC dX5_lie_47 (by decide) ?_
    exact v_sub [2, 3, 4, 5, 6, 1, 0] rfl (hK6 _ _ _ h)
set_option maxRecDepth 20000 in
set_option maxHeartbeats 4000000 in
theorem jl_X5_lie_6 {p : Program} {l : Launch} {e : Env} {s : State} {m : MethodId} {args : Array Value} {below : List Frame} {meth : Method} {c : Code} {E : gE} (hC : CX p s m args meth c cX5_lie RX5 (some .int) E 7) {k1 : Nat} (hk1 : kd k1 = 1) {k4 : Nat} (hk4 : kd k4 = 0) {Q : Int32 → gS → Prop} {F : gS} {x2 : Int32} {x3 : Int32} {x5 : Int32} {x6 : Int32} (h : LP3 (wb_X5_lie_6 k1 k4 Q x2 x3) F x5 x6) : VV p l e rm_X5_lie s m args below meth c 0 0 (MQ below (va_Qi Q (gB E) (gA E)) args s 0 0 (gA E)) E 7 F 6 [(0, .ref (ad E 9)), (1, .ref (ad E k1)), (2, .int x2), (3, .int x3), (4, .ref (ad E k4)), (5, .int x5), (6, .int x6)] [] :=
  LP3_go (V := fun (F : gS) (x5 : Int32) (x6 : Int32) => VV p l e rm_X5_lie s m args below meth c 0 0 (MQ below (va_Qi Q (gB E) (gA E)) args s 0 0 (gA E)) E 7 F 6 [(0, .ref (ad E 9)), (1, .ref (ad E k1)), (2, .int x2), (3, .int x3), (4, .ref (ad E k4)), (5, .int x5), (6, .int x6)] []) (fun K6 hK6 F x5 x6 h => jb_X5_lie_6 hC hk1 hk4 hK6 h) F x5 x6 h
set_option maxRecDepth 20000 in
set_option maxHeartbeats 4000000 in
theorem c_X5_lie (l : Launch) (E : gE) {k1 : Nat} (hk1 : kd k1 = 1) {k4 : Nat} (hk4 : kd k4 = 0) {x2 : Int32} {x3 : Int32} {F : gS} {Q : Int32 → gS → Prop} (h : wp_X5_lie k1 k4 x2 x3 F Q) : CtI l E yX5_lie cX5_lie 7 (some .int) rm_X5_lie [.ref (ad E 9), .ref (ad E k1), .int x2, .int x3, .ref (ad E k4)] F Q := by
  refine ct_of (by decide) (Nat.le_of_ble_eq_true rfl) (fun p e s m below meth c hC => ?_)
  generalize ([.ref (ad E 9), .ref (ad E k1), .int x2, .int x3, .ref (ad E k4)] : List Value).toArray = args at hC ⊢
  refine v_sub (lv' := [(0, .ref (ad E 9)), (1, .ref (ad E k1)), (2, .int x2), (3, .int x3), (4, .ref (ad E k4))]) [0, 1, 2, 3, 4] rfl ?_
  unfold wp_X5_lie at h
  refine v_iconst (pc := 0) (v := 0) hC dX5_lie_0 (by decide) ?_
  refine v_istore (pc := 1) (lv' := [(5, .int 0), (0, .ref (ad E 9)), (1, .ref (ad E k1)), (2, .int x2), (3, .int x3), (4, .ref (ad E k4))]) hC dX5_lie_1 (by decide) rfl ?_
  refine v_iconst (pc := 3) (v := 0) hC dX5_lie_3 (by decide) ?_
  refine v_istore (pc := 4) (lv' := [(6, .int 0), (5, .int 0), (0, .ref (ad E 9)), (1, .ref (ad E k1)), (2, .int x2), (3, .int x3), (4, .ref (ad E k4))]) hC dX5_lie_4 (by decide) rfl ?_
  exact v_sub [2, 3, 4, 5, 6, 1, 0] rfl (jl_X5_lie_6 hC hk1 hk4 h)
def rm_X5_fasten : Room := { frames := 0, cells := 0, slots := 0, locals := 0 }
def wb_X5_fasten_2 (k1 : Nat) (k2 : Nat) (Q : gS → Prop) (K2 : gS → Int32 → Prop) (F : gS) (x3 : Int32) : Prop :=
  if (F 9 2) ≤ x3 then
    (Q F)
  else
    (vp_in x3 16 ∧
    if (F (k2 + 1) x3.toNatClampNeg) ≤ 0 then
      (Nm (x3 + 1) fun n1 =>
      K2 F n1)
    else
      (vp_in x3 16 ∧
      if (F (k1 + 1) x3.toNatClampNeg) < 100 then
        (Nm (x3 + 1) fun n2 =>
        K2 F n2)
      else
        (vp_in x3 16 ∧ Nm (upF F 12 x3.toNatClampNeg (vp_nar .boolean 1)) fun F3 =>
        Nm (x3 + 1) fun n4 =>
        K2 F3 n4)))
def wp_X5_fasten (k1 : Nat) (k2 : Nat) (F : gS) (Q : gS → Prop) : Prop :=
  LP2 (wb_X5_fasten_2 k1 k2 Q) F 0
set_option maxRecDepth 20000 in
set_option maxHeartbeats 4000000 in
theorem jb_X5_fasten_2 {p : Program} {l : Launch} {e : Env} {s : State} {m : MethodId} {args : Array Value} {below : List Frame} {meth : Method} {c : Code} {E : gE} (hC : CX p s m args meth c cX5_fasten RX5 none E 4) {k1 : Nat} (hk1 : kd k1 = 1) {k2 : Nat} (hk2 : kd k2 = 0) {Q : gS → Prop} {F : gS} {x3 : Int32} {K2 : gS → Int32 → Prop} (hK2 : ∀ (F : gS) (x3 : Int32), K2 F x3 → VV p l e rm_X5_fasten s m args below meth c 0 0 (MQ below (va_Qv Q (gB E) (gA E)) args s 0 0 (gA E)) E 4 F 2 [(0, .ref (ad E 9)), (1, .ref (ad E k1)), (2, .ref (ad E k2)), (3, .int x3)] []) (h : wb_X5_fasten_2 k1 k2 Q K2 F x3) : VV p l e rm_X5_fasten s m args below meth c 0 0 (MQ below (va_Qv Q (gB E) (gA E)) args s 0 0 (gA E)) E 4 F 2 [(0, .ref (ad E 9)), (1, .ref (ad E k1)), (2, .ref (ad E k2)), (3, .int x3)] [] := by
  unfold wb_X5_fasten_2 at h
  refine v_iload_n (pc := 2) hC dX5_fasten_2 rfl 3 rfl ?_
  refine v_aload_n (pc := 3) hC dX5_fasten_3 rfl 0 rfl ?_
  refine v_get (pc := 4) (v := .int (F 9 2)) hC fl_X5_41 kq_9 rfl dX5_fasten_4 ?_
  refine v_ic_ge (pc := 7) (tgt := 43) hC dX5_fasten_7 (by decide) h (fun h => ?_) (fun h => ?_)
  · skip
    exact v_vret (pc := 43) hC dX5_fasten_43 h
  · skip
    refine v_aload_n (pc := 10) hC dX5_fasten_10 rfl 2 rfl ?_
    refine v_get (pc := 11) (v := .ref (ad E (k2 + 1))) hC fl_X5_95 hk2 rfl dX5_fasten_11 ?_
    refine v_iload_n (pc := 14) hC dX5_fasten_14 rfl 3 rfl ?_
    refine v_iald (pc := 15) (n := 16) hC (kd_c1 hk2) (by decide) dX5_fasten_15 h (fun h => ?_)
    refine v_if_le (pc := 16) (tgt := 37) hC dX5_fasten_16 (by decide) h (fun h => ?_) (fun h => ?_)
    · skip
      refine v_iinc (pc := 37) (v := 1) hC (fun z => [(3, .int z), (0, .ref (ad E 9)), (1, .ref (ad E k1)), (2, .ref (ad E k2))]) dX5_fasten_37 3 rfl (by decide) (by decide) (fun _ => rfl) h (fun n1 h => ?_)
      refine v_goto (pc := 40) (tgt := 2) hC dX5_fasten_40 (by decide) ?_
      exact v_sub [1, 2, 3, 0] rfl (hK2 _ _ h)
    · skip
      refine v_aload_n (pc := 19) hC dX5_fasten_19 rfl 1 rfl ?_
      refine v_get (pc := 20) (v := .ref (ad E (k1 + 1))) hC fl_X5_108 hk1 rfl dX5_fasten_20 ?_
      refine v_iload_n (pc := 23) hC dX5_fasten_23 rfl 3 rfl ?_
      refine v_iald (pc := 24) (n := 16) hC (kd_d1 hk1) (by decide) dX5_fasten_24 h (fun h => ?_)
      refine v_bipush (pc := 25) (v := 100) hC dX5_fasten_25 (by decide) ?_
      refine v_ic_lt (pc := 27) (tgt := 37) hC dX5_fasten_27 (by decide) h (fun h => ?_) (fun h => ?_)
      · skip
        refine v_iinc (pc := 37) (v := 1) hC (fun z => [(3, .int z), (0, .ref (ad E 9)), (1, .ref (ad E k1)), (2, .ref (ad E k2))]) dX5_fasten_37 3 rfl (by decide) (by decide) (fun _ => rfl) h (fun n2 h => ?_)
        refine v_goto (pc := 40) (tgt := 2) hC dX5_fasten_40 (by decide) ?_
        exact v_sub [1, 2, 3, 0] rfl (hK2 _ _ h)
      · skip
        refine v_aload_n (pc := 30) hC dX5_fasten_30 rfl 0 rfl ?_
        refine v_get (pc := 31) (v := .ref (ad E 12)) hC fl_X5_19 kq_9 rfl dX5_fasten_31 ?_
        refine v_iload_n (pc := 34) hC dX5_fasten_34 rfl 3 rfl ?_
        refine v_iconst (pc := 35) (v := 1) hC dX5_fasten_35 (by decide) ?_
        refine v_zast (pc := 36) (n := 16) hC kq_12 (by decide) dX5_fasten_36 h (fun F3 h => ?_)
        refine v_iinc (pc := 37) (v := 1) hC (fun z => [(3, .int z), (0, .ref (ad E 9)), (1, .ref (ad E k1)), (2, .ref (ad E k2))]) dX5_fasten_37 3 rfl (by decide) (by decide) (fun _ => rfl) h (fun n4 h => ?_)
        refine v_goto (pc := 40) (tgt := 2) hC dX5_fasten_40 (by decide) ?_
        exact v_sub [1, 2, 3, 0] rfl (hK2 _ _ h)
set_option maxRecDepth 20000 in
set_option maxHeartbeats 4000000 in
theorem jl_X5_fasten_2 {p : Program} {l : Launch} {e : Env} {s : State} {m : MethodId} {args : Array Value} {below : List Frame} {meth : Method} {c : Code} {E : gE} (hC : CX p s m args meth c cX5_fasten RX5 none E 4) {k1 : Nat} (hk1 : kd k1 = 1) {k2 : Nat} (hk2 : kd k2 = 0) {Q : gS → Prop} {F : gS} {x3 : Int32} (h : LP2 (wb_X5_fasten_2 k1 k2 Q) F x3) : VV p l e rm_X5_fasten s m args below meth c 0 0 (MQ below (va_Qv Q (gB E) (gA E)) args s 0 0 (gA E)) E 4 F 2 [(0, .ref (ad E 9)), (1, .ref (ad E k1)), (2, .ref (ad E k2)), (3, .int x3)] [] :=
  LP2_go (V := fun (F : gS) (x3 : Int32) => VV p l e rm_X5_fasten s m args below meth c 0 0 (MQ below (va_Qv Q (gB E) (gA E)) args s 0 0 (gA E)) E 4 F 2 [(0, .ref (ad E 9)), (1, .ref (ad E k1)), (2, .ref (ad E k2)), (3, .int x3)] []) (fun K2 hK2 F x3 h => jb_X5_fasten_2 hC hk1 hk2 hK2 h) F x3 h
set_option maxRecDepth 20000 in
set_option maxHeartbeats 4000000 in
theorem c_X5_fasten (l : Launch) (E : gE) {k1 : Nat} (hk1 : kd k1 = 1) {k2 : Nat} (hk2 : kd k2 = 0) {F : gS} {Q : gS → Prop} (h : wp_X5_fasten k1 k2 F Q) : CtV l E yX5_fasten cX5_fasten 4 none rm_X5_fasten [.ref (ad E 9), .ref (ad E k1), .ref (ad E k2)] F Q := by
  refine ct_of (by decide) (Nat.le_of_ble_eq_true rfl) (fun p e s m below meth c hC => ?_)
  generalize ([.ref (ad E 9), .ref (ad E k1), .ref (ad E k2)] : List Value).toArray = args at hC ⊢
  refine v_sub (lv' := [(0, .ref (ad E 9)), (1, .ref (ad E k1)), (2, .ref (ad E k2))]) [0, 1, 2] rfl ?_
  unfold wp_X5_fasten at h
  refine v_iconst (pc := 0) (v := 0) hC dX5_fasten_0 (by decide) ?_
  refine v_istore_n (pc := 1) (lv' := [(3, .int 0), (0, .ref (ad E 9)), (1, .ref (ad E k1)), (2, .ref (ad E k2))]) hC dX5_fasten_1 rfl (by decide) rfl ?_
  exact v_sub [1, 2, 3, 0] rfl (jl_X5_fasten_2 hC hk1 hk2 h)
def rm_X5_run : Room := { frames := 2, cells := 0, slots := 0, locals := 48 }
def wb_X5_run_63 (k1 : Nat) (k2 : Nat) (K51 : gS → Int32 → Prop) (Q : gS → Prop) (x3 : Int32) (x4 : Int32) (K63 : gS → Int32 → Prop) (F : gS) (x5 : Int32) : Prop :=
  if (F 9 4) ≤ x5 then
    (Nm (x4 + 1) fun n5 =>
    K51 F n5)
  else
    (Nm ((x4 * (F 9 4)) + x5) fun n6 =>
    wp_X5_beside x4 x5 x3 F fun r7 =>
    if r7 = (-1) then
      (Nm (x5 + 1) fun n8 =>
      K63 F n8)
    else
      (vp_in n6 16 ∧
      vp_in n6 16 ∧
      vp_in n6 16 ∧ Nm (upF F (k2 + 1) n6.toNatClampNeg ((F (k2 + 1) n6.toNatClampNeg) - (F 13 n6.toNatClampNeg))) fun F9 =>
      vp_in r7 16 ∧
      vp_in n6 16 ∧
      vp_in r7 16 ∧ Nm (upF F9 (k2 + 1) r7.toNatClampNeg ((F9 (k2 + 1) r7.toNatClampNeg) + (F9 13 n6.toNatClampNeg))) fun F10 =>
      vp_in n6 16 ∧
      wp_X1_cool k1 r7 (F10 13 n6.toNatClampNeg) F10 fun F11 =>
      Nm (x5 + 1) fun n12 =>
      K63 F11 n12))
def wb_X5_run_51 (k1 : Nat) (k2 : Nat) (Q : gS → Prop) (x3 : Int32) (K51 : gS → Int32 → Prop) (F : gS) (x4 : Int32) : Prop :=
  if (F 9 3) ≤ x4 then
    (Q F)
  else
    (LP2 (wb_X5_run_63 k1 k2 K51 Q x3 x4) F 0)
def wb_X5_run_3 (k1 : Nat) (k2 : Nat) (Q : gS → Prop) (x3 : Int32) (K3 : gS → Int32 → Prop) (F : gS) (x4 : Int32) : Prop :=
  if (F 9 2) ≤ x4 then
    (LP2 (wb_X5_run_51 k1 k2 Q x3) F 0)
  else
    (vp_in x4 16 ∧
    if (F 12 x4.toNatClampNeg) = 0 then
      (vp_in x4 16 ∧
      vp_in x4 16 ∧ Nm (upF F 13 x4.toNatClampNeg ((F (k2 + 1) x4.toNatClampNeg) / 2)) fun F1 =>
      Nm (x4 + 1) fun n2 =>
      K3 F1 n2)
    else
      (vp_in x4 16 ∧ Nm (upF F 13 x4.toNatClampNeg 0) fun F3 =>
      Nm (x4 + 1) fun n4 =>
      K3 F3 n4))
def wp_X5_run (k1 : Nat) (k2 : Nat) (x3 : Int32) (F : gS) (Q : gS → Prop) : Prop :=
  LP2 (wb_X5_run_3 k1 k2 Q x3) F 0
set_option maxRecDepth 20000 in
set_option maxHeartbeats 4000000 in
theorem jb_X5_run_63 {p : Program} {l : Launch} {e : Env} {s : State} {m : MethodId} {args : Array Value} {below : List Frame} {meth : Method} {c : Code} {E : gE} (hC : CX p s m args meth c cX5_run RX5 none E 8) {k1 : Nat} (hk1 : kd k1 = 1) {k2 : Nat} (hk2 : kd k2 = 0) {Q : gS → Prop} {F : gS} {x3 : Int32} {x4 : Int32} {x5 : Int32} {K51 : gS → Int32 → Prop} (hK51 : ∀ (F : gS) (x4 : Int32), K51 F x4 → VV p l e rm_X5_run s m args below meth c 0 0 (MQ below (va_Qv Q (gB E) (gA E)) args s 0 0 (gA E)) E 8 F 51 [(0, .ref (ad E 9)), (1, .ref (ad E k1)), (2, .ref (ad E k2)), (3, .int x3), (4, .int x4)] []) {K63 : gS → Int32 → Prop} (hK63 : ∀ (F : gS) (x5 : Int32), K63 F x5 → VV p l e rm_X5_run s m args below meth c 0 0 (MQ below (va_Qv Q (gB E) (gA E)) args s 0 0 (gA E)) E 8 F 63 [(0, .ref (ad E 9)), (1, .ref (ad E k1)), (2, .ref (ad E k2)), (3, .int x3), (4, .int x4), (5, .int x5)] []) (h : wb_X5_run_63 k1 k2 K51 Q x3 x4 K63 F x5) : VV p l e rm_X5_run s m args below meth c 0 0 (MQ below (va_Qv Q (gB E) (gA E)) args s 0 0 (gA E)) E 8 F 63 [(0, .ref (ad E 9)), (1, .ref (ad E k1)), (2, .ref (ad E k2)), (3, .int x3), (4, .int x4), (5, .int x5)] [] := by
  unfold wb_X5_run_63 at h
  refine v_iload (pc := 63) hC dX5_run_63 5 rfl ?_
  refine v_aload_n (pc := 65) hC dX5_run_65 rfl 0 rfl ?_
  refine v_get (pc := 66) (v := .int (F 9 4)) hC fl_X5_35 kq_9 rfl dX5_run_66 ?_
  refine v_ic_ge (pc := 69) (tgt := 154) hC dX5_run_69 (by decide) h (fun h => ?_) (fun h => ?_)
  · skip
    refine v_iinc (pc := 154) (v := 1) hC (fun z => [(4, .int z), (0, .ref (ad E 9)), (1, .ref (ad E k1)), (2, .ref (ad E k2)), (3, .int x3), (5, .int x5)]) dX5_run_154 4 rfl (by decide) (by decide) (fun _ => rfl) h (fun n5 h => ?_)
    refine v_goto (pc := 157) (tgt := 51) hC dX5_run_157 (by decide) ?_
    exact v_sub [1, 2, 3, 4, 0] rfl (hK51 _ _ h)
  · skip
    refine v_iload (pc := 72) hC dX5_run_72 4 rfl ?_
    refine v_aload_n (pc := 74) hC dX5_run_74 rfl 0 rfl ?_
    refine v_get (pc := 75) (v := .int (F 9 4)) hC fl_X5_35 kq_9 rfl dX5_run_75 ?_
    refine v_imul (pc := 78) hC dX5_run_78 ?_
    refine v_iload (pc := 79) hC dX5_run_79 5 rfl ?_
    refine v_iadd (pc := 81) hC dX5_run_81 ?_
    refine v_nmi h (fun n6 h => ?_)
    refine v_istore (pc := 82) (lv' := [(6, .int n6), (0, .ref (ad E 9)), (1, .ref (ad E k1)), (2, .ref (ad E k2)), (3, .int x3), (4, .int x4), (5, .int x5)]) hC dX5_run_82 (by decide) rfl ?_
    refine v_aload_n (pc := 84) hC dX5_run_84 rfl 1 rfl ?_
    refine v_iload (pc := 85) hC dX5_run_85 5 rfl ?_
    refine v_iload (pc := 87) hC dX5_run_87 6 rfl ?_
    refine v_iload_n (pc := 89) hC dX5_run_89 rfl 4 rfl ?_
    refine v_cip (pc := 90) (r_V (rest := []) hC ml_X5_111 mv_X5_beside (c_X5_beside l E h) ⟨rfl, rfl⟩ ⟨Nat.le_of_ble_eq_true rfl, Nat.le_of_ble_eq_true rfl⟩ kq_9 rfl (by decide) rfl rfl (Nat.le_of_ble_eq_true rfl) ⟨Nat.zero_le _, Nat.zero_le _⟩ dX5_run_90) (fun r7 h => ?_)
    refine v_istore (pc := 93) (lv' := [(7, .int r7), (6, .int n6), (0, .ref (ad E 9)), (1, .ref (ad E k1)), (2, .ref (ad E k2)), (3, .int x3), (4, .int x4), (5, .int x5)]) hC dX5_run_93 (by decide) rfl ?_
    refine v_iload (pc := 95) hC dX5_run_95 0 rfl ?_
    refine v_iconst (pc := 97) (v := (-1)) hC dX5_run_97 (by decide) ?_
    refine v_ic_eq (pc := 98) (tgt := 148) hC dX5_run_98 (by decide) h (fun h => ?_) (fun h => ?_)
    · skip
      refine v_iinc (pc := 148) (v := 1) hC (fun z => [(5, .int z), (7, .int r7), (6, .int n6), (0, .ref (ad E 9)), (1, .ref (ad E k1)), (2, .ref (ad E k2)), (3, .int x3), (4, .int x4)]) dX5_run_148 7 rfl (by decide) (by decide) (fun _ => rfl) h (fun n8 h => ?_)
      refine v_goto (pc := 151) (tgt := 63) hC dX5_run_151 (by decide) ?_
      exact v_sub [3, 4, 5, 6, 7, 0] rfl (hK63 _ _ h)
    · skip
      refine v_aload_n (pc := 101) hC dX5_run_101 rfl 4 rfl ?_
      refine v_get (pc := 102) (v := .ref (ad E (k2 + 1))) hC fl_X5_95 hk2 rfl dX5_run_102 ?_
      refine v_iload (pc := 105) hC dX5_run_105 1 rfl ?_
      refine v_dup2 (pc := 107) hC dX5_run_107 rfl rfl ?_
      refine v_iald (pc := 108) (n := 16) hC (kd_c1 hk2) (by decide) dX5_run_108 h (fun h => ?_)
      refine v_aload_n (pc := 109) hC dX5_run_109 rfl 2 rfl ?_
      refine v_get (pc := 110) (v := .ref (ad E 13)) hC fl_X5_22 kq_9 rfl dX5_run_110 ?_
      refine v_iload (pc := 113) hC dX5_run_113 1 rfl ?_
      refine v_iald (pc := 115) (n := 16) hC kq_13 (by decide) dX5_run_115 h (fun h => ?_)
      refine v_isub (pc := 116) hC dX5_run_116 ?_
      refine v_iast (pc := 117) (n := 16) hC (kd_c1 hk2) (by decide) dX5_run_117 h (fun F9 h => ?_)
      refine v_aload_n (pc := 118) hC dX5_run_118 rfl 4 rfl ?_
      refine v_get (pc := 119) (v := .ref (ad E (k2 + 1))) hC fl_X5_95 hk2 rfl dX5_run_119 ?_
      refine v_iload (pc := 122) hC dX5_run_122 0 rfl ?_
      refine v_dup2 (pc := 124) hC dX5_run_124 rfl rfl ?_
      refine v_iald (pc := 125) (n := 16) hC (kd_c1 hk2) (by decide) dX5_run_125 h (fun h => ?_)
      refine v_aload_n (pc := 126) hC dX5_run_126 rfl 2 rfl ?_
      refine v_get (pc := 127) (v := .ref (ad E 13)) hC fl_X5_22 kq_9 rfl dX5_run_127 ?_
      refine v_iload (pc := 130) hC dX5_run_130 1 rfl ?_
      refine v_iald (pc := 132) (n := 16) hC kq_13 (by decide) dX5_run_132 h (fun h => ?_)
      refine v_iadd (pc := 133) hC dX5_run_133 ?_
      refine v_iast (pc := 134) (n := 16) hC (kd_c1 hk2) (by decide) dX5_run_134 h (fun F10 h => ?_)
      refine v_aload_n (pc := 135) hC dX5_run_135 rfl 3 rfl ?_
      refine v_iload (pc := 136) hC dX5_run_136 0 rfl ?_
      refine v_aload_n (pc := 138) hC dX5_run_138 rfl 2 rfl ?_
      refine v_get (pc := 139) (v := .ref (ad E 13)) hC fl_X5_22 kq_9 rfl dX5_run_139 ?_
      refine v_iload (pc := 142) hC dX5_run_142 1 rfl ?_
      refine v_iald (pc := 144) (n := 16) hC kq_13 (by decide) dX5_run_144 h (fun h => ?_)
      refine v_cv (pc := 145) (r_V (rest := []) hC ml_X5_98 mv_X1_cool (c_X1_cool l E hk1 h) ⟨rfl, rfl⟩ ⟨Nat.le_of_ble_eq_true rfl, Nat.le_of_ble_eq_true rfl⟩ hk1 rfl (by decide) rfl rfl (Nat.le_of_ble_eq_true rfl) ⟨Nat.zero_le _, Nat.zero_le _⟩ dX5_run_145) (fun F11 h => ?_)
      refine v_iinc (pc := 148) (v := 1) hC (fun z => [(5, .int z), (7, .int r7), (6, .int n6), (0, .ref (ad E 9)), (1, .ref (ad E k1)), (2, .ref (ad E k2)), (3, .int x3), (4, .int x4)]) dX5_run_148 7 rfl (by decide) (by decide) (fun _ => rfl) h (fun n12 h => ?_)
      refine v_goto (pc := 151) (tgt := 63) hC dX5_run_151 (by decide) ?_
      exact v_sub [3, 4, 5, 6, 7, 0] rfl (hK63 _ _ h)
set_option maxRecDepth 20000 in
set_option maxHeartbeats 4000000 in
theorem jl_X5_run_63 {p : Program} {l : Launch} {e : Env} {s : State} {m : MethodId} {args : Array Value} {below : List Frame} {meth : Method} {c : Code} {E : gE} (hC : CX p s m args meth c cX5_run RX5 none E 8) {k1 : Nat} (hk1 : kd k1 = 1) {k2 : Nat} (hk2 : kd k2 = 0) {Q : gS → Prop} {F : gS} {x3 : Int32} {x4 : Int32} {x5 : Int32} {K51 : gS → Int32 → Prop} (hK51 : ∀ (F : gS) (x4 : Int32), K51 F x4 → VV p l e rm_X5_run s m args below meth c 0 0 (MQ below (va_Qv Q (gB E) (gA E)) args s 0 0 (gA E)) E 8 F 51 [(0, .ref (ad E 9)), (1, .ref (ad E k1)), (2, .ref (ad E k2)), (3, .int x3), (4, .int x4)] []) (h : LP2 (wb_X5_run_63 k1 k2 K51 Q x3 x4) F x5) : VV p l e rm_X5_run s m args below meth c 0 0 (MQ below (va_Qv Q (gB E) (gA E)) args s 0 0 (gA E)) E 8 F 63 [(0, .ref (ad E 9)), (1, .ref (ad E k1)), (2, .ref (ad E k2)), (3, .int x3), (4, .int x4), (5, .int x5)] [] :=
  LP2_go (V := fun (F : gS) (x5 : Int32) => VV p l e rm_X5_run s m args below meth c 0 0 (MQ below (va_Qv Q (gB E) (gA E)) args s 0 0 (gA E)) E 8 F 63 [(0, .ref (ad E 9)), (1, .ref (ad E k1)), (2, .ref (ad E k2)), (3, .int x3), (4, .int x4), (5, .int x5)] []) (fun K63 hK63 F x5 h => jb_X5_run_63 hC hk1 hk2 hK51 hK63 h) F x5 h
set_option maxRecDepth 20000 in
set_option maxHeartbeats 4000000 in
theorem jb_X5_run_51 {p : Program} {l : Launch} {e : Env} {s : State} {m : MethodId} {args : Array Value} {below : List Frame} {meth : Method} {c : Code} {E : gE} (hC : CX p s m args meth c cX5_run RX5 none E 8) {k1 : Nat} (hk1 : kd k1 = 1) {k2 : Nat} (hk2 : kd k2 = 0) {Q : gS → Prop} {F : gS} {x3 : Int32} {x4 : Int32} {K51 : gS → Int32 → Prop} (hK51 : ∀ (F : gS) (x4 : Int32), K51 F x4 → VV p l e rm_X5_run s m args below meth c 0 0 (MQ below (va_Qv Q (gB E) (gA E)) args s 0 0 (gA E)) E 8 F 51 [(0, .ref (ad E 9)), (1, .ref (ad E k1)), (2, .ref (ad E k2)), (3, .int x3), (4, .int x4)] []) (h : wb_X5_run_51 k1 k2 Q x3 K51 F x4) : VV p l e rm_X5_run s m args below meth c 0 0 (MQ below (va_Qv Q (gB E) (gA E)) args s 0 0 (gA E)) E 8 F 51 [(0, .ref (ad E 9)), (1, .ref (ad E k1)), (2, .ref (ad E k2)), (3, .int x3), (4, .int x4)] [] := by
  unfold wb_X5_run_51 at h
  refine v_iload (pc := 51) hC dX5_run_51 4 rfl ?_
  refine v_aload_n (pc := 53) hC dX5_run_53 rfl 0 rfl ?_
  refine v_get (pc := 54) (v := .int (F 9 3)) hC fl_X5_31 kq_9 rfl dX5_run_54 ?_
  refine v_ic_ge (pc := 57) (tgt := 160) hC dX5_run_57 (by decide) h (fun h => ?_) (fun h => ?_)
  · skip
    exact v_vret (pc := 160) hC dX5_run_160 h
  · skip
    refine v_iconst (pc := 60) (v := 0) hC dX5_run_60 (by decide) ?_
    refine v_istore (pc := 61) (lv' := [(5, .int 0), (0, .ref (ad E 9)), (1, .ref (ad E k1)), (2, .ref (ad E k2)), (3, .int x3), (4, .int x4)]) hC dX5_run_61 (by decide) rfl ?_
    exact v_sub [1, 2, 3, 4, 5, 0] rfl (jl_X5_run_63 hC hk1 hk2 hK51 h)
set_option maxRecDepth 20000 in
set_option maxHeartbeats 4000000 in
theorem jl_X5_run_51 {p : Program} {l : Launch} {e : Env} {s : State} {m : MethodId} {args : Array Value} {below : List Frame} {meth : Method} {c : Code} {E : gE} (hC : CX p s m args meth c cX5_run RX5 none E 8) {k1 : Nat} (hk1 : kd k1 = 1) {k2 : Nat} (hk2 : kd k2 = 0) {Q : gS → Prop} {F : gS} {x3 : Int32} {x4 : Int32} (h : LP2 (wb_X5_run_51 k1 k2 Q x3) F x4) : VV p l e rm_X5_run s m args below meth c 0 0 (MQ below (va_Qv Q (gB E) (gA E)) args s 0 0 (gA E)) E 8 F 51 [(0, .ref (ad E 9)), (1, .ref (ad E k1)), (2, .ref (ad E k2)), (3, .int x3), (4, .int x4)] [] :=
  LP2_go (V := fun (F : gS) (x4 : Int32) => VV p l e rm_X5_run s m args below meth c 0 0 (MQ below (va_Qv Q (gB E) (gA E)) args s 0 0 (gA E)) E 8 F 51 [(0, .ref (ad E 9)), (1, .ref (ad E k1)), (2, .ref (ad E k2)), (3, .int x3), (4, .int x4)] []) (fun K51 hK51 F x4 h => jb_X5_run_51 hC hk1 hk2 hK51 h) F x4 h
set_option maxRecDepth 20000 in
set_option maxHeartbeats 4000000 in
theorem jb_X5_run_3 {p : Program} {l : Launch} {e : Env} {s : State} {m : MethodId} {args : Array Value} {below : List Frame} {meth : Method} {c : Code} {E : gE} (hC : CX p s m args meth c cX5_run RX5 none E 8) {k1 : Nat} (hk1 : kd k1 = 1) {k2 : Nat} (hk2 : kd k2 = 0) {Q : gS → Prop} {F : gS} {x3 : Int32} {x4 : Int32} {K3 : gS → Int32 → Prop} (hK3 : ∀ (F : gS) (x4 : Int32), K3 F x4 → VV p l e rm_X5_run s m args below meth c 0 0 (MQ below (va_Qv Q (gB E) (gA E)) args s 0 0 (gA E)) E 8 F 3 [(0, .ref (ad E 9)), (1, .ref (ad E k1)), (2, .ref (ad E k2)), (3, .int x3), (4, .int x4)] []) (h : wb_X5_run_3 k1 k2 Q x3 K3 F x4) : VV p l e rm_X5_run s m args below meth c 0 0 (MQ below (va_Qv Q (gB E) (gA E)) args s 0 0 (gA E)) E 8 F 3 [(0, .ref (ad E 9)), (1, .ref (ad E k1)), (2, .ref (ad E k2)), (3, .int x3), (4, .int x4)] [] := by
  unfold wb_X5_run_3 at h
  refine v_iload (pc := 3) hC dX5_run_3 4 rfl ?_
  refine v_aload_n (pc := 5) hC dX5_run_5 rfl 0 rfl ?_
  refine v_get (pc := 6) (v := .int (F 9 2)) hC fl_X5_41 kq_9 rfl dX5_run_6 ?_
  refine v_ic_ge (pc := 9) (tgt := 48) hC dX5_run_9 (by decide) h (fun h => ?_) (fun h => ?_)
  · skip
    refine v_iconst (pc := 48) (v := 0) hC dX5_run_48 (by decide) ?_
    refine v_istore (pc := 49) (lv' := [(4, .int 0), (0, .ref (ad E 9)), (1, .ref (ad E k1)), (2, .ref (ad E k2)), (3, .int x3)]) hC dX5_run_49 (by decide) rfl ?_
    exact v_sub [1, 2, 3, 4, 0] rfl (jl_X5_run_51 hC hk1 hk2 h)
  · skip
    refine v_aload_n (pc := 12) hC dX5_run_12 rfl 0 rfl ?_
    refine v_get (pc := 13) (v := .ref (ad E 13)) hC fl_X5_22 kq_9 rfl dX5_run_13 ?_
    refine v_iload (pc := 16) hC dX5_run_16 4 rfl ?_
    refine v_aload_n (pc := 18) hC dX5_run_18 rfl 0 rfl ?_
    refine v_get (pc := 19) (v := .ref (ad E 12)) hC fl_X5_19 kq_9 rfl dX5_run_19 ?_
    refine v_iload (pc := 22) hC dX5_run_22 4 rfl ?_
    refine v_zald (pc := 24) (n := 16) hC kq_12 (by decide) dX5_run_24 h (fun h => ?_)
    refine v_if_eq (pc := 25) (tgt := 32) hC dX5_run_25 (by decide) h (fun h => ?_) (fun h => ?_)
    · skip
      refine v_aload_n (pc := 32) hC dX5_run_32 rfl 2 rfl ?_
      refine v_get (pc := 33) (v := .ref (ad E (k2 + 1))) hC fl_X5_95 hk2 rfl dX5_run_33 ?_
      refine v_iload (pc := 36) hC dX5_run_36 4 rfl ?_
      refine v_iald (pc := 38) (n := 16) hC (kd_c1 hk2) (by decide) dX5_run_38 h (fun h => ?_)
      refine v_iconst (pc := 39) (v := 2) hC dX5_run_39 (by decide) ?_
      refine v_idiv (pc := 40) hC dX5_run_40 ⟨by decide, h⟩ (fun h => ?_)
      refine v_iast (pc := 41) (n := 16) hC kq_13 (by decide) dX5_run_41 h (fun F1 h => ?_)
      refine v_iinc (pc := 42) (v := 1) hC (fun z => [(4, .int z), (0, .ref (ad E 9)), (1, .ref (ad E k1)), (2, .ref (ad E k2)), (3, .int x3)]) dX5_run_42 4 rfl (by decide) (by decide) (fun _ => rfl) h (fun n2 h => ?_)
      refine v_goto (pc := 45) (tgt := 3) hC dX5_run_45 (by decide) ?_
      exact v_sub [1, 2, 3, 4, 0] rfl (hK3 _ _ h)
    · skip
      refine v_iconst (pc := 28) (v := 0) hC dX5_run_28 (by decide) ?_
      refine v_goto (pc := 29) (tgt := 41) hC dX5_run_29 (by decide) ?_
      refine v_iast (pc := 41) (n := 16) hC kq_13 (by decide) dX5_run_41 h (fun F3 h => ?_)
      refine v_iinc (pc := 42) (v := 1) hC (fun z => [(4, .int z), (0, .ref (ad E 9)), (1, .ref (ad E k1)), (2, .ref (ad E k2)), (3, .int x3)]) dX5_run_42 4 rfl (by decide) (by decide) (fun _ => rfl) h (fun n4 h => ?_)
      refine v_goto (pc := 45) (tgt := 3) hC dX5_run_45 (by decide) ?_
      exact v_sub [1, 2, 3, 4, 0] rfl (hK3 _ _ h)
set_option maxRecDepth 20000 in
set_option maxHeartbeats 4000000 in
theorem jl_X5_run_3 {p : Program} {l : Launch} {e : Env} {s : State} {m : MethodId} {args : Array Value} {below : List Frame} {meth : Method} {c : Code} {E : gE} (hC : CX p s m args meth c cX5_run RX5 none E 8) {k1 : Nat} (hk1 : kd k1 = 1) {k2 : Nat} (hk2 : kd k2 = 0) {Q : gS → Prop} {F : gS} {x3 : Int32} {x4 : Int32} (h : LP2 (wb_X5_run_3 k1 k2 Q x3) F x4) : VV p l e rm_X5_run s m args below meth c 0 0 (MQ below (va_Qv Q (gB E) (gA E)) args s 0 0 (gA E)) E 8 F 3 [(0, .ref (ad E 9)), (1, .ref (ad E k1)), (2, .ref (ad E k2)), (3, .int x3), (4, .int x4)] [] :=
  LP2_go (V := fun (F : gS) (x4 : Int32) => VV p l e rm_X5_run s m args below meth c 0 0 (MQ below (va_Qv Q (gB E) (gA E)) args s 0 0 (gA E)) E 8 F 3 [(0, .ref (ad E 9)), (1, .ref (ad E k1)), (2, .ref (ad E k2)), (3, .int x3), (4, .int x4)] []) (fun K3 hK3 F x4 h => jb_X5_run_3 hC hk1 hk2 hK3 h) F x4 h
set_option maxRecDepth 20000 in
set_option maxHeartbeats 4000000 in
theorem c_X5_run (l : Launch) (E : gE) {k1 : Nat} (hk1 : kd k1 = 1) {k2 : Nat} (hk2 : kd k2 = 0) {x3 : Int32} {F : gS} {Q : gS → Prop} (h : wp_X5_run k1 k2 x3 F Q) : CtV l E yX5_run cX5_run 8 none rm_X5_run [.ref (ad E 9), .ref (ad E k1), .ref (ad E k2), .int x3] F Q := by
  refine ct_of (by decide) (Nat.le_of_ble_eq_true rfl) (fun p e s m below meth c hC => ?_)
  generalize ([.ref (ad E 9), .ref (ad E k1), .ref (ad E k2), .int x3] : List Value).toArray = args at hC ⊢
  refine v_sub (lv' := [(0, .ref (ad E 9)), (1, .ref (ad E k1)), (2, .ref (ad E k2)), (3, .int x3)]) [0, 1, 2, 3] rfl ?_
  unfold wp_X5_run at h
  refine v_iconst (pc := 0) (v := 0) hC dX5_run_0 (by decide) ?_
  refine v_istore (pc := 1) (lv' := [(4, .int 0), (0, .ref (ad E 9)), (1, .ref (ad E k1)), (2, .ref (ad E k2)), (3, .int x3)]) hC dX5_run_1 (by decide) rfl ?_
  exact v_sub [1, 2, 3, 4, 0] rfl (jl_X5_run_3 hC hk1 hk2 h)
def rm_X5_takeOut : Room := { frames := 1, cells := 0, slots := 0, locals := 15 }
def wb_X5_takeOut_5 (k1 : Nat) (k2 : Nat) (Q : Int32 → gS → Prop) (K5 : gS → Int32 → Int32 → Prop) (F : gS) (x3 : Int32) (x4 : Int32) : Prop :=
  if (F 9 2) ≤ x4 then
    (Nm (upF F k1 2 (if (0 : Int32) < ((F k1 2) - 1) then ((F k1 2) - 1) else 0)) fun F1 =>
    Q x3 F1)
  else
    (vp_in x4 16 ∧
    if (F (k2 + 1) x4.toNatClampNeg) ≤ 0 then
      (Nm (x4 + 1) fun n2 =>
      K5 F x3 n2)
    else
      (vp_in x4 16 ∧
      if (F 11 x4.toNatClampNeg) = 0 then
        (Nm (x4 + 1) fun n3 =>
        K5 F x3 n3)
      else
        (vp_in x4 16 ∧
        if (F (k1 + 2) x4.toNatClampNeg) < (F k1 2) then
          (Nm (x4 + 1) fun n4 =>
          K5 F x3 n4)
        else
          (vp_in x4 16 ∧
          vp_in x4 16 ∧ Nm (upF F (k1 + 2) x4.toNatClampNeg (if ((F (k1 + 2) x4.toNatClampNeg) + 1) < 9 then ((F (k1 + 2) x4.toNatClampNeg) + 1) else 9)) fun F5 =>
          Nm (x3 + 1) fun n6 =>
          Nm (x4 + 1) fun n7 =>
          K5 F5 n6 n7))))
def wp_X5_takeOut (k1 : Nat) (k2 : Nat) (F : gS) (Q : Int32 → gS → Prop) : Prop :=
  LP3 (wb_X5_takeOut_5 k1 k2 Q) F 0 0
set_option maxRecDepth 20000 in
set_option maxHeartbeats 4000000 in
theorem jb_X5_takeOut_5 {p : Program} {l : Launch} {e : Env} {s : State} {m : MethodId} {args : Array Value} {below : List Frame} {meth : Method} {c : Code} {E : gE} (hC : CX p s m args meth c cX5_takeOut RX5 (some .int) E 5) {k1 : Nat} (hk1 : kd k1 = 1) {k2 : Nat} (hk2 : kd k2 = 0) {Q : Int32 → gS → Prop} {F : gS} {x3 : Int32} {x4 : Int32} {K5 : gS → Int32 → Int32 → Prop} (hK5 : ∀ (F : gS) (x3 : Int32) (x4 : Int32), K5 F x3 x4 → VV p l e rm_X5_takeOut s m args below meth c 0 0 (MQ below (va_Qi Q (gB E) (gA E)) args s 0 0 (gA E)) E 5 F 5 [(0, .ref (ad E 9)), (1, .ref (ad E k1)), (2, .ref (ad E k2)), (3, .int x3), (4, .int x4)] []) (h : wb_X5_takeOut_5 k1 k2 Q K5 F x3 x4) : VV p l e rm_X5_takeOut s m args below meth c 0 0 (MQ below (va_Qi Q (gB E) (gA E)) args s 0 0 (gA E)) E 5 F 5 [(0, .ref (ad E 9)), (1, .ref (ad E k1)), (2, .ref (ad E k2)), (3, .int x3), (4, .int x4)] [] := by
  unfold wb_X5_takeOut_5 at h
  refine v_iload (pc := 5) hC dX5_takeOut_5 4 rfl ?_
  refine v_aload_n (pc := 7) hC dX5_takeOut_7 rfl 0 rfl ?_
  refine v_get (pc := 8) (v := .int (F 9 2)) hC fl_X5_41 kq_9 rfl dX5_takeOut_8 ?_
  refine v_ic_ge (pc := 11) (tgt := 78) hC dX5_takeOut_11 (by decide) h (fun h => ?_) (fun h => ?_)
  · skip
    refine v_aload_n (pc := 78) hC dX5_takeOut_78 rfl 1 rfl ?_
    refine v_iconst (pc := 79) (v := 0) hC dX5_takeOut_79 (by decide) ?_
    refine v_aload_n (pc := 80) hC dX5_takeOut_80 rfl 1 rfl ?_
    refine v_get (pc := 81) (v := .int (F k1 2)) hC fl_X5_119 hk1 rfl dX5_takeOut_81 ?_
    refine v_iconst (pc := 84) (v := 1) hC dX5_takeOut_84 (by decide) ?_
    refine v_isub (pc := 85) hC dX5_takeOut_85 ?_
    refine v_max (pc := 86) hC mmax_X5_131 mmax_s in_Math mmax_c ⟨Nat.le_of_ble_eq_true rfl, Nat.le_of_ble_eq_true rfl⟩ ⟨Nat.zero_le _, Nat.zero_le _⟩ dX5_takeOut_86 ?_
    refine v_puti (pc := 89) hC fp_X5_119 hk1 (fs_1_2 E _ _ _) (fn_1_2 E _ _) dX5_takeOut_89 h (fun F1 h => ?_)
    refine v_iload_n (pc := 92) hC dX5_takeOut_92 rfl 3 rfl ?_
    exact v_iret (pc := 93) hC dX5_takeOut_93 h
  · skip
    refine v_aload_n (pc := 14) hC dX5_takeOut_14 rfl 2 rfl ?_
    refine v_get (pc := 15) (v := .ref (ad E (k2 + 1))) hC fl_X5_95 hk2 rfl dX5_takeOut_15 ?_
    refine v_iload (pc := 18) hC dX5_takeOut_18 4 rfl ?_
    refine v_iald (pc := 20) (n := 16) hC (kd_c1 hk2) (by decide) dX5_takeOut_20 h (fun h => ?_)
    refine v_if_le (pc := 21) (tgt := 72) hC dX5_takeOut_21 (by decide) h (fun h => ?_) (fun h => ?_)
    · skip
      refine v_iinc (pc := 72) (v := 1) hC (fun z => [(4, .int z), (0, .ref (ad E 9)), (1, .ref (ad E k1)), (2, .ref (ad E k2)), (3, .int x3)]) dX5_takeOut_72 4 rfl (by decide) (by decide) (fun _ => rfl) h (fun n2 h => ?_)
      refine v_goto (pc := 75) (tgt := 5) hC dX5_takeOut_75 (by decide) ?_
      exact v_sub [1, 2, 3, 4, 0] rfl (hK5 _ _ _ h)
    · skip
      refine v_aload_n (pc := 24) hC dX5_takeOut_24 rfl 0 rfl ?_
      refine v_get (pc := 25) (v := .ref (ad E 11)) hC fl_X5_15 kq_9 rfl dX5_takeOut_25 ?_
      refine v_iload (pc := 28) hC dX5_takeOut_28 4 rfl ?_
      refine v_zald (pc := 30) (n := 16) hC kq_11 (by decide) dX5_takeOut_30 h (fun h => ?_)
      refine v_if_eq (pc := 31) (tgt := 72) hC dX5_takeOut_31 (by decide) h (fun h => ?_) (fun h => ?_)
      · skip
        refine v_iinc (pc := 72) (v := 1) hC (fun z => [(4, .int z), (0, .ref (ad E 9)), (1, .ref (ad E k1)), (2, .ref (ad E k2)), (3, .int x3)]) dX5_takeOut_72 4 rfl (by decide) (by decide) (fun _ => rfl) h (fun n3 h => ?_)
        refine v_goto (pc := 75) (tgt := 5) hC dX5_takeOut_75 (by decide) ?_
        exact v_sub [1, 2, 3, 4, 0] rfl (hK5 _ _ _ h)
      · skip
        refine v_aload_n (pc := 34) hC dX5_takeOut_34 rfl 1 rfl ?_
        refine v_get (pc := 35) (v := .int (F k1 2)) hC fl_X5_119 hk1 rfl dX5_takeOut_35 ?_
        refine v_aload_n (pc := 38) hC dX5_takeOut_38 rfl 1 rfl ?_
        refine v_get (pc := 39) (v := .ref (ad E (k1 + 2))) hC fl_X5_122 hk1 rfl dX5_takeOut_39 ?_
        refine v_iload (pc := 42) hC dX5_takeOut_42 4 rfl ?_
        refine v_iald (pc := 44) (n := 16) hC (kd_d2 hk1) (by decide) dX5_takeOut_44 h (fun h => ?_)
        refine v_ic_gt (pc := 45) (tgt := 72) hC dX5_takeOut_45 (by decide) h (fun h => ?_) (fun h => ?_)
        · skip
          refine v_iinc (pc := 72) (v := 1) hC (fun z => [(4, .int z), (0, .ref (ad E 9)), (1, .ref (ad E k1)), (2, .ref (ad E k2)), (3, .int x3)]) dX5_takeOut_72 4 rfl (by decide) (by decide) (fun _ => rfl) h (fun n4 h => ?_)
          refine v_goto (pc := 75) (tgt := 5) hC dX5_takeOut_75 (by decide) ?_
          exact v_sub [1, 2, 3, 4, 0] rfl (hK5 _ _ _ h)
        · skip
          refine v_aload_n (pc := 48) hC dX5_takeOut_48 rfl 1 rfl ?_
          refine v_get (pc := 49) (v := .ref (ad E (k1 + 2))) hC fl_X5_122 hk1 rfl dX5_takeOut_49 ?_
          refine v_iload (pc := 52) hC dX5_takeOut_52 4 rfl ?_
          refine v_bipush (pc := 54) (v := 9) hC dX5_takeOut_54 (by decide) ?_
          refine v_aload_n (pc := 56) hC dX5_takeOut_56 rfl 1 rfl ?_
          refine v_get (pc := 57) (v := .ref (ad E (k1 + 2))) hC fl_X5_122 hk1 rfl dX5_takeOut_57 ?_
          refine v_iload (pc := 60) hC dX5_takeOut_60 4 rfl ?_
          refine v_iald (pc := 62) (n := 16) hC (kd_d2 hk1) (by decide) dX5_takeOut_62 h (fun h => ?_)
          refine v_iconst (pc := 63) (v := 1) hC dX5_takeOut_63 (by decide) ?_
          refine v_iadd (pc := 64) hC dX5_takeOut_64 ?_
          refine v_min (pc := 65) hC mmin_X5_125 mmin_s in_Math mmin_c ⟨Nat.le_of_ble_eq_true rfl, Nat.le_of_ble_eq_true rfl⟩ ⟨Nat.zero_le _, Nat.zero_le _⟩ dX5_takeOut_65 ?_
          refine v_iast (pc := 68) (n := 16) hC (kd_d2 hk1) (by decide) dX5_takeOut_68 h (fun F5 h => ?_)
          refine v_iinc (pc := 69) (v := 1) hC (fun z => [(3, .int z), (0, .ref (ad E 9)), (1, .ref (ad E k1)), (2, .ref (ad E k2)), (4, .int x4)]) dX5_takeOut_69 3 rfl (by decide) (by decide) (fun _ => rfl) h (fun n6 h => ?_)
          refine v_iinc (pc := 72) (v := 1) hC (fun z => [(4, .int z), (3, .int n6), (0, .ref (ad E 9)), (1, .ref (ad E k1)), (2, .ref (ad E k2))]) dX5_takeOut_72 4 rfl (by decide) (by decide) (fun _ => rfl) h (fun n7 h => ?_)
          refine v_goto (pc := 75) (tgt := 5) hC dX5_takeOut_75 (by decide) ?_
          exact v_sub [2, 3, 4, 1, 0] rfl (hK5 _ _ _ h)
set_option maxRecDepth 20000 in
set_option maxHeartbeats 4000000 in
theorem jl_X5_takeOut_5 {p : Program} {l : Launch} {e : Env} {s : State} {m : MethodId} {args : Array Value} {below : List Frame} {meth : Method} {c : Code} {E : gE} (hC : CX p s m args meth c cX5_takeOut RX5 (some .int) E 5) {k1 : Nat} (hk1 : kd k1 = 1) {k2 : Nat} (hk2 : kd k2 = 0) {Q : Int32 → gS → Prop} {F : gS} {x3 : Int32} {x4 : Int32} (h : LP3 (wb_X5_takeOut_5 k1 k2 Q) F x3 x4) : VV p l e rm_X5_takeOut s m args below meth c 0 0 (MQ below (va_Qi Q (gB E) (gA E)) args s 0 0 (gA E)) E 5 F 5 [(0, .ref (ad E 9)), (1, .ref (ad E k1)), (2, .ref (ad E k2)), (3, .int x3), (4, .int x4)] [] :=
  LP3_go (V := fun (F : gS) (x3 : Int32) (x4 : Int32) => VV p l e rm_X5_takeOut s m args below meth c 0 0 (MQ below (va_Qi Q (gB E) (gA E)) args s 0 0 (gA E)) E 5 F 5 [(0, .ref (ad E 9)), (1, .ref (ad E k1)), (2, .ref (ad E k2)), (3, .int x3), (4, .int x4)] []) (fun K5 hK5 F x3 x4 h => jb_X5_takeOut_5 hC hk1 hk2 hK5 h) F x3 x4 h
set_option maxRecDepth 20000 in
set_option maxHeartbeats 4000000 in
theorem c_X5_takeOut (l : Launch) (E : gE) {k1 : Nat} (hk1 : kd k1 = 1) {k2 : Nat} (hk2 : kd k2 = 0) {F : gS} {Q : Int32 → gS → Prop} (h : wp_X5_takeOut k1 k2 F Q) : CtI l E yX5_takeOut cX5_takeOut 5 (some .int) rm_X5_takeOut [.ref (ad E 9), .ref (ad E k1), .ref (ad E k2)] F Q := by
  refine ct_of (by decide) (Nat.le_of_ble_eq_true rfl) (fun p e s m below meth c hC => ?_)
  generalize ([.ref (ad E 9), .ref (ad E k1), .ref (ad E k2)] : List Value).toArray = args at hC ⊢
  refine v_sub (lv' := [(0, .ref (ad E 9)), (1, .ref (ad E k1)), (2, .ref (ad E k2))]) [0, 1, 2] rfl ?_
  unfold wp_X5_takeOut at h
  refine v_iconst (pc := 0) (v := 0) hC dX5_takeOut_0 (by decide) ?_
  refine v_istore_n (pc := 1) (lv' := [(3, .int 0), (0, .ref (ad E 9)), (1, .ref (ad E k1)), (2, .ref (ad E k2))]) hC dX5_takeOut_1 rfl (by decide) rfl ?_
  refine v_iconst (pc := 2) (v := 0) hC dX5_takeOut_2 (by decide) ?_
  refine v_istore (pc := 3) (lv' := [(4, .int 0), (3, .int 0), (0, .ref (ad E 9)), (1, .ref (ad E k1)), (2, .ref (ad E k2))]) hC dX5_takeOut_3 (by decide) rfl ?_
  exact v_sub [2, 3, 4, 1, 0] rfl (jl_X5_takeOut_5 hC hk1 hk2 h)
def rm_X5_spread : Room := { frames := 3, cells := 0, slots := 0, locals := 75 }
def wb_X5_spread_16 (k1 : Nat) (k2 : Nat) (k3 : Nat) (Q : Int32 → gS → Prop) (K16 : gS → Int32 → Int32 → Prop) (F : gS) (x4 : Int32) (x5 : Int32) : Prop :=
  if (F k2 5) ≤ x5 then
    (Q x4 F)
  else
    (wp_X5_lie k1 k3 (F k2 1) 1 F fun r2 F3 =>
    Nm (x4 + r2) fun n4 =>
    wp_X5_fasten k1 k3 F3 fun F5 =>
    wp_X7_swingAt k2 x5 F5 fun r6 =>
    wp_X5_run k1 k3 r6 F5 fun F7 =>
    Nm (x5 + 1) fun n8 =>
    K16 F7 n4 n8)
def wp_X5_spread (k1 : Nat) (k2 : Nat) (k3 : Nat) (F : gS) (Q : Int32 → gS → Prop) : Prop :=
  wp_X5_pour k1 k3 (F k2 2) F fun F1 =>
  LP3 (wb_X5_spread_16 k1 k2 k3 Q) F1 0 0
set_option maxRecDepth 20000 in
set_option maxHeartbeats 4000000 in
theorem jb_X5_spread_16 {p : Program} {l : Launch} {e : Env} {s : State} {m : MethodId} {args : Array Value} {below : List Frame} {meth : Method} {c : Code} {E : gE} (hC : CX p s m args meth c cX5_spread RX5 (some .int) E 6) {k1 : Nat} (hk1 : kd k1 = 1) {k2 : Nat} (hk2 : kd k2 = 7) {k3 : Nat} (hk3 : kd k3 = 0) {Q : Int32 → gS → Prop} {F : gS} {x4 : Int32} {x5 : Int32} {K16 : gS → Int32 → Int32 → Prop} (hK16 : ∀ (F : gS) (x4 : Int32) (x5 : Int32), K16 F x4 x5 → VV p l e rm_X5_spread s m args below meth c 0 0 (MQ below (va_Qi Q (gB E) (gA E)) args s 0 0 (gA E)) E 6 F 16 [(0, .ref (ad E 9)), (1, .ref (ad E k1)), (2, .ref (ad E k2)), (3, .ref (ad E k3)), (4, .int x4), (5, .int x5)] []) (h : wb_X5_spread_16 k1 k2 k3 Q K16 F x4 x5) : VV p l e rm_X5_spread s m args below meth c 0 0 (MQ below (va_Qi Q (gB E) (gA E)) args s 0 0 (gA E)) E 6 F 16 [(0, .ref (ad E 9)), (1, .ref (ad E k1)), (2, .ref (ad E k2)), (3, .ref (ad E k3)), (4, .int x4), (5, .int x5)] [] := by
  unfold wb_X5_spread_16 at h
  refine v_iload (pc := 16) hC dX5_spread_16 5 rfl ?_
  refine v_aload_n (pc := 18) hC dX5_spread_18 rfl 2 rfl ?_
  refine v_get (pc := 19) (v := .int (F k2 5)) hC fl_X5_80 hk2 rfl dX5_spread_19 ?_
  refine v_ic_ge (pc := 22) (tgt := 65) hC dX5_spread_22 (by decide) h (fun h => ?_) (fun h => ?_)
  · skip
    refine v_iload (pc := 65) hC dX5_spread_65 4 rfl ?_
    exact v_iret (pc := 67) hC dX5_spread_67 h
  · skip
    refine v_iload (pc := 25) hC dX5_spread_25 4 rfl ?_
    refine v_aload_n (pc := 27) hC dX5_spread_27 rfl 0 rfl ?_
    refine v_aload_n (pc := 28) hC dX5_spread_28 rfl 1 rfl ?_
    refine v_aload_n (pc := 29) hC dX5_spread_29 rfl 2 rfl ?_
    refine v_get (pc := 30) (v := .int (F k2 1)) hC fl_X5_48 hk2 rfl dX5_spread_30 ?_
    refine v_iconst (pc := 33) (v := 1) hC dX5_spread_33 (by decide) ?_
    refine v_aload_n (pc := 34) hC dX5_spread_34 rfl 3 rfl ?_
    refine v_ci (pc := 35) (r_V (rest := [.int x4]) hC ml_X5_56 mv_X5_lie (c_X5_lie l E hk1 hk3 h) ⟨rfl, rfl⟩ ⟨Nat.le_of_ble_eq_true rfl, Nat.le_of_ble_eq_true rfl⟩ kq_9 rfl (by decide) rfl rfl (Nat.le_of_ble_eq_true rfl) ⟨Nat.zero_le _, Nat.zero_le _⟩ dX5_spread_35) (fun r2 F3 h => ?_)
    refine v_iadd (pc := 38) hC dX5_spread_38 ?_
    refine v_nmi h (fun n4 h => ?_)
    refine v_istore (pc := 39) (lv' := [(4, .int n4), (0, .ref (ad E 9)), (1, .ref (ad E k1)), (2, .ref (ad E k2)), (3, .ref (ad E k3)), (5, .int x5)]) hC dX5_spread_39 (by decide) rfl ?_
    refine v_aload_n (pc := 41) hC dX5_spread_41 rfl 1 rfl ?_
    refine v_aload_n (pc := 42) hC dX5_spread_42 rfl 2 rfl ?_
    refine v_aload_n (pc := 43) hC dX5_spread_43 rfl 4 rfl ?_
    refine v_cv (pc := 44) (r_V (rest := []) hC ml_X5_83 mv_X5_fasten (c_X5_fasten l E hk1 hk3 h) ⟨rfl, rfl⟩ ⟨Nat.le_of_ble_eq_true rfl, Nat.le_of_ble_eq_true rfl⟩ kq_9 rfl (by decide) rfl rfl (Nat.le_of_ble_eq_true rfl) ⟨Nat.zero_le _, Nat.zero_le _⟩ dX5_spread_44) (fun F5 h => ?_)
    refine v_aload_n (pc := 47) hC dX5_spread_47 rfl 1 rfl ?_
    refine v_aload_n (pc := 48) hC dX5_spread_48 rfl 2 rfl ?_
    refine v_aload_n (pc := 49) hC dX5_spread_49 rfl 4 rfl ?_
    refine v_aload_n (pc := 50) hC dX5_spread_50 rfl 3 rfl ?_
    refine v_iload (pc := 51) hC dX5_spread_51 5 rfl ?_
    refine v_cip (pc := 53) (r_V (rest := [.ref (ad E k3), .ref (ad E k1), .ref (ad E 9)]) hC ml_X5_87 mv_X7_swingAt (c_X7_swingAt l E hk2 h) ⟨rfl, rfl⟩ ⟨Nat.le_of_ble_eq_true rfl, Nat.le_of_ble_eq_true rfl⟩ hk2 rfl (by decide) rfl rfl (Nat.le_of_ble_eq_true rfl) ⟨Nat.zero_le _, Nat.zero_le _⟩ dX5_spread_53) (fun r6 h => ?_)
    refine v_cv (pc := 56) (r_V (rest := []) hC ml_X5_91 mv_X5_run (c_X5_run l E hk1 hk3 h) ⟨rfl, rfl⟩ ⟨Nat.le_of_ble_eq_true rfl, Nat.le_of_ble_eq_true rfl⟩ kq_9 rfl (by decide) rfl rfl (Nat.le_of_ble_eq_true rfl) ⟨Nat.zero_le _, Nat.zero_le _⟩ dX5_spread_56) (fun F7 h => ?_)
    refine v_iinc (pc := 59) (v := 1) hC (fun z => [(5, .int z), (4, .int n4), (0, .ref (ad E 9)), (1, .ref (ad E k1)), (2, .ref (ad E k2)), (3, .ref (ad E k3))]) dX5_spread_59 5 rfl (by decide) (by decide) (fun _ => rfl) h (fun n8 h => ?_)
    refine v_goto (pc := 62) (tgt := 16) hC dX5_spread_62 (by decide) ?_
    exact v_sub [2, 3, 4, 5, 1, 0] rfl (hK16 _ _ _ h)
set_option maxRecDepth 20000 in
set_option maxHeartbeats 4000000 in
theorem jl_X5_spread_16 {p : Program} {l : Launch} {e : Env} {s : State} {m : MethodId} {args : Array Value} {below : List Frame} {meth : Method} {c : Code} {E : gE} (hC : CX p s m args meth c cX5_spread RX5 (some .int) E 6) {k1 : Nat} (hk1 : kd k1 = 1) {k2 : Nat} (hk2 : kd k2 = 7) {k3 : Nat} (hk3 : kd k3 = 0) {Q : Int32 → gS → Prop} {F : gS} {x4 : Int32} {x5 : Int32} (h : LP3 (wb_X5_spread_16 k1 k2 k3 Q) F x4 x5) : VV p l e rm_X5_spread s m args below meth c 0 0 (MQ below (va_Qi Q (gB E) (gA E)) args s 0 0 (gA E)) E 6 F 16 [(0, .ref (ad E 9)), (1, .ref (ad E k1)), (2, .ref (ad E k2)), (3, .ref (ad E k3)), (4, .int x4), (5, .int x5)] [] :=
  LP3_go (V := fun (F : gS) (x4 : Int32) (x5 : Int32) => VV p l e rm_X5_spread s m args below meth c 0 0 (MQ below (va_Qi Q (gB E) (gA E)) args s 0 0 (gA E)) E 6 F 16 [(0, .ref (ad E 9)), (1, .ref (ad E k1)), (2, .ref (ad E k2)), (3, .ref (ad E k3)), (4, .int x4), (5, .int x5)] []) (fun K16 hK16 F x4 x5 h => jb_X5_spread_16 hC hk1 hk2 hk3 hK16 h) F x4 x5 h
set_option maxRecDepth 20000 in
set_option maxHeartbeats 4000000 in
theorem c_X5_spread (l : Launch) (E : gE) {k1 : Nat} (hk1 : kd k1 = 1) {k2 : Nat} (hk2 : kd k2 = 7) {k3 : Nat} (hk3 : kd k3 = 0) {F : gS} {Q : Int32 → gS → Prop} (h : wp_X5_spread k1 k2 k3 F Q) : CtI l E yX5_spread cX5_spread 6 (some .int) rm_X5_spread [.ref (ad E 9), .ref (ad E k1), .ref (ad E k2), .ref (ad E k3)] F Q := by
  refine ct_of (by decide) (Nat.le_of_ble_eq_true rfl) (fun p e s m below meth c hC => ?_)
  generalize ([.ref (ad E 9), .ref (ad E k1), .ref (ad E k2), .ref (ad E k3)] : List Value).toArray = args at hC ⊢
  refine v_sub (lv' := [(0, .ref (ad E 9)), (1, .ref (ad E k1)), (2, .ref (ad E k2)), (3, .ref (ad E k3))]) [0, 1, 2, 3] rfl ?_
  unfold wp_X5_spread at h
  refine v_aload_n (pc := 0) hC dX5_spread_0 rfl 0 rfl ?_
  refine v_aload_n (pc := 1) hC dX5_spread_1 rfl 1 rfl ?_
  refine v_aload_n (pc := 2) hC dX5_spread_2 rfl 2 rfl ?_
  refine v_get (pc := 3) (v := .int (F k2 2)) hC fl_X5_73 hk2 rfl dX5_spread_3 ?_
  refine v_aload_n (pc := 6) hC dX5_spread_6 rfl 3 rfl ?_
  refine v_cv (pc := 7) (r_V (rest := []) hC ml_X5_76 mv_X5_pour (c_X5_pour l E hk1 hk3 h) ⟨rfl, rfl⟩ ⟨Nat.le_of_ble_eq_true rfl, Nat.le_of_ble_eq_true rfl⟩ kq_9 rfl (by decide) rfl rfl (Nat.le_of_ble_eq_true rfl) ⟨Nat.zero_le _, Nat.zero_le _⟩ dX5_spread_7) (fun F1 h => ?_)
  refine v_iconst (pc := 10) (v := 0) hC dX5_spread_10 (by decide) ?_
  refine v_istore (pc := 11) (lv' := [(4, .int 0), (0, .ref (ad E 9)), (1, .ref (ad E k1)), (2, .ref (ad E k2)), (3, .ref (ad E k3))]) hC dX5_spread_11 (by decide) rfl ?_
  refine v_iconst (pc := 13) (v := 0) hC dX5_spread_13 (by decide) ?_
  refine v_istore (pc := 14) (lv' := [(5, .int 0), (4, .int 0), (0, .ref (ad E 9)), (1, .ref (ad E k1)), (2, .ref (ad E k2)), (3, .ref (ad E k3))]) hC dX5_spread_14 (by decide) rfl ?_
  exact v_sub [2, 3, 4, 5, 1, 0] rfl (jl_X5_spread_16 hC hk1 hk2 hk3 h)
def rm_X5_bake : Room := { frames := 4, cells := 0, slots := 0, locals := 100 }
def wp_X5_bake (k1 : Nat) (k2 : Nat) (k3 : Nat) (F : gS) (Q : gS → Prop) : Prop :=
  wp_X5_spread k1 k2 k3 F fun r1 F2 =>
  wp_X5_lie k1 k3 (F2 k2 1) (F2 k2 3) F2 fun r3 F4 =>
  Nm (r1 + r3) fun n5 =>
  wp_X5_lie k1 k3 (F4 k2 1) (F4 k2 4) F4 fun r6 F7 =>
  wp_X5_takeOut k1 k3 F7 fun r8 F9 =>
  wp_X0_judge k3 n5 r6 r8 F9 fun F10 =>
  Q F10
set_option maxRecDepth 20000 in
set_option maxHeartbeats 4000000 in
theorem c_X5_bake (l : Launch) (E : gE) {k1 : Nat} (hk1 : kd k1 = 1) {k2 : Nat} (hk2 : kd k2 = 7) {k3 : Nat} (hk3 : kd k3 = 0) {F : gS} {Q : gS → Prop} (h : wp_X5_bake k1 k2 k3 F Q) : CtV l E yX5_bake cX5_bake 6 none rm_X5_bake [.ref (ad E 9), .ref (ad E k1), .ref (ad E k2), .ref (ad E k3)] F Q := by
  refine ct_of (by decide) (Nat.le_of_ble_eq_true rfl) (fun p e s m below meth c hC => ?_)
  generalize ([.ref (ad E 9), .ref (ad E k1), .ref (ad E k2), .ref (ad E k3)] : List Value).toArray = args at hC ⊢
  refine v_sub (lv' := [(0, .ref (ad E 9)), (1, .ref (ad E k1)), (2, .ref (ad E k2)), (3, .ref (ad E k3))]) [0, 1, 2, 3] rfl ?_
  unfold wp_X5_bake at h
  refine v_aload_n (pc := 0) hC dX5_bake_0 rfl 0 rfl ?_
  refine v_aload_n (pc := 1) hC dX5_bake_1 rfl 1 rfl ?_
  refine v_aload_n (pc := 2) hC dX5_bake_2 rfl 2 rfl ?_
  refine v_aload_n (pc := 3) hC dX5_bake_3 rfl 3 rfl ?_
  refine v_ci (pc := 4) (r_V (rest := []) hC ml_X5_44 mv_X5_spread (c_X5_spread l E hk1 hk2 hk3 h) ⟨rfl, rfl⟩ ⟨Nat.le_of_ble_eq_true rfl, Nat.le_of_ble_eq_true rfl⟩ kq_9 rfl (by decide) rfl rfl (Nat.le_of_ble_eq_true rfl) ⟨Nat.zero_le _, Nat.zero_le _⟩ dX5_bake_4) (fun r1 F2 h => ?_)
  refine v_aload_n (pc := 7) hC dX5_bake_7 rfl 0 rfl ?_
  refine v_aload_n (pc := 8) hC dX5_bake_8 rfl 1 rfl ?_
  refine v_aload_n (pc := 9) hC dX5_bake_9 rfl 2 rfl ?_
  refine v_get (pc := 10) (v := .int (F2 k2 1)) hC fl_X5_48 hk2 rfl dX5_bake_10 ?_
  refine v_aload_n (pc := 13) hC dX5_bake_13 rfl 2 rfl ?_
  refine v_get (pc := 14) (v := .int (F2 k2 3)) hC fl_X5_53 hk2 rfl dX5_bake_14 ?_
  refine v_aload_n (pc := 17) hC dX5_bake_17 rfl 3 rfl ?_
  refine v_ci (pc := 18) (r_V (rest := [.int r1]) hC ml_X5_56 mv_X5_lie (c_X5_lie l E hk1 hk3 h) ⟨rfl, rfl⟩ ⟨Nat.le_of_ble_eq_true rfl, Nat.le_of_ble_eq_true rfl⟩ kq_9 rfl (by decide) rfl rfl (Nat.le_of_ble_eq_true rfl) ⟨Nat.zero_le _, Nat.zero_le _⟩ dX5_bake_18) (fun r3 F4 h => ?_)
  refine v_iadd (pc := 21) hC dX5_bake_21 ?_
  refine v_nmi h (fun n5 h => ?_)
  refine v_istore (pc := 22) (lv' := [(4, .int n5), (0, .ref (ad E 9)), (1, .ref (ad E k1)), (2, .ref (ad E k2)), (3, .ref (ad E k3))]) hC dX5_bake_22 (by decide) rfl ?_
  refine v_aload_n (pc := 24) hC dX5_bake_24 rfl 1 rfl ?_
  refine v_aload_n (pc := 25) hC dX5_bake_25 rfl 2 rfl ?_
  refine v_aload_n (pc := 26) hC dX5_bake_26 rfl 3 rfl ?_
  refine v_get (pc := 27) (v := .int (F4 k2 1)) hC fl_X5_48 hk2 rfl dX5_bake_27 ?_
  refine v_aload_n (pc := 30) hC dX5_bake_30 rfl 3 rfl ?_
  refine v_get (pc := 31) (v := .int (F4 k2 4)) hC fl_X5_60 hk2 rfl dX5_bake_31 ?_
  refine v_aload_n (pc := 34) hC dX5_bake_34 rfl 4 rfl ?_
  refine v_ci (pc := 35) (r_V (rest := []) hC ml_X5_56 mv_X5_lie (c_X5_lie l E hk1 hk3 h) ⟨rfl, rfl⟩ ⟨Nat.le_of_ble_eq_true rfl, Nat.le_of_ble_eq_true rfl⟩ kq_9 rfl (by decide) rfl rfl (Nat.le_of_ble_eq_true rfl) ⟨Nat.zero_le _, Nat.zero_le _⟩ dX5_bake_35) (fun r6 F7 h => ?_)
  refine v_istore (pc := 38) (lv' := [(5, .int r6), (4, .int n5), (0, .ref (ad E 9)), (1, .ref (ad E k1)), (2, .ref (ad E k2)), (3, .ref (ad E k3))]) hC dX5_bake_38 (by decide) rfl ?_
  refine v_aload_n (pc := 40) hC dX5_bake_40 rfl 5 rfl ?_
  refine v_iload (pc := 41) hC dX5_bake_41 1 rfl ?_
  refine v_iload (pc := 43) hC dX5_bake_43 0 rfl ?_
  refine v_aload_n (pc := 45) hC dX5_bake_45 rfl 2 rfl ?_
  refine v_aload_n (pc := 46) hC dX5_bake_46 rfl 3 rfl ?_
  refine v_aload_n (pc := 47) hC dX5_bake_47 rfl 5 rfl ?_
  refine v_ci (pc := 48) (r_V (rest := [.int r6, .int n5, .ref (ad E k3)]) hC ml_X5_63 mv_X5_takeOut (c_X5_takeOut l E hk1 hk3 h) ⟨rfl, rfl⟩ ⟨Nat.le_of_ble_eq_true rfl, Nat.le_of_ble_eq_true rfl⟩ kq_9 rfl (by decide) rfl rfl (Nat.le_of_ble_eq_true rfl) ⟨Nat.zero_le _, Nat.zero_le _⟩ dX5_bake_48) (fun r8 F9 h => ?_)
  refine v_cv (pc := 51) (r_V (rest := []) hC ml_X5_67 mv_X0_judge (c_X0_judge l E hk3 h) ⟨rfl, rfl⟩ ⟨Nat.le_of_ble_eq_true rfl, Nat.le_of_ble_eq_true rfl⟩ hk3 rfl (by decide) rfl rfl (Nat.le_of_ble_eq_true rfl) ⟨Nat.zero_le _, Nat.zero_le _⟩ dX5_bake_51) (fun F10 h => ?_)
  exact v_vret (pc := 54) hC dX5_bake_54 h
def rm_X2_next : Room := { frames := 5, cells := 0, slots := 0, locals := 125 }
def wp_X2_next (k1 : Nat) (k2 : Nat) (F : gS) (Q : gS → Prop) : Prop :=
  wp_X1_become 15 k1 F fun F1 =>
  wp_X5_bake 15 k2 21 F1 fun F2 =>
  Q F2
set_option maxRecDepth 20000 in
set_option maxHeartbeats 4000000 in
theorem c_X2_next (l : Launch) (E : gE) {k1 : Nat} (hk1 : kd k1 = 1) {k2 : Nat} (hk2 : kd k2 = 7) {F : gS} {Q : gS → Prop} (h : wp_X2_next k1 k2 F Q) : CtR l E yX2_next cX2_next 3 (some (.object "FirstPancake$Cake")) rm_X2_next [.ref (ad E 14), .ref (ad E k1), .ref (ad E k2)] F 21 Q := by
  refine ct_of (by decide) (Nat.le_of_ble_eq_true rfl) (fun p e s m below meth c hC => ?_)
  generalize ([.ref (ad E 14), .ref (ad E k1), .ref (ad E k2)] : List Value).toArray = args at hC ⊢
  refine v_sub (lv' := [(0, .ref (ad E 14)), (1, .ref (ad E k1)), (2, .ref (ad E k2))]) [0, 1, 2] rfl ?_
  unfold wp_X2_next at h
  refine v_aload_n (pc := 0) hC dX2_next_0 rfl 0 rfl ?_
  refine v_get (pc := 1) (v := .ref (ad E 15)) hC fl_X2_21 kq_14 rfl dX2_next_1 ?_
  refine v_aload_n (pc := 4) hC dX2_next_4 rfl 1 rfl ?_
  refine v_cv (pc := 5) (r_V (rest := []) hC ml_X2_42 mv_X1_become (c_X1_become l E kq_15 hk1 h) ⟨rfl, rfl⟩ ⟨Nat.le_of_ble_eq_true rfl, Nat.le_of_ble_eq_true rfl⟩ kq_15 rfl (by decide) rfl rfl (Nat.le_of_ble_eq_true rfl) ⟨Nat.zero_le _, Nat.zero_le _⟩ dX2_next_5) (fun F1 h => ?_)
  refine v_aload_n (pc := 8) hC dX2_next_8 rfl 0 rfl ?_
  refine v_get (pc := 9) (v := .ref (ad E 9)) hC fl_X2_12 kq_14 rfl dX2_next_9 ?_
  refine v_aload_n (pc := 12) hC dX2_next_12 rfl 0 rfl ?_
  refine v_get (pc := 13) (v := .ref (ad E 15)) hC fl_X2_21 kq_14 rfl dX2_next_13 ?_
  refine v_aload_n (pc := 16) hC dX2_next_16 rfl 2 rfl ?_
  refine v_aload_n (pc := 17) hC dX2_next_17 rfl 0 rfl ?_
  refine v_get (pc := 18) (v := .ref (ad E 21)) hC fl_X2_31 kq_14 rfl dX2_next_18 ?_
  refine v_cv (pc := 21) (r_V (rest := []) hC ml_X2_46 mv_X5_bake (c_X5_bake l E kq_15 hk2 kq_21 h) ⟨rfl, rfl⟩ ⟨Nat.le_of_ble_eq_true rfl, Nat.le_of_ble_eq_true rfl⟩ kq_9 rfl (by decide) rfl rfl (Nat.le_of_ble_eq_true rfl) ⟨Nat.zero_le _, Nat.zero_le _⟩ dX2_next_21) (fun F2 h => ?_)
  refine v_aload_n (pc := 24) hC dX2_next_24 rfl 0 rfl ?_
  refine v_get (pc := 25) (v := .ref (ad E 21)) hC fl_X2_31 kq_14 rfl dX2_next_25 ?_
  exact v_aret (pc := 28) hC dX2_next_28 h
def rm_X2_firstOfTheRight : Room := { frames := 5, cells := 0, slots := 0, locals := 125 }
def wb_X2_firstOfTheRight_13 (k1 : Nat) (k2 : Nat) (Q : Int32 → gS → Prop) (K13 : gS → Int32 → Int32 → Prop) (F : gS) (x3 : Int32) (x4 : Int32) : Prop :=
  if 12 ≤ x4 then
    (if 12 ≤ x3 then
      (Q (-1) F)
    else
      (Q x3 F))
  else
    (wp_X5_bake 15 k2 21 F fun F2 =>
    wp_X0_isRight 21 F2 fun r3 =>
    if r3 = 0 then
      (Nm (x4 + 1) fun n6 =>
      Nm (x4 + 1) fun n7 =>
      K13 F2 n6 n7)
    else
      (Nm (x4 + 1) fun n5 =>
      K13 F2 x3 n5))
def wp_X2_firstOfTheRight (k1 : Nat) (k2 : Nat) (F : gS) (Q : Int32 → gS → Prop) : Prop :=
  wp_X1_become 15 k1 F fun F1 =>
  LP3 (wb_X2_firstOfTheRight_13 k1 k2 Q) F1 0 0
set_option maxRecDepth 20000 in
set_option maxHeartbeats 4000000 in
theorem jb_X2_firstOfTheRight_13 {p : Program} {l : Launch} {e : Env} {s : State} {m : MethodId} {args : Array Value} {below : List Frame} {meth : Method} {c : Code} {E : gE} (hC : CX p s m args meth c cX2_firstOfTheRight RX2 (some .int) E 5) {k1 : Nat} (hk1 : kd k1 = 1) {k2 : Nat} (hk2 : kd k2 = 7) {Q : Int32 → gS → Prop} {F : gS} {x3 : Int32} {x4 : Int32} {K13 : gS → Int32 → Int32 → Prop} (hK13 : ∀ (F : gS) (x3 : Int32) (x4 : Int32), K13 F x3 x4 → VV p l e rm_X2_firstOfTheRight s m args below meth c 0 0 (MQ below (va_Qi Q (gB E) (gA E)) args s 0 0 (gA E)) E 5 F 13 [(0, .ref (ad E 14)), (2, .ref (ad E k2)), (3, .int x3), (4, .int x4)] []) (h : wb_X2_firstOfTheRight_13 k1 k2 Q K13 F x3 x4) : VV p l e rm_X2_firstOfTheRight s m args below meth c 0 0 (MQ below (va_Qi Q (gB E) (gA E)) args s 0 0 (gA E)) E 5 F 13 [(0, .ref (ad E 14)), (2, .ref (ad E k2)), (3, .int x3), (4, .int x4)] [] := by
  unfold wb_X2_firstOfTheRight_13 at h
  refine v_iload (pc := 13) hC dX2_firstOfTheRight_13 3 rfl ?_
  refine v_bipush (pc := 15) (v := 12) hC dX2_firstOfTheRight_15 (by decide) ?_
  refine v_ic_ge (pc := 17) (tgt := 57) hC dX2_firstOfTheRight_17 (by decide) h (fun h => ?_) (fun h => ?_)
  · skip
    refine v_iload_n (pc := 57) hC dX2_firstOfTheRight_57 rfl 2 rfl ?_
    refine v_bipush (pc := 58) (v := 12) hC dX2_firstOfTheRight_58 (by decide) ?_
    refine v_ic_ge (pc := 60) (tgt := 67) hC dX2_firstOfTheRight_60 (by decide) h (fun h => ?_) (fun h => ?_)
    · skip
      refine v_iconst (pc := 67) (v := (-1)) hC dX2_firstOfTheRight_67 (by decide) ?_
      exact v_iret (pc := 68) hC dX2_firstOfTheRight_68 h
    · skip
      refine v_iload_n (pc := 63) hC dX2_firstOfTheRight_63 rfl 2 rfl ?_
      refine v_goto (pc := 64) (tgt := 68) hC dX2_firstOfTheRight_64 (by decide) ?_
      exact v_iret (pc := 68) hC dX2_firstOfTheRight_68 h
  · skip
    refine v_aload_n (pc := 20) hC dX2_firstOfTheRight_20 rfl 0 rfl ?_
    refine v_get (pc := 21) (v := .ref (ad E 9)) hC fl_X2_12 kq_14 rfl dX2_firstOfTheRight_21 ?_
    refine v_aload_n (pc := 24) hC dX2_firstOfTheRight_24 rfl 0 rfl ?_
    refine v_get (pc := 25) (v := .ref (ad E 15)) hC fl_X2_21 kq_14 rfl dX2_firstOfTheRight_25 ?_
    refine v_aload_n (pc := 28) hC dX2_firstOfTheRight_28 rfl 1 rfl ?_
    refine v_aload_n (pc := 29) hC dX2_firstOfTheRight_29 rfl 0 rfl ?_
    refine v_get (pc := 30) (v := .ref (ad E 21)) hC fl_X2_31 kq_14 rfl dX2_firstOfTheRight_30 ?_
    refine v_cv (pc := 33) (r_V (rest := []) hC ml_X2_46 mv_X5_bake (c_X5_bake l E kq_15 hk2 kq_21 h) ⟨rfl, rfl⟩ ⟨Nat.le_of_ble_eq_true rfl, Nat.le_of_ble_eq_true rfl⟩ kq_9 rfl (by decide) rfl rfl (Nat.le_of_ble_eq_true rfl) ⟨Nat.zero_le _, Nat.zero_le _⟩ dX2_firstOfTheRight_33) (fun F2 h => ?_)
    refine v_aload_n (pc := 36) hC dX2_firstOfTheRight_36 rfl 0 rfl ?_
    refine v_get (pc := 37) (v := .ref (ad E 21)) hC fl_X2_31 kq_14 rfl dX2_firstOfTheRight_37 ?_
    refine v_cyp (pc := 40) (r_V (rest := []) hC ml_X2_50 mv_X0_isRight (c_X0_isRight l E kq_21 h) ⟨rfl, rfl⟩ ⟨Nat.le_of_ble_eq_true rfl, Nat.le_of_ble_eq_true rfl⟩ kq_21 rfl (by decide) rfl rfl (Nat.le_of_ble_eq_true rfl) ⟨Nat.zero_le _, Nat.zero_le _⟩ dX2_firstOfTheRight_40) (fun r3 b4 h => ?_)
    refine v_if_ne (pc := 43) (tgt := 51) hC dX2_firstOfTheRight_43 (by decide) h (fun h => ?_) (fun h => ?_)
    · skip
      refine v_iinc (pc := 51) (v := 1) hC (fun z => [(4, .int z), (0, .ref (ad E 14)), (2, .ref (ad E k2)), (3, .int x3)]) dX2_firstOfTheRight_51 3 rfl (by decide) (by decide) (fun _ => rfl) h (fun n5 h => ?_)
      refine v_goto (pc := 54) (tgt := 13) hC dX2_firstOfTheRight_54 (by decide) ?_
      exact v_sub [1, 2, 3, 0] rfl (hK13 _ _ _ h)
    · skip
      refine v_iload (pc := 46) hC dX2_firstOfTheRight_46 3 rfl ?_
      refine v_iconst (pc := 48) (v := 1) hC dX2_firstOfTheRight_48 (by decide) ?_
      refine v_iadd (pc := 49) hC dX2_firstOfTheRight_49 ?_
      refine v_nmi h (fun n6 h => ?_)
      refine v_istore_n (pc := 50) (lv' := [(3, .int n6), (0, .ref (ad E 14)), (2, .ref (ad E k2)), (4, .int x4)]) hC dX2_firstOfTheRight_50 rfl (by decide) rfl ?_
      refine v_iinc (pc := 51) (v := 1) hC (fun z => [(4, .int z), (3, .int n6), (0, .ref (ad E 14)), (2, .ref (ad E k2))]) dX2_firstOfTheRight_51 3 rfl (by decide) (by decide) (fun _ => rfl) h (fun n7 h => ?_)
      refine v_goto (pc := 54) (tgt := 13) hC dX2_firstOfTheRight_54 (by decide) ?_
      exact v_sub [2, 3, 1, 0] rfl (hK13 _ _ _ h)
set_option maxRecDepth 20000 in
set_option maxHeartbeats 4000000 in
theorem jl_X2_firstOfTheRight_13 {p : Program} {l : Launch} {e : Env} {s : State} {m : MethodId} {args : Array Value} {below : List Frame} {meth : Method} {c : Code} {E : gE} (hC : CX p s m args meth c cX2_firstOfTheRight RX2 (some .int) E 5) {k1 : Nat} (hk1 : kd k1 = 1) {k2 : Nat} (hk2 : kd k2 = 7) {Q : Int32 → gS → Prop} {F : gS} {x3 : Int32} {x4 : Int32} (h : LP3 (wb_X2_firstOfTheRight_13 k1 k2 Q) F x3 x4) : VV p l e rm_X2_firstOfTheRight s m args below meth c 0 0 (MQ below (va_Qi Q (gB E) (gA E)) args s 0 0 (gA E)) E 5 F 13 [(0, .ref (ad E 14)), (2, .ref (ad E k2)), (3, .int x3), (4, .int x4)] [] :=
  LP3_go (V := fun (F : gS) (x3 : Int32) (x4 : Int32) => VV p l e rm_X2_firstOfTheRight s m args below meth c 0 0 (MQ below (va_Qi Q (gB E) (gA E)) args s 0 0 (gA E)) E 5 F 13 [(0, .ref (ad E 14)), (2, .ref (ad E k2)), (3, .int x3), (4, .int x4)] []) (fun K13 hK13 F x3 x4 h => jb_X2_firstOfTheRight_13 hC hk1 hk2 hK13 h) F x3 x4 h
set_option maxRecDepth 20000 in
set_option maxHeartbeats 4000000 in
theorem c_X2_firstOfTheRight (l : Launch) (E : gE) {k1 : Nat} (hk1 : kd k1 = 1) {k2 : Nat} (hk2 : kd k2 = 7) {F : gS} {Q : Int32 → gS → Prop} (h : wp_X2_firstOfTheRight k1 k2 F Q) : CtI l E yX2_firstOfTheRight cX2_firstOfTheRight 5 (some .int) rm_X2_firstOfTheRight [.ref (ad E 14), .ref (ad E k1), .ref (ad E k2)] F Q := by
  refine ct_of (by decide) (Nat.le_of_ble_eq_true rfl) (fun p e s m below meth c hC => ?_)
  generalize ([.ref (ad E 14), .ref (ad E k1), .ref (ad E k2)] : List Value).toArray = args at hC ⊢
  refine v_sub (lv' := [(0, .ref (ad E 14)), (1, .ref (ad E k1)), (2, .ref (ad E k2))]) [0, 1, 2] rfl ?_
  unfold wp_X2_firstOfTheRight at h
  refine v_aload_n (pc := 0) hC dX2_firstOfTheRight_0 rfl 0 rfl ?_
  refine v_get (pc := 1) (v := .ref (ad E 15)) hC fl_X2_21 kq_14 rfl dX2_firstOfTheRight_1 ?_
  refine v_aload_n (pc := 4) hC dX2_firstOfTheRight_4 rfl 1 rfl ?_
  refine v_cv (pc := 5) (r_V (rest := []) hC ml_X2_42 mv_X1_become (c_X1_become l E kq_15 hk1 h) ⟨rfl, rfl⟩ ⟨Nat.le_of_ble_eq_true rfl, Nat.le_of_ble_eq_true rfl⟩ kq_15 rfl (by decide) rfl rfl (Nat.le_of_ble_eq_true rfl) ⟨Nat.zero_le _, Nat.zero_le _⟩ dX2_firstOfTheRight_5) (fun F1 h => ?_)
  refine v_iconst (pc := 8) (v := 0) hC dX2_firstOfTheRight_8 (by decide) ?_
  refine v_istore_n (pc := 9) (lv' := [(3, .int 0), (0, .ref (ad E 14)), (1, .ref (ad E k1)), (2, .ref (ad E k2))]) hC dX2_firstOfTheRight_9 rfl (by decide) rfl ?_
  refine v_iconst (pc := 10) (v := 0) hC dX2_firstOfTheRight_10 (by decide) ?_
  refine v_istore (pc := 11) (lv' := [(4, .int 0), (3, .int 0), (0, .ref (ad E 14)), (1, .ref (ad E k1)), (2, .ref (ad E k2))]) hC dX2_firstOfTheRight_11 (by decide) rfl ?_
  exact v_sub [2, 4, 1, 0] rfl (jl_X2_firstOfTheRight_13 hC hk1 hk2 h)
def rm_X2_notRight : Room := { frames := 5, cells := 0, slots := 0, locals := 125 }
def wb_X2_notRight_13 (k1 : Nat) (k2 : Nat) (Q : Int32 → gS → Prop) (K13 : gS → Int32 → Int32 → Prop) (F : gS) (x3 : Int32) (x4 : Int32) : Prop :=
  if 12 ≤ x4 then
    (Q x3 F)
  else
    (wp_X5_bake 15 k2 21 F fun F2 =>
    wp_X0_isRight 21 F2 fun r3 =>
    if r3 = 0 then
      (Nm (x3 + 1) fun n6 =>
      Nm (x4 + 1) fun n7 =>
      K13 F2 n6 n7)
    else
      (Nm (x4 + 1) fun n5 =>
      K13 F2 x3 n5))
def wp_X2_notRight (k1 : Nat) (k2 : Nat) (F : gS) (Q : Int32 → gS → Prop) : Prop :=
  wp_X1_become 15 k1 F fun F1 =>
  LP3 (wb_X2_notRight_13 k1 k2 Q) F1 0 0
set_option maxRecDepth 20000 in
set_option maxHeartbeats 4000000 in
theorem jb_X2_notRight_13 {p : Program} {l : Launch} {e : Env} {s : State} {m : MethodId} {args : Array Value} {below : List Frame} {meth : Method} {c : Code} {E : gE} (hC : CX p s m args meth c cX2_notRight RX2 (some .int) E 5) {k1 : Nat} (hk1 : kd k1 = 1) {k2 : Nat} (hk2 : kd k2 = 7) {Q : Int32 → gS → Prop} {F : gS} {x3 : Int32} {x4 : Int32} {K13 : gS → Int32 → Int32 → Prop} (hK13 : ∀ (F : gS) (x3 : Int32) (x4 : Int32), K13 F x3 x4 → VV p l e rm_X2_notRight s m args below meth c 0 0 (MQ below (va_Qi Q (gB E) (gA E)) args s 0 0 (gA E)) E 5 F 13 [(0, .ref (ad E 14)), (2, .ref (ad E k2)), (3, .int x3), (4, .int x4)] []) (h : wb_X2_notRight_13 k1 k2 Q K13 F x3 x4) : VV p l e rm_X2_notRight s m args below meth c 0 0 (MQ below (va_Qi Q (gB E) (gA E)) args s 0 0 (gA E)) E 5 F 13 [(0, .ref (ad E 14)), (2, .ref (ad E k2)), (3, .int x3), (4, .int x4)] [] := by
  unfold wb_X2_notRight_13 at h
  refine v_iload (pc := 13) hC dX2_notRight_13 3 rfl ?_
  refine v_bipush (pc := 15) (v := 12) hC dX2_notRight_15 (by decide) ?_
  refine v_ic_ge (pc := 17) (tgt := 55) hC dX2_notRight_17 (by decide) h (fun h => ?_) (fun h => ?_)
  · skip
    refine v_iload_n (pc := 55) hC dX2_notRight_55 rfl 2 rfl ?_
    exact v_iret (pc := 56) hC dX2_notRight_56 h
  · skip
    refine v_aload_n (pc := 20) hC dX2_notRight_20 rfl 0 rfl ?_
    refine v_get (pc := 21) (v := .ref (ad E 9)) hC fl_X2_12 kq_14 rfl dX2_notRight_21 ?_
    refine v_aload_n (pc := 24) hC dX2_notRight_24 rfl 0 rfl ?_
    refine v_get (pc := 25) (v := .ref (ad E 15)) hC fl_X2_21 kq_14 rfl dX2_notRight_25 ?_
    refine v_aload_n (pc := 28) hC dX2_notRight_28 rfl 1 rfl ?_
    refine v_aload_n (pc := 29) hC dX2_notRight_29 rfl 0 rfl ?_
    refine v_get (pc := 30) (v := .ref (ad E 21)) hC fl_X2_31 kq_14 rfl dX2_notRight_30 ?_
    refine v_cv (pc := 33) (r_V (rest := []) hC ml_X2_46 mv_X5_bake (c_X5_bake l E kq_15 hk2 kq_21 h) ⟨rfl, rfl⟩ ⟨Nat.le_of_ble_eq_true rfl, Nat.le_of_ble_eq_true rfl⟩ kq_9 rfl (by decide) rfl rfl (Nat.le_of_ble_eq_true rfl) ⟨Nat.zero_le _, Nat.zero_le _⟩ dX2_notRight_33) (fun F2 h => ?_)
    refine v_aload_n (pc := 36) hC dX2_notRight_36 rfl 0 rfl ?_
    refine v_get (pc := 37) (v := .ref (ad E 21)) hC fl_X2_31 kq_14 rfl dX2_notRight_37 ?_
    refine v_cyp (pc := 40) (r_V (rest := []) hC ml_X2_50 mv_X0_isRight (c_X0_isRight l E kq_21 h) ⟨rfl, rfl⟩ ⟨Nat.le_of_ble_eq_true rfl, Nat.le_of_ble_eq_true rfl⟩ kq_21 rfl (by decide) rfl rfl (Nat.le_of_ble_eq_true rfl) ⟨Nat.zero_le _, Nat.zero_le _⟩ dX2_notRight_40) (fun r3 b4 h => ?_)
    refine v_if_ne (pc := 43) (tgt := 49) hC dX2_notRight_43 (by decide) h (fun h => ?_) (fun h => ?_)
    · skip
      refine v_iinc (pc := 49) (v := 1) hC (fun z => [(4, .int z), (0, .ref (ad E 14)), (2, .ref (ad E k2)), (3, .int x3)]) dX2_notRight_49 3 rfl (by decide) (by decide) (fun _ => rfl) h (fun n5 h => ?_)
      refine v_goto (pc := 52) (tgt := 13) hC dX2_notRight_52 (by decide) ?_
      exact v_sub [1, 2, 3, 0] rfl (hK13 _ _ _ h)
    · skip
      refine v_iinc (pc := 46) (v := 1) hC (fun z => [(3, .int z), (0, .ref (ad E 14)), (2, .ref (ad E k2)), (4, .int x4)]) dX2_notRight_46 2 rfl (by decide) (by decide) (fun _ => rfl) h (fun n6 h => ?_)
      refine v_iinc (pc := 49) (v := 1) hC (fun z => [(4, .int z), (3, .int n6), (0, .ref (ad E 14)), (2, .ref (ad E k2))]) dX2_notRight_49 3 rfl (by decide) (by decide) (fun _ => rfl) h (fun n7 h => ?_)
      refine v_goto (pc := 52) (tgt := 13) hC dX2_notRight_52 (by decide) ?_
      exact v_sub [2, 3, 1, 0] rfl (hK13 _ _ _ h)
set_option maxRecDepth 20000 in
set_option maxHeartbeats 4000000 in
theorem jl_X2_notRight_13 {p : Program} {l : Launch} {e : Env} {s : State} {m : MethodId} {args : Array Value} {below : List Frame} {meth : Method} {c : Code} {E : gE} (hC : CX p s m args meth c cX2_notRight RX2 (some .int) E 5) {k1 : Nat} (hk1 : kd k1 = 1) {k2 : Nat} (hk2 : kd k2 = 7) {Q : Int32 → gS → Prop} {F : gS} {x3 : Int32} {x4 : Int32} (h : LP3 (wb_X2_notRight_13 k1 k2 Q) F x3 x4) : VV p l e rm_X2_notRight s m args below meth c 0 0 (MQ below (va_Qi Q (gB E) (gA E)) args s 0 0 (gA E)) E 5 F 13 [(0, .ref (ad E 14)), (2, .ref (ad E k2)), (3, .int x3), (4, .int x4)] [] :=
  LP3_go (V := fun (F : gS) (x3 : Int32) (x4 : Int32) => VV p l e rm_X2_notRight s m args below meth c 0 0 (MQ below (va_Qi Q (gB E) (gA E)) args s 0 0 (gA E)) E 5 F 13 [(0, .ref (ad E 14)), (2, .ref (ad E k2)), (3, .int x3), (4, .int x4)] []) (fun K13 hK13 F x3 x4 h => jb_X2_notRight_13 hC hk1 hk2 hK13 h) F x3 x4 h
set_option maxRecDepth 20000 in
set_option maxHeartbeats 4000000 in
theorem c_X2_notRight (l : Launch) (E : gE) {k1 : Nat} (hk1 : kd k1 = 1) {k2 : Nat} (hk2 : kd k2 = 7) {F : gS} {Q : Int32 → gS → Prop} (h : wp_X2_notRight k1 k2 F Q) : CtI l E yX2_notRight cX2_notRight 5 (some .int) rm_X2_notRight [.ref (ad E 14), .ref (ad E k1), .ref (ad E k2)] F Q := by
  refine ct_of (by decide) (Nat.le_of_ble_eq_true rfl) (fun p e s m below meth c hC => ?_)
  generalize ([.ref (ad E 14), .ref (ad E k1), .ref (ad E k2)] : List Value).toArray = args at hC ⊢
  refine v_sub (lv' := [(0, .ref (ad E 14)), (1, .ref (ad E k1)), (2, .ref (ad E k2))]) [0, 1, 2] rfl ?_
  unfold wp_X2_notRight at h
  refine v_aload_n (pc := 0) hC dX2_notRight_0 rfl 0 rfl ?_
  refine v_get (pc := 1) (v := .ref (ad E 15)) hC fl_X2_21 kq_14 rfl dX2_notRight_1 ?_
  refine v_aload_n (pc := 4) hC dX2_notRight_4 rfl 1 rfl ?_
  refine v_cv (pc := 5) (r_V (rest := []) hC ml_X2_42 mv_X1_become (c_X1_become l E kq_15 hk1 h) ⟨rfl, rfl⟩ ⟨Nat.le_of_ble_eq_true rfl, Nat.le_of_ble_eq_true rfl⟩ kq_15 rfl (by decide) rfl rfl (Nat.le_of_ble_eq_true rfl) ⟨Nat.zero_le _, Nat.zero_le _⟩ dX2_notRight_5) (fun F1 h => ?_)
  refine v_iconst (pc := 8) (v := 0) hC dX2_notRight_8 (by decide) ?_
  refine v_istore_n (pc := 9) (lv' := [(3, .int 0), (0, .ref (ad E 14)), (1, .ref (ad E k1)), (2, .ref (ad E k2))]) hC dX2_notRight_9 rfl (by decide) rfl ?_
  refine v_iconst (pc := 10) (v := 0) hC dX2_notRight_10 (by decide) ?_
  refine v_istore (pc := 11) (lv' := [(4, .int 0), (3, .int 0), (0, .ref (ad E 14)), (1, .ref (ad E k1)), (2, .ref (ad E k2))]) hC dX2_notRight_11 (by decide) rfl ?_
  exact v_sub [2, 4, 1, 0] rfl (jl_X2_notRight_13 hC hk1 hk2 h)
def rm_X2_warmBySix : Room := { frames := 5, cells := 0, slots := 0, locals := 125 }
def wb_X2_warmBySix_10 (k1 : Nat) (k2 : Nat) (Q : gS → Prop) (K10 : gS → Int32 → Prop) (F : gS) (x3 : Int32) : Prop :=
  if 6 ≤ x3 then
    (wp_X1_become 18 k1 F fun F2 =>
    wp_X1_takeWarmth 18 15 F2 fun F3 =>
    Q F3)
  else
    (wp_X5_bake 15 k2 21 F fun F4 =>
    Nm (x3 + 1) fun n5 =>
    K10 F4 n5)
def wp_X2_warmBySix (k1 : Nat) (k2 : Nat) (F : gS) (Q : gS → Prop) : Prop :=
  wp_X1_become 15 k1 F fun F1 =>
  LP2 (wb_X2_warmBySix_10 k1 k2 Q) F1 0
set_option maxRecDepth 20000 in
set_option maxHeartbeats 4000000 in
theorem jb_X2_warmBySix_10 {p : Program} {l : Launch} {e : Env} {s : State} {m : MethodId} {args : Array Value} {below : List Frame} {meth : Method} {c : Code} {E : gE} (hC : CX p s m args meth c cX2_warmBySix RX2 none E 4) {k1 : Nat} (hk1 : kd k1 = 1) {k2 : Nat} (hk2 : kd k2 = 7) {Q : gS → Prop} {F : gS} {x3 : Int32} {K10 : gS → Int32 → Prop} (hK10 : ∀ (F : gS) (x3 : Int32), K10 F x3 → VV p l e rm_X2_warmBySix s m args below meth c 0 0 (MQ below (va_Qv Q (gB E) (gA E)) args s 0 0 (gA E)) E 4 F 10 [(0, .ref (ad E 14)), (1, .ref (ad E k1)), (2, .ref (ad E k2)), (3, .int x3)] []) (h : wb_X2_warmBySix_10 k1 k2 Q K10 F x3) : VV p l e rm_X2_warmBySix s m args below meth c 0 0 (MQ below (va_Qv Q (gB E) (gA E)) args s 0 0 (gA E)) E 4 F 10 [(0, .ref (ad E 14)), (1, .ref (ad E k1)), (2, .ref (ad E k2)), (3, .int x3)] [] := by
  unfold wb_X2_warmBySix_10 at h
  refine v_iload_n (pc := 10) hC dX2_warmBySix_10 rfl 3 rfl ?_
  refine v_bipush (pc := 11) (v := 6) hC dX2_warmBySix_11 (by decide) ?_
  refine v_ic_ge (pc := 13) (tgt := 38) hC dX2_warmBySix_13 (by decide) h (fun h => ?_) (fun h => ?_)
  · skip
    refine v_aload_n (pc := 38) hC dX2_warmBySix_38 rfl 0 rfl ?_
    refine v_get (pc := 39) (v := .ref (ad E 18)) hC fl_X2_25 kq_14 rfl dX2_warmBySix_39 ?_
    refine v_aload_n (pc := 42) hC dX2_warmBySix_42 rfl 1 rfl ?_
    refine v_cv (pc := 43) (r_V (rest := []) hC ml_X2_42 mv_X1_become (c_X1_become l E kq_18 hk1 h) ⟨rfl, rfl⟩ ⟨Nat.le_of_ble_eq_true rfl, Nat.le_of_ble_eq_true rfl⟩ kq_18 rfl (by decide) rfl rfl (Nat.le_of_ble_eq_true rfl) ⟨Nat.zero_le _, Nat.zero_le _⟩ dX2_warmBySix_43) (fun F2 h => ?_)
    refine v_aload_n (pc := 46) hC dX2_warmBySix_46 rfl 0 rfl ?_
    refine v_get (pc := 47) (v := .ref (ad E 18)) hC fl_X2_25 kq_14 rfl dX2_warmBySix_47 ?_
    refine v_aload_n (pc := 50) hC dX2_warmBySix_50 rfl 0 rfl ?_
    refine v_get (pc := 51) (v := .ref (ad E 15)) hC fl_X2_21 kq_14 rfl dX2_warmBySix_51 ?_
    refine v_cv (pc := 54) (r_V (rest := []) hC ml_X2_69 mv_X1_takeWarmth (c_X1_takeWarmth l E kq_18 kq_15 h) ⟨rfl, rfl⟩ ⟨Nat.le_of_ble_eq_true rfl, Nat.le_of_ble_eq_true rfl⟩ kq_18 rfl (by decide) rfl rfl (Nat.le_of_ble_eq_true rfl) ⟨Nat.zero_le _, Nat.zero_le _⟩ dX2_warmBySix_54) (fun F3 h => ?_)
    exact v_vret (pc := 57) hC dX2_warmBySix_57 h
  · skip
    refine v_aload_n (pc := 16) hC dX2_warmBySix_16 rfl 0 rfl ?_
    refine v_get (pc := 17) (v := .ref (ad E 9)) hC fl_X2_12 kq_14 rfl dX2_warmBySix_17 ?_
    refine v_aload_n (pc := 20) hC dX2_warmBySix_20 rfl 0 rfl ?_
    refine v_get (pc := 21) (v := .ref (ad E 15)) hC fl_X2_21 kq_14 rfl dX2_warmBySix_21 ?_
    refine v_aload_n (pc := 24) hC dX2_warmBySix_24 rfl 2 rfl ?_
    refine v_aload_n (pc := 25) hC dX2_warmBySix_25 rfl 0 rfl ?_
    refine v_get (pc := 26) (v := .ref (ad E 21)) hC fl_X2_31 kq_14 rfl dX2_warmBySix_26 ?_
    refine v_cv (pc := 29) (r_V (rest := []) hC ml_X2_46 mv_X5_bake (c_X5_bake l E kq_15 hk2 kq_21 h) ⟨rfl, rfl⟩ ⟨Nat.le_of_ble_eq_true rfl, Nat.le_of_ble_eq_true rfl⟩ kq_9 rfl (by decide) rfl rfl (Nat.le_of_ble_eq_true rfl) ⟨Nat.zero_le _, Nat.zero_le _⟩ dX2_warmBySix_29) (fun F4 h => ?_)
    refine v_iinc (pc := 32) (v := 1) hC (fun z => [(3, .int z), (0, .ref (ad E 14)), (1, .ref (ad E k1)), (2, .ref (ad E k2))]) dX2_warmBySix_32 3 rfl (by decide) (by decide) (fun _ => rfl) h (fun n5 h => ?_)
    refine v_goto (pc := 35) (tgt := 10) hC dX2_warmBySix_35 (by decide) ?_
    exact v_sub [1, 2, 3, 0] rfl (hK10 _ _ h)
set_option maxRecDepth 20000 in
set_option maxHeartbeats 4000000 in
theorem jl_X2_warmBySix_10 {p : Program} {l : Launch} {e : Env} {s : State} {m : MethodId} {args : Array Value} {below : List Frame} {meth : Method} {c : Code} {E : gE} (hC : CX p s m args meth c cX2_warmBySix RX2 none E 4) {k1 : Nat} (hk1 : kd k1 = 1) {k2 : Nat} (hk2 : kd k2 = 7) {Q : gS → Prop} {F : gS} {x3 : Int32} (h : LP2 (wb_X2_warmBySix_10 k1 k2 Q) F x3) : VV p l e rm_X2_warmBySix s m args below meth c 0 0 (MQ below (va_Qv Q (gB E) (gA E)) args s 0 0 (gA E)) E 4 F 10 [(0, .ref (ad E 14)), (1, .ref (ad E k1)), (2, .ref (ad E k2)), (3, .int x3)] [] :=
  LP2_go (V := fun (F : gS) (x3 : Int32) => VV p l e rm_X2_warmBySix s m args below meth c 0 0 (MQ below (va_Qv Q (gB E) (gA E)) args s 0 0 (gA E)) E 4 F 10 [(0, .ref (ad E 14)), (1, .ref (ad E k1)), (2, .ref (ad E k2)), (3, .int x3)] []) (fun K10 hK10 F x3 h => jb_X2_warmBySix_10 hC hk1 hk2 hK10 h) F x3 h
set_option maxRecDepth 20000 in
set_option maxHeartbeats 4000000 in
theorem c_X2_warmBySix (l : Launch) (E : gE) {k1 : Nat} (hk1 : kd k1 = 1) {k2 : Nat} (hk2 : kd k2 = 7) {F : gS} {Q : gS → Prop} (h : wp_X2_warmBySix k1 k2 F Q) : CtV l E yX2_warmBySix cX2_warmBySix 4 none rm_X2_warmBySix [.ref (ad E 14), .ref (ad E k1), .ref (ad E k2)] F Q := by
  refine ct_of (by decide) (Nat.le_of_ble_eq_true rfl) (fun p e s m below meth c hC => ?_)
  generalize ([.ref (ad E 14), .ref (ad E k1), .ref (ad E k2)] : List Value).toArray = args at hC ⊢
  refine v_sub (lv' := [(0, .ref (ad E 14)), (1, .ref (ad E k1)), (2, .ref (ad E k2))]) [0, 1, 2] rfl ?_
  unfold wp_X2_warmBySix at h
  refine v_aload_n (pc := 0) hC dX2_warmBySix_0 rfl 0 rfl ?_
  refine v_get (pc := 1) (v := .ref (ad E 15)) hC fl_X2_21 kq_14 rfl dX2_warmBySix_1 ?_
  refine v_aload_n (pc := 4) hC dX2_warmBySix_4 rfl 1 rfl ?_
  refine v_cv (pc := 5) (r_V (rest := []) hC ml_X2_42 mv_X1_become (c_X1_become l E kq_15 hk1 h) ⟨rfl, rfl⟩ ⟨Nat.le_of_ble_eq_true rfl, Nat.le_of_ble_eq_true rfl⟩ kq_15 rfl (by decide) rfl rfl (Nat.le_of_ble_eq_true rfl) ⟨Nat.zero_le _, Nat.zero_le _⟩ dX2_warmBySix_5) (fun F1 h => ?_)
  refine v_iconst (pc := 8) (v := 0) hC dX2_warmBySix_8 (by decide) ?_
  refine v_istore_n (pc := 9) (lv' := [(3, .int 0), (0, .ref (ad E 14)), (1, .ref (ad E k1)), (2, .ref (ad E k2))]) hC dX2_warmBySix_9 rfl (by decide) rfl ?_
  exact v_sub [1, 2, 3, 0] rfl (jl_X2_warmBySix_10 hC hk1 hk2 h)
def rm_X2_reasons : Room := { frames := 6, cells := 0, slots := 0, locals := 148 }
def wp_X2_reasons_75 (k1 : Nat) (k2 : Nat) (Q : Int32 → gS → Prop) (F : gS) (x3 : Int32) : Prop :=
  wp_X1_become 18 k1 F fun F15 =>
  wp_X1_clearBits 18 F15 fun F16 =>
  wp_X2_next 18 k2 F16 fun F17 =>
  wp_X0_isRight 21 F17 fun r18 =>
  if r18 = 0 then
    (Q x3 F17)
  else
    (Nm (x3 + 4) fun n20 =>
    Q n20 F17)
def wp_X2_reasons_40 (k1 : Nat) (k2 : Nat) (Q : Int32 → gS → Prop) (F : gS) (x3 : Int32) : Prop :=
  wp_X1_become 18 k1 F fun F9 =>
  Nm (upF F9 18 2 9) fun F10 =>
  wp_X2_next 18 k2 F10 fun F11 =>
  wp_X0_isRight 21 F11 fun r12 =>
  if r12 = 0 then
    (wp_X2_reasons_75 k1 k2 Q F11 x3)
  else
    (Nm (x3 + 2) fun n14 =>
    wp_X2_reasons_75 k1 k2 Q F11 n14)
def wp_X2_reasons (k1 : Nat) (k2 : Nat) (F : gS) (Q : Int32 → gS → Prop) : Prop :=
  wp_X2_next k1 k2 F fun F1 =>
  wp_X0_isRight 21 F1 fun r2 =>
  if r2 = 0 then
    (wp_X2_warmBySix k1 k2 F1 fun F4 =>
    wp_X2_next 18 k2 F4 fun F5 =>
    wp_X0_isRight 21 F5 fun r6 =>
    if r6 = 0 then
      (wp_X2_reasons_40 k1 k2 Q F5 0)
    else
      (Nm (0 + 1) fun n8 =>
      wp_X2_reasons_40 k1 k2 Q F5 n8))
  else
    (Q (-1) F1)
set_option maxRecDepth 20000 in
set_option maxHeartbeats 4000000 in
theorem j_X2_reasons_75 {p : Program} {l : Launch} {e : Env} {s : State} {m : MethodId} {args : Array Value} {below : List Frame} {meth : Method} {c : Code} {E : gE} (hC : CX p s m args meth c cX2_reasons RX2 (some .int) E 4) {k1 : Nat} (hk1 : kd k1 = 1) {k2 : Nat} (hk2 : kd k2 = 7) {Q : Int32 → gS → Prop} {F : gS} {x3 : Int32} (h : wp_X2_reasons_75 k1 k2 Q F x3) : VV p l e rm_X2_reasons s m args below meth c 0 0 (MQ below (va_Qi Q (gB E) (gA E)) args s 0 0 (gA E)) E 4 F 75 [(0, .ref (ad E 14)), (1, .ref (ad E k1)), (2, .ref (ad E k2)), (3, .int x3)] [] := by
  unfold wp_X2_reasons_75 at h
  refine v_aload_n (pc := 75) hC dX2_reasons_75 rfl 0 rfl ?_
  refine v_get (pc := 76) (v := .ref (ad E 18)) hC fl_X2_25 kq_14 rfl dX2_reasons_76 ?_
  refine v_aload_n (pc := 79) hC dX2_reasons_79 rfl 1 rfl ?_
  refine v_cv (pc := 80) (r_V (rest := []) hC ml_X2_42 mv_X1_become (c_X1_become l E kq_18 hk1 h) ⟨rfl, rfl⟩ ⟨Nat.le_of_ble_eq_true rfl, Nat.le_of_ble_eq_true rfl⟩ kq_18 rfl (by decide) rfl rfl (Nat.le_of_ble_eq_true rfl) ⟨Nat.zero_le _, Nat.zero_le _⟩ dX2_reasons_80) (fun F15 h => ?_)
  refine v_aload_n (pc := 83) hC dX2_reasons_83 rfl 0 rfl ?_
  refine v_get (pc := 84) (v := .ref (ad E 18)) hC fl_X2_25 kq_14 rfl dX2_reasons_84 ?_
  refine v_cv (pc := 87) (r_V (rest := []) hC ml_X2_66 mv_X1_clearBits (c_X1_clearBits l E kq_18 h) ⟨rfl, rfl⟩ ⟨Nat.le_of_ble_eq_true rfl, Nat.le_of_ble_eq_true rfl⟩ kq_18 rfl (by decide) rfl rfl (Nat.le_of_ble_eq_true rfl) ⟨Nat.zero_le _, Nat.zero_le _⟩ dX2_reasons_87) (fun F16 h => ?_)
  refine v_aload_n (pc := 90) hC dX2_reasons_90 rfl 0 rfl ?_
  refine v_aload_n (pc := 91) hC dX2_reasons_91 rfl 0 rfl ?_
  refine v_get (pc := 92) (v := .ref (ad E 18)) hC fl_X2_25 kq_14 rfl dX2_reasons_92 ?_
  refine v_aload_n (pc := 95) hC dX2_reasons_95 rfl 2 rfl ?_
  refine v_cr (pc := 96) (r_V (rest := []) hC ml_X2_54 mv_X2_next (c_X2_next l E kq_18 hk2 h) ⟨rfl, rfl⟩ ⟨Nat.le_of_ble_eq_true rfl, Nat.le_of_ble_eq_true rfl⟩ kq_14 rfl (by decide) rfl rfl (Nat.le_of_ble_eq_true rfl) ⟨Nat.zero_le _, Nat.zero_le _⟩ dX2_reasons_96) (fun F17 h => ?_)
  refine v_cyp (pc := 99) (r_V (rest := []) hC ml_X2_50 mv_X0_isRight (c_X0_isRight l E kq_21 h) ⟨rfl, rfl⟩ ⟨Nat.le_of_ble_eq_true rfl, Nat.le_of_ble_eq_true rfl⟩ kq_21 rfl (by decide) rfl rfl (Nat.le_of_ble_eq_true rfl) ⟨Nat.zero_le _, Nat.zero_le _⟩ dX2_reasons_99) (fun r18 b19 h => ?_)
  refine v_if_eq (pc := 102) (tgt := 108) hC dX2_reasons_102 (by decide) h (fun h => ?_) (fun h => ?_)
  · skip
    refine v_iload_n (pc := 108) hC dX2_reasons_108 rfl 3 rfl ?_
    exact v_iret (pc := 109) hC dX2_reasons_109 h
  · skip
    refine v_iinc (pc := 105) (v := 4) hC (fun z => [(3, .int z), (0, .ref (ad E 14)), (1, .ref (ad E k1)), (2, .ref (ad E k2))]) dX2_reasons_105 3 rfl (by decide) (by decide) (fun _ => rfl) h (fun n20 h => ?_)
    refine v_iload_n (pc := 108) hC dX2_reasons_108 rfl 0 rfl ?_
    exact v_iret (pc := 109) hC dX2_reasons_109 h
set_option maxRecDepth 20000 in
set_option maxHeartbeats 4000000 in
theorem j_X2_reasons_40 {p : Program} {l : Launch} {e : Env} {s : State} {m : MethodId} {args : Array Value} {below : List Frame} {meth : Method} {c : Code} {E : gE} (hC : CX p s m args meth c cX2_reasons RX2 (some .int) E 4) {k1 : Nat} (hk1 : kd k1 = 1) {k2 : Nat} (hk2 : kd k2 = 7) {Q : Int32 → gS → Prop} {F : gS} {x3 : Int32} (h : wp_X2_reasons_40 k1 k2 Q F x3) : VV p l e rm_X2_reasons s m args below meth c 0 0 (MQ below (va_Qi Q (gB E) (gA E)) args s 0 0 (gA E)) E 4 F 40 [(0, .ref (ad E 14)), (1, .ref (ad E k1)), (2, .ref (ad E k2)), (3, .int x3)] [] := by
  unfold wp_X2_reasons_40 at h
  refine v_aload_n (pc := 40) hC dX2_reasons_40 rfl 0 rfl ?_
  refine v_get (pc := 41) (v := .ref (ad E 18)) hC fl_X2_25 kq_14 rfl dX2_reasons_41 ?_
  refine v_aload_n (pc := 44) hC dX2_reasons_44 rfl 1 rfl ?_
  refine v_cv (pc := 45) (r_V (rest := []) hC ml_X2_42 mv_X1_become (c_X1_become l E kq_18 hk1 h) ⟨rfl, rfl⟩ ⟨Nat.le_of_ble_eq_true rfl, Nat.le_of_ble_eq_true rfl⟩ kq_18 rfl (by decide) rfl rfl (Nat.le_of_ble_eq_true rfl) ⟨Nat.zero_le _, Nat.zero_le _⟩ dX2_reasons_45) (fun F9 h => ?_)
  refine v_aload_n (pc := 48) hC dX2_reasons_48 rfl 0 rfl ?_
  refine v_get (pc := 49) (v := .ref (ad E 18)) hC fl_X2_25 kq_14 rfl dX2_reasons_49 ?_
  refine v_bipush (pc := 52) (v := 9) hC dX2_reasons_52 (by decide) ?_
  refine v_puti (pc := 54) hC fp_X2_62 kq_18 (fs_1_2 E _ _ _) (fn_1_2 E _ _) dX2_reasons_54 h (fun F10 h => ?_)
  refine v_aload_n (pc := 57) hC dX2_reasons_57 rfl 0 rfl ?_
  refine v_aload_n (pc := 58) hC dX2_reasons_58 rfl 0 rfl ?_
  refine v_get (pc := 59) (v := .ref (ad E 18)) hC fl_X2_25 kq_14 rfl dX2_reasons_59 ?_
  refine v_aload_n (pc := 62) hC dX2_reasons_62 rfl 2 rfl ?_
  refine v_cr (pc := 63) (r_V (rest := []) hC ml_X2_54 mv_X2_next (c_X2_next l E kq_18 hk2 h) ⟨rfl, rfl⟩ ⟨Nat.le_of_ble_eq_true rfl, Nat.le_of_ble_eq_true rfl⟩ kq_14 rfl (by decide) rfl rfl (Nat.le_of_ble_eq_true rfl) ⟨Nat.zero_le _, Nat.zero_le _⟩ dX2_reasons_63) (fun F11 h => ?_)
  refine v_cyp (pc := 66) (r_V (rest := []) hC ml_X2_50 mv_X0_isRight (c_X0_isRight l E kq_21 h) ⟨rfl, rfl⟩ ⟨Nat.le_of_ble_eq_true rfl, Nat.le_of_ble_eq_true rfl⟩ kq_21 rfl (by decide) rfl rfl (Nat.le_of_ble_eq_true rfl) ⟨Nat.zero_le _, Nat.zero_le _⟩ dX2_reasons_66) (fun r12 b13 h => ?_)
  refine v_if_eq (pc := 69) (tgt := 75) hC dX2_reasons_69 (by decide) h (fun h => ?_) (fun h => ?_)
  · skip
    exact v_sub [0, 1, 2, 3] rfl (j_X2_reasons_75 hC hk1 hk2 h)
  · skip
    refine v_iinc (pc := 72) (v := 2) hC (fun z => [(3, .int z), (0, .ref (ad E 14)), (1, .ref (ad E k1)), (2, .ref (ad E k2))]) dX2_reasons_72 3 rfl (by decide) (by decide) (fun _ => rfl) h (fun n14 h => ?_)
    exact v_sub [1, 2, 3, 0] rfl (j_X2_reasons_75 hC hk1 hk2 h)
set_option maxRecDepth 20000 in
set_option maxHeartbeats 4000000 in
theorem c_X2_reasons (l : Launch) (E : gE) {k1 : Nat} (hk1 : kd k1 = 1) {k2 : Nat} (hk2 : kd k2 = 7) {F : gS} {Q : Int32 → gS → Prop} (h : wp_X2_reasons k1 k2 F Q) : CtI l E yX2_reasons cX2_reasons 4 (some .int) rm_X2_reasons [.ref (ad E 14), .ref (ad E k1), .ref (ad E k2)] F Q := by
  refine ct_of (by decide) (Nat.le_of_ble_eq_true rfl) (fun p e s m below meth c hC => ?_)
  generalize ([.ref (ad E 14), .ref (ad E k1), .ref (ad E k2)] : List Value).toArray = args at hC ⊢
  refine v_sub (lv' := [(0, .ref (ad E 14)), (1, .ref (ad E k1)), (2, .ref (ad E k2))]) [0, 1, 2] rfl ?_
  unfold wp_X2_reasons at h
  refine v_aload_n (pc := 0) hC dX2_reasons_0 rfl 0 rfl ?_
  refine v_aload_n (pc := 1) hC dX2_reasons_1 rfl 1 rfl ?_
  refine v_aload_n (pc := 2) hC dX2_reasons_2 rfl 2 rfl ?_
  refine v_cr (pc := 3) (r_V (rest := []) hC ml_X2_54 mv_X2_next (c_X2_next l E hk1 hk2 h) ⟨rfl, rfl⟩ ⟨Nat.le_of_ble_eq_true rfl, Nat.le_of_ble_eq_true rfl⟩ kq_14 rfl (by decide) rfl rfl (Nat.le_of_ble_eq_true rfl) ⟨Nat.zero_le _, Nat.zero_le _⟩ dX2_reasons_3) (fun F1 h => ?_)
  refine v_cyp (pc := 6) (r_V (rest := []) hC ml_X2_50 mv_X0_isRight (c_X0_isRight l E kq_21 h) ⟨rfl, rfl⟩ ⟨Nat.le_of_ble_eq_true rfl, Nat.le_of_ble_eq_true rfl⟩ kq_21 rfl (by decide) rfl rfl (Nat.le_of_ble_eq_true rfl) ⟨Nat.zero_le _, Nat.zero_le _⟩ dX2_reasons_6) (fun r2 b3 h => ?_)
  refine v_if_eq (pc := 9) (tgt := 14) hC dX2_reasons_9 (by decide) h (fun h => ?_) (fun h => ?_)
  · skip
    refine v_iconst (pc := 14) (v := 0) hC dX2_reasons_14 (by decide) ?_
    refine v_istore_n (pc := 15) (lv' := [(3, .int 0), (0, .ref (ad E 14)), (1, .ref (ad E k1)), (2, .ref (ad E k2))]) hC dX2_reasons_15 rfl (by decide) rfl ?_
    refine v_aload_n (pc := 16) hC dX2_reasons_16 rfl 1 rfl ?_
    refine v_aload_n (pc := 17) hC dX2_reasons_17 rfl 2 rfl ?_
    refine v_aload_n (pc := 18) hC dX2_reasons_18 rfl 3 rfl ?_
    refine v_cv (pc := 19) (r_V (rest := []) hC ml_X2_58 mv_X2_warmBySix (c_X2_warmBySix l E hk1 hk2 h) ⟨rfl, rfl⟩ ⟨Nat.le_of_ble_eq_true rfl, Nat.le_of_ble_eq_true rfl⟩ kq_14 rfl (by decide) rfl rfl (Nat.le_of_ble_eq_true rfl) ⟨Nat.zero_le _, Nat.zero_le _⟩ dX2_reasons_19) (fun F4 h => ?_)
    refine v_aload_n (pc := 22) hC dX2_reasons_22 rfl 1 rfl ?_
    refine v_aload_n (pc := 23) hC dX2_reasons_23 rfl 1 rfl ?_
    refine v_get (pc := 24) (v := .ref (ad E 18)) hC fl_X2_25 kq_14 rfl dX2_reasons_24 ?_
    refine v_aload_n (pc := 27) hC dX2_reasons_27 rfl 3 rfl ?_
    refine v_cr (pc := 28) (r_V (rest := []) hC ml_X2_54 mv_X2_next (c_X2_next l E kq_18 hk2 h) ⟨rfl, rfl⟩ ⟨Nat.le_of_ble_eq_true rfl, Nat.le_of_ble_eq_true rfl⟩ kq_14 rfl (by decide) rfl rfl (Nat.le_of_ble_eq_true rfl) ⟨Nat.zero_le _, Nat.zero_le _⟩ dX2_reasons_28) (fun F5 h => ?_)
    refine v_cyp (pc := 31) (r_V (rest := []) hC ml_X2_50 mv_X0_isRight (c_X0_isRight l E kq_21 h) ⟨rfl, rfl⟩ ⟨Nat.le_of_ble_eq_true rfl, Nat.le_of_ble_eq_true rfl⟩ kq_21 rfl (by decide) rfl rfl (Nat.le_of_ble_eq_true rfl) ⟨Nat.zero_le _, Nat.zero_le _⟩ dX2_reasons_31) (fun r6 b7 h => ?_)
    refine v_if_eq (pc := 34) (tgt := 40) hC dX2_reasons_34 (by decide) h (fun h => ?_) (fun h => ?_)
    · skip
      exact v_sub [1, 2, 3, 0] rfl (j_X2_reasons_40 hC hk1 hk2 h)
    · skip
      refine v_iinc (pc := 37) (v := 1) hC (fun z => [(3, .int z), (0, .ref (ad E 14)), (1, .ref (ad E k1)), (2, .ref (ad E k2))]) dX2_reasons_37 0 rfl (by decide) (by decide) (fun _ => rfl) h (fun n8 h => ?_)
      exact v_sub [1, 2, 3, 0] rfl (j_X2_reasons_40 hC hk1 hk2 h)
  · skip
    refine v_iconst (pc := 12) (v := (-1)) hC dX2_reasons_12 (by decide) ?_
    exact v_iret (pc := 13) hC dX2_reasons_13 h
def rm_X2_worthOf : Room := { frames := 5, cells := 0, slots := 0, locals := 125 }
def wb_X2_worthOf_13 (k1 : Nat) (Q : Int32 → gS → Prop) (x2 : Int32) (K13 : gS → Int32 → Int32 → Prop) (F : gS) (x3 : Int32) (x4 : Int32) : Prop :=
  if x2 ≤ x4 then
    (Q x3 F)
  else
    (wp_X5_bake 15 24 21 F fun F2 =>
    vp_in 6 7 ∧
    Nm (x3 + (F2 23 (6 : Int32).toNatClampNeg)) fun n3 =>
    Nm (x4 + 1) fun n4 =>
    K13 F2 n3 n4)
def wp_X2_worthOf (k1 : Nat) (x2 : Int32) (F : gS) (Q : Int32 → gS → Prop) : Prop :=
  wp_X1_become 15 k1 F fun F1 =>
  LP3 (wb_X2_worthOf_13 k1 Q x2) F1 0 0
set_option maxRecDepth 20000 in
set_option maxHeartbeats 4000000 in
theorem jb_X2_worthOf_13 {p : Program} {l : Launch} {e : Env} {s : State} {m : MethodId} {args : Array Value} {below : List Frame} {meth : Method} {c : Code} {E : gE} (hC : CX p s m args meth c cX2_worthOf RX2 (some .int) E 5) {k1 : Nat} (hk1 : kd k1 = 1) {Q : Int32 → gS → Prop} {F : gS} {x2 : Int32} {x3 : Int32} {x4 : Int32} {K13 : gS → Int32 → Int32 → Prop} (hK13 : ∀ (F : gS) (x3 : Int32) (x4 : Int32), K13 F x3 x4 → VV p l e rm_X2_worthOf s m args below meth c 0 0 (MQ below (va_Qi Q (gB E) (gA E)) args s 0 0 (gA E)) E 5 F 13 [(0, .ref (ad E 14)), (2, .int x2), (3, .int x3), (4, .int x4)] []) (h : wb_X2_worthOf_13 k1 Q x2 K13 F x3 x4) : VV p l e rm_X2_worthOf s m args below meth c 0 0 (MQ below (va_Qi Q (gB E) (gA E)) args s 0 0 (gA E)) E 5 F 13 [(0, .ref (ad E 14)), (2, .int x2), (3, .int x3), (4, .int x4)] [] := by
  unfold wb_X2_worthOf_13 at h
  refine v_iload (pc := 13) hC dX2_worthOf_13 3 rfl ?_
  refine v_iload_n (pc := 15) hC dX2_worthOf_15 rfl 1 rfl ?_
  refine v_ic_ge (pc := 16) (tgt := 57) hC dX2_worthOf_16 (by decide) h (fun h => ?_) (fun h => ?_)
  · skip
    refine v_iload_n (pc := 57) hC dX2_worthOf_57 rfl 2 rfl ?_
    exact v_iret (pc := 58) hC dX2_worthOf_58 h
  · skip
    refine v_aload_n (pc := 19) hC dX2_worthOf_19 rfl 0 rfl ?_
    refine v_get (pc := 20) (v := .ref (ad E 9)) hC fl_X2_12 kq_14 rfl dX2_worthOf_20 ?_
    refine v_aload_n (pc := 23) hC dX2_worthOf_23 rfl 0 rfl ?_
    refine v_get (pc := 24) (v := .ref (ad E 15)) hC fl_X2_21 kq_14 rfl dX2_worthOf_24 ?_
    refine v_aload_n (pc := 27) hC dX2_worthOf_27 rfl 0 rfl ?_
    refine v_get (pc := 28) (v := .ref (ad E 24)) hC fl_X2_38 kq_14 rfl dX2_worthOf_28 ?_
    refine v_aload_n (pc := 31) hC dX2_worthOf_31 rfl 0 rfl ?_
    refine v_get (pc := 32) (v := .ref (ad E 21)) hC fl_X2_31 kq_14 rfl dX2_worthOf_32 ?_
    refine v_cv (pc := 35) (r_V (rest := []) hC ml_X2_46 mv_X5_bake (c_X5_bake l E kq_15 kq_24 kq_21 h) ⟨rfl, rfl⟩ ⟨Nat.le_of_ble_eq_true rfl, Nat.le_of_ble_eq_true rfl⟩ kq_9 rfl (by decide) rfl rfl (Nat.le_of_ble_eq_true rfl) ⟨Nat.zero_le _, Nat.zero_le _⟩ dX2_worthOf_35) (fun F2 h => ?_)
    refine v_iload_n (pc := 38) hC dX2_worthOf_38 rfl 2 rfl ?_
    refine v_aload_n (pc := 39) hC dX2_worthOf_39 rfl 0 rfl ?_
    refine v_get (pc := 40) (v := .ref (ad E 21)) hC fl_X2_31 kq_14 rfl dX2_worthOf_40 ?_
    refine v_get (pc := 43) (v := .ref (ad E 23)) hC fl_X2_88 kq_21 rfl dX2_worthOf_43 ?_
    refine v_bipush (pc := 46) (v := 6) hC dX2_worthOf_46 (by decide) ?_
    refine v_iald (pc := 48) (n := 7) hC kq_23 (by decide) dX2_worthOf_48 h (fun h => ?_)
    refine v_iadd (pc := 49) hC dX2_worthOf_49 ?_
    refine v_nmi h (fun n3 h => ?_)
    refine v_istore_n (pc := 50) (lv' := [(3, .int n3), (0, .ref (ad E 14)), (2, .int x2), (4, .int x4)]) hC dX2_worthOf_50 rfl (by decide) rfl ?_
    refine v_iinc (pc := 51) (v := 1) hC (fun z => [(4, .int z), (3, .int n3), (0, .ref (ad E 14)), (2, .int x2)]) dX2_worthOf_51 3 rfl (by decide) (by decide) (fun _ => rfl) h (fun n4 h => ?_)
    refine v_goto (pc := 54) (tgt := 13) hC dX2_worthOf_54 (by decide) ?_
    exact v_sub [2, 3, 1, 0] rfl (hK13 _ _ _ h)
set_option maxRecDepth 20000 in
set_option maxHeartbeats 4000000 in
theorem jl_X2_worthOf_13 {p : Program} {l : Launch} {e : Env} {s : State} {m : MethodId} {args : Array Value} {below : List Frame} {meth : Method} {c : Code} {E : gE} (hC : CX p s m args meth c cX2_worthOf RX2 (some .int) E 5) {k1 : Nat} (hk1 : kd k1 = 1) {Q : Int32 → gS → Prop} {F : gS} {x2 : Int32} {x3 : Int32} {x4 : Int32} (h : LP3 (wb_X2_worthOf_13 k1 Q x2) F x3 x4) : VV p l e rm_X2_worthOf s m args below meth c 0 0 (MQ below (va_Qi Q (gB E) (gA E)) args s 0 0 (gA E)) E 5 F 13 [(0, .ref (ad E 14)), (2, .int x2), (3, .int x3), (4, .int x4)] [] :=
  LP3_go (V := fun (F : gS) (x3 : Int32) (x4 : Int32) => VV p l e rm_X2_worthOf s m args below meth c 0 0 (MQ below (va_Qi Q (gB E) (gA E)) args s 0 0 (gA E)) E 5 F 13 [(0, .ref (ad E 14)), (2, .int x2), (3, .int x3), (4, .int x4)] []) (fun K13 hK13 F x3 x4 h => jb_X2_worthOf_13 hC hk1 hK13 h) F x3 x4 h
set_option maxRecDepth 20000 in
set_option maxHeartbeats 4000000 in
theorem c_X2_worthOf (l : Launch) (E : gE) {k1 : Nat} (hk1 : kd k1 = 1) {x2 : Int32} {F : gS} {Q : Int32 → gS → Prop} (h : wp_X2_worthOf k1 x2 F Q) : CtI l E yX2_worthOf cX2_worthOf 5 (some .int) rm_X2_worthOf [.ref (ad E 14), .ref (ad E k1), .int x2] F Q := by
  refine ct_of (by decide) (Nat.le_of_ble_eq_true rfl) (fun p e s m below meth c hC => ?_)
  generalize ([.ref (ad E 14), .ref (ad E k1), .int x2] : List Value).toArray = args at hC ⊢
  refine v_sub (lv' := [(0, .ref (ad E 14)), (1, .ref (ad E k1)), (2, .int x2)]) [0, 1, 2] rfl ?_
  unfold wp_X2_worthOf at h
  refine v_aload_n (pc := 0) hC dX2_worthOf_0 rfl 0 rfl ?_
  refine v_get (pc := 1) (v := .ref (ad E 15)) hC fl_X2_21 kq_14 rfl dX2_worthOf_1 ?_
  refine v_aload_n (pc := 4) hC dX2_worthOf_4 rfl 1 rfl ?_
  refine v_cv (pc := 5) (r_V (rest := []) hC ml_X2_42 mv_X1_become (c_X1_become l E kq_15 hk1 h) ⟨rfl, rfl⟩ ⟨Nat.le_of_ble_eq_true rfl, Nat.le_of_ble_eq_true rfl⟩ kq_15 rfl (by decide) rfl rfl (Nat.le_of_ble_eq_true rfl) ⟨Nat.zero_le _, Nat.zero_le _⟩ dX2_worthOf_5) (fun F1 h => ?_)
  refine v_iconst (pc := 8) (v := 0) hC dX2_worthOf_8 (by decide) ?_
  refine v_istore_n (pc := 9) (lv' := [(3, .int 0), (0, .ref (ad E 14)), (1, .ref (ad E k1)), (2, .int x2)]) hC dX2_worthOf_9 rfl (by decide) rfl ?_
  refine v_iconst (pc := 10) (v := 0) hC dX2_worthOf_10 (by decide) ?_
  refine v_istore (pc := 11) (lv' := [(4, .int 0), (3, .int 0), (0, .ref (ad E 14)), (1, .ref (ad E k1)), (2, .int x2)]) hC dX2_worthOf_11 (by decide) rfl ?_
  exact v_sub [2, 4, 1, 0] rfl (jl_X2_worthOf_13 hC hk1 h)
def rm_X2_findFire : Room := { frames := 6, cells := 0, slots := 0, locals := 149 }
def wb_X2_findFire_16 (k1 : Nat) (k2 : Nat) (Q : gS → Prop) (x3 : Int32) (K16 : gS → Int32 → Prop) (F : gS) (x4 : Int32) : Prop :=
  if 9 < x4 then
    (Q F)
  else
    (Nm (upF F 24 1 x4) fun F3 =>
    wp_X2_worthOf k1 x3 F3 fun r4 F5 =>
    if r4 ≤ (F5 14 7) then
      (Nm (x4 + 1) fun n6 =>
      K16 F5 n6)
    else
      (Nm (upF F5 14 7 r4) fun F7 =>
      Nm (upF F7 14 5 x4) fun F8 =>
      Nm (x4 + 1) fun n9 =>
      K16 F8 n9))
def wp_X2_findFire (k1 : Nat) (k2 : Nat) (x3 : Int32) (F : gS) (Q : gS → Prop) : Prop :=
  wp_X7_become_ 24 k2 F fun F1 =>
  Nm (upF F1 14 7 (-1)) fun F2 =>
  LP2 (wb_X2_findFire_16 k1 k2 Q x3) F2 1
set_option maxRecDepth 20000 in
set_option maxHeartbeats 4000000 in
theorem jb_X2_findFire_16 {p : Program} {l : Launch} {e : Env} {s : State} {m : MethodId} {args : Array Value} {below : List Frame} {meth : Method} {c : Code} {E : gE} (hC : CX p s m args meth c cX2_findFire RX2 none E 6) {k1 : Nat} (hk1 : kd k1 = 1) {k2 : Nat} (hk2 : kd k2 = 7) {Q : gS → Prop} {F : gS} {x3 : Int32} {x4 : Int32} {K16 : gS → Int32 → Prop} (hK16 : ∀ (F : gS) (x4 : Int32), K16 F x4 → VV p l e rm_X2_findFire s m args below meth c 0 0 (MQ below (va_Qv Q (gB E) (gA E)) args s 0 0 (gA E)) E 6 F 16 [(0, .ref (ad E 14)), (1, .ref (ad E k1)), (3, .int x3), (4, .int x4)] []) (h : wb_X2_findFire_16 k1 k2 Q x3 K16 F x4) : VV p l e rm_X2_findFire s m args below meth c 0 0 (MQ below (va_Qv Q (gB E) (gA E)) args s 0 0 (gA E)) E 6 F 16 [(0, .ref (ad E 14)), (1, .ref (ad E k1)), (3, .int x3), (4, .int x4)] [] := by
  unfold wb_X2_findFire_16 at h
  refine v_iload (pc := 16) hC dX2_findFire_16 3 rfl ?_
  refine v_bipush (pc := 18) (v := 9) hC dX2_findFire_18 (by decide) ?_
  refine v_ic_gt (pc := 20) (tgt := 67) hC dX2_findFire_20 (by decide) h (fun h => ?_) (fun h => ?_)
  · skip
    exact v_vret (pc := 67) hC dX2_findFire_67 h
  · skip
    refine v_aload_n (pc := 23) hC dX2_findFire_23 rfl 0 rfl ?_
    refine v_get (pc := 24) (v := .ref (ad E 24)) hC fl_X2_38 kq_14 rfl dX2_findFire_24 ?_
    refine v_iload (pc := 27) hC dX2_findFire_27 3 rfl ?_
    refine v_puti (pc := 29) hC fp_X2_78 kq_24 (fs_7_1 E _ _ _) (fn_7_1 E _ _) dX2_findFire_29 h (fun F3 h => ?_)
    refine v_aload_n (pc := 32) hC dX2_findFire_32 rfl 0 rfl ?_
    refine v_aload_n (pc := 33) hC dX2_findFire_33 rfl 1 rfl ?_
    refine v_iload_n (pc := 34) hC dX2_findFire_34 rfl 2 rfl ?_
    refine v_ci (pc := 35) (r_V (rest := []) hC ml_X2_81 mv_X2_worthOf (c_X2_worthOf l E hk1 h) ⟨rfl, rfl⟩ ⟨Nat.le_of_ble_eq_true rfl, Nat.le_of_ble_eq_true rfl⟩ kq_14 rfl (by decide) rfl rfl (Nat.le_of_ble_eq_true rfl) ⟨Nat.zero_le _, Nat.zero_le _⟩ dX2_findFire_35) (fun r4 F5 h => ?_)
    refine v_istore (pc := 38) (lv' := [(5, .int r4), (0, .ref (ad E 14)), (1, .ref (ad E k1)), (3, .int x3), (4, .int x4)]) hC dX2_findFire_38 (by decide) rfl ?_
    refine v_iload (pc := 40) hC dX2_findFire_40 0 rfl ?_
    refine v_aload_n (pc := 42) hC dX2_findFire_42 rfl 1 rfl ?_
    refine v_get (pc := 43) (v := .int (F5 14 7)) hC fl_X2_75 kq_14 rfl dX2_findFire_43 ?_
    refine v_ic_le (pc := 46) (tgt := 61) hC dX2_findFire_46 (by decide) h (fun h => ?_) (fun h => ?_)
    · skip
      refine v_iinc (pc := 61) (v := 1) hC (fun z => [(4, .int z), (5, .int r4), (0, .ref (ad E 14)), (1, .ref (ad E k1)), (3, .int x3)]) dX2_findFire_61 4 rfl (by decide) (by decide) (fun _ => rfl) h (fun n6 h => ?_)
      refine v_goto (pc := 64) (tgt := 16) hC dX2_findFire_64 (by decide) ?_
      exact v_sub [2, 3, 4, 0] rfl (hK16 _ _ h)
    · skip
      refine v_aload_n (pc := 49) hC dX2_findFire_49 rfl 1 rfl ?_
      refine v_iload (pc := 50) hC dX2_findFire_50 0 rfl ?_
      refine v_puti (pc := 52) hC fp_X2_75 kq_14 (fs_2_7 E _ _ _) (fn_2_7 E _ _) dX2_findFire_52 h (fun F7 h => ?_)
      refine v_aload_n (pc := 55) hC dX2_findFire_55 rfl 1 rfl ?_
      refine v_iload (pc := 56) hC dX2_findFire_56 4 rfl ?_
      refine v_puti (pc := 58) hC fp_X2_85 kq_14 (fs_2_5 E _ _ _) (fn_2_5 E _ _) dX2_findFire_58 h (fun F8 h => ?_)
      refine v_iinc (pc := 61) (v := 1) hC (fun z => [(4, .int z), (5, .int r4), (0, .ref (ad E 14)), (1, .ref (ad E k1)), (3, .int x3)]) dX2_findFire_61 4 rfl (by decide) (by decide) (fun _ => rfl) h (fun n9 h => ?_)
      refine v_goto (pc := 64) (tgt := 16) hC dX2_findFire_64 (by decide) ?_
      exact v_sub [2, 3, 4, 0] rfl (hK16 _ _ h)
set_option maxRecDepth 20000 in
set_option maxHeartbeats 4000000 in
theorem jl_X2_findFire_16 {p : Program} {l : Launch} {e : Env} {s : State} {m : MethodId} {args : Array Value} {below : List Frame} {meth : Method} {c : Code} {E : gE} (hC : CX p s m args meth c cX2_findFire RX2 none E 6) {k1 : Nat} (hk1 : kd k1 = 1) {k2 : Nat} (hk2 : kd k2 = 7) {Q : gS → Prop} {F : gS} {x3 : Int32} {x4 : Int32} (h : LP2 (wb_X2_findFire_16 k1 k2 Q x3) F x4) : VV p l e rm_X2_findFire s m args below meth c 0 0 (MQ below (va_Qv Q (gB E) (gA E)) args s 0 0 (gA E)) E 6 F 16 [(0, .ref (ad E 14)), (1, .ref (ad E k1)), (3, .int x3), (4, .int x4)] [] :=
  LP2_go (V := fun (F : gS) (x4 : Int32) => VV p l e rm_X2_findFire s m args below meth c 0 0 (MQ below (va_Qv Q (gB E) (gA E)) args s 0 0 (gA E)) E 6 F 16 [(0, .ref (ad E 14)), (1, .ref (ad E k1)), (3, .int x3), (4, .int x4)] []) (fun K16 hK16 F x4 h => jb_X2_findFire_16 hC hk1 hk2 hK16 h) F x4 h
set_option maxRecDepth 20000 in
set_option maxHeartbeats 4000000 in
theorem c_X2_findFire (l : Launch) (E : gE) {k1 : Nat} (hk1 : kd k1 = 1) {k2 : Nat} (hk2 : kd k2 = 7) {x3 : Int32} {F : gS} {Q : gS → Prop} (h : wp_X2_findFire k1 k2 x3 F Q) : CtV l E yX2_findFire cX2_findFire 6 none rm_X2_findFire [.ref (ad E 14), .ref (ad E k1), .ref (ad E k2), .int x3] F Q := by
  refine ct_of (by decide) (Nat.le_of_ble_eq_true rfl) (fun p e s m below meth c hC => ?_)
  generalize ([.ref (ad E 14), .ref (ad E k1), .ref (ad E k2), .int x3] : List Value).toArray = args at hC ⊢
  refine v_sub (lv' := [(0, .ref (ad E 14)), (1, .ref (ad E k1)), (2, .ref (ad E k2)), (3, .int x3)]) [0, 1, 2, 3] rfl ?_
  unfold wp_X2_findFire at h
  refine v_aload_n (pc := 0) hC dX2_findFire_0 rfl 0 rfl ?_
  refine v_get (pc := 1) (v := .ref (ad E 24)) hC fl_X2_38 kq_14 rfl dX2_findFire_1 ?_
  refine v_aload_n (pc := 4) hC dX2_findFire_4 rfl 2 rfl ?_
  refine v_cv (pc := 5) (r_V (rest := []) hC ml_X2_72 mv_X7_become_ (c_X7_become_ l E kq_24 hk2 h) ⟨rfl, rfl⟩ ⟨Nat.le_of_ble_eq_true rfl, Nat.le_of_ble_eq_true rfl⟩ kq_24 rfl (by decide) rfl rfl (Nat.le_of_ble_eq_true rfl) ⟨Nat.zero_le _, Nat.zero_le _⟩ dX2_findFire_5) (fun F1 h => ?_)
  refine v_aload_n (pc := 8) hC dX2_findFire_8 rfl 0 rfl ?_
  refine v_iconst (pc := 9) (v := (-1)) hC dX2_findFire_9 (by decide) ?_
  refine v_puti (pc := 10) hC fp_X2_75 kq_14 (fs_2_7 E _ _ _) (fn_2_7 E _ _) dX2_findFire_10 h (fun F2 h => ?_)
  refine v_iconst (pc := 13) (v := 1) hC dX2_findFire_13 (by decide) ?_
  refine v_istore (pc := 14) (lv' := [(4, .int 1), (0, .ref (ad E 14)), (1, .ref (ad E k1)), (2, .ref (ad E k2)), (3, .int x3)]) hC dX2_findFire_14 (by decide) rfl ?_
  exact v_sub [1, 2, 4, 0] rfl (jl_X2_findFire_16 hC hk1 hk2 h)
def rm_X2_swingOf : Room := { frames := 0, cells := 0, slots := 0, locals := 0 }
def wp_X2_swingOf (x0 : Int32) (x1 : Int32) (x2 : Int32) (F : gS) (Q : Int32 → Prop) : Prop :=
  Q ((x0 >>> ((2 * ((x1 - 1) - x2)) &&& 31)) &&& 3)
set_option maxRecDepth 20000 in
set_option maxHeartbeats 4000000 in
theorem c_X2_swingOf (l : Launch) (E : gE) {x0 : Int32} {x1 : Int32} {x2 : Int32} {F : gS} {Q : Int32 → Prop} (h : wp_X2_swingOf x0 x1 x2 F Q) : CtI l E yX2_swingOf cX2_swingOf 3 (some .int) rm_X2_swingOf [.int x0, .int x1, .int x2] F (fun r G => G = F ∧ Q r) := by
  refine ct_of (by decide) (Nat.le_of_ble_eq_true rfl) (fun p e s m below meth c hC => ?_)
  generalize ([.int x0, .int x1, .int x2] : List Value).toArray = args at hC ⊢
  refine v_sub (lv' := [(0, .int x0), (1, .int x1), (2, .int x2)]) [0, 1, 2] rfl ?_
  unfold wp_X2_swingOf at h
  refine v_iload_n (pc := 0) hC dX2_swingOf_0 rfl 0 rfl ?_
  refine v_iconst (pc := 1) (v := 2) hC dX2_swingOf_1 (by decide) ?_
  refine v_iload_n (pc := 2) hC dX2_swingOf_2 rfl 1 rfl ?_
  refine v_iconst (pc := 3) (v := 1) hC dX2_swingOf_3 (by decide) ?_
  refine v_isub (pc := 4) hC dX2_swingOf_4 ?_
  refine v_iload_n (pc := 5) hC dX2_swingOf_5 rfl 2 rfl ?_
  refine v_isub (pc := 6) hC dX2_swingOf_6 ?_
  refine v_imul (pc := 7) hC dX2_swingOf_7 ?_
  refine v_ishr (pc := 8) hC dX2_swingOf_8 ?_
  refine v_iconst (pc := 9) (v := 3) hC dX2_swingOf_9 (by decide) ?_
  refine v_iand (pc := 10) hC dX2_swingOf_10 ?_
  exact v_iret (pc := 11) hC dX2_swingOf_11 ⟨rfl, h⟩
def rm_X2_findSwings : Room := { frames := 4, cells := 0, slots := 0, locals := 100 }
def wp_X2_findSwings_79 (k1 : Nat) (k2 : Nat) (K30 : gS → Int32 → Prop) (Q : gS → Prop) (F : gS) (x3 : Int32) (x4 : Int32) : Prop :=
  wp_X1_become 15 k1 F fun F7 =>
  wp_X5_spread 15 24 21 F7 fun r8 F9 =>
  wp_X0_measure 21 F9 fun F10 =>
  vp_in 3 7 ∧
  if (F10 14 7) ≤ (F10 23 (3 : Int32).toNatClampNeg) then
    (Nm (x4 + 1) fun n11 =>
    K30 F10 n11)
  else
    (vp_in 3 7 ∧
    Nm (upF F10 14 7 (F10 23 (3 : Int32).toNatClampNeg)) fun F12 =>
    Nm (upF F12 14 5 x4) fun F13 =>
    Nm (x4 + 1) fun n14 =>
    K30 F13 n14)
def wb_X2_findSwings_43 (k1 : Nat) (k2 : Nat) (K30 : gS → Int32 → Prop) (Q : gS → Prop) (x3 : Int32) (x4 : Int32) (K43 : gS → Int32 → Prop) (F : gS) (x5 : Int32) : Prop :=
  if (F 24 5) ≤ x5 then
    (wp_X2_findSwings_79 k1 k2 K30 Q F x3 x4)
  else
    (wp_X2_swingOf x4 x3 x5 F fun r4 =>
    vp_in x5 6 ∧ Nm (upF F 25 x5.toNatClampNeg r4) fun F5 =>
    Nm (x5 + 1) fun n6 =>
    K43 F5 n6)
def wb_X2_findSwings_30 (k1 : Nat) (k2 : Nat) (Q : gS → Prop) (x3 : Int32) (K30 : gS → Int32 → Prop) (F : gS) (x4 : Int32) : Prop :=
  if (1 <<< ((2 * x3) &&& 31)) ≤ x4 then
    (Q F)
  else
    (LP2 (wb_X2_findSwings_43 k1 k2 K30 Q x3 x4) F 0)
def wp_X2_findSwings (k1 : Nat) (k2 : Nat) (x3 : Int32) (F : gS) (Q : gS → Prop) : Prop :=
  wp_X7_become_ 24 k2 F fun F1 =>
  Nm (upF F1 24 5 (if 6 < x3 then 6 else x3)) fun F2 =>
  Nm (upF F2 14 7 61) fun F3 =>
  LP2 (wb_X2_findSwings_30 k1 k2 Q x3) F3 0
set_option maxRecDepth 20000 in
set_option maxHeartbeats 4000000 in
theorem j_X2_findSwings_79 {p : Program} {l : Launch} {e : Env} {s : State} {m : MethodId} {args : Array Value} {below : List Frame} {meth : Method} {c : Code} {E : gE} (hC : CX p s m args meth c cX2_findSwings RX2 none E 6) {k1 : Nat} (hk1 : kd k1 = 1) {k2 : Nat} (hk2 : kd k2 = 7) {Q : gS → Prop} {F : gS} {x3 : Int32} {x4 : Int32} {K30 : gS → Int32 → Prop} (hK30 : ∀ (F : gS) (x4 : Int32), K30 F x4 → VV p l e rm_X2_findSwings s m args below meth c 0 0 (MQ below (va_Qv Q (gB E) (gA E)) args s 0 0 (gA E)) E 6 F 30 [(0, .ref (ad E 14)), (1, .ref (ad E k1)), (3, .int x3), (4, .int x4)] []) (h : wp_X2_findSwings_79 k1 k2 K30 Q F x3 x4) : VV p l e rm_X2_findSwings s m args below meth c 0 0 (MQ below (va_Qv Q (gB E) (gA E)) args s 0 0 (gA E)) E 6 F 79 [(0, .ref (ad E 14)), (1, .ref (ad E k1)), (3, .int x3), (4, .int x4)] [] := by
  unfold wp_X2_findSwings_79 at h
  refine v_aload_n (pc := 79) hC dX2_findSwings_79 rfl 0 rfl ?_
  refine v_get (pc := 80) (v := .ref (ad E 15)) hC fl_X2_21 kq_14 rfl dX2_findSwings_80 ?_
  refine v_aload_n (pc := 83) hC dX2_findSwings_83 rfl 1 rfl ?_
  refine v_cv (pc := 84) (r_V (rest := []) hC ml_X2_42 mv_X1_become (c_X1_become l E kq_15 hk1 h) ⟨rfl, rfl⟩ ⟨Nat.le_of_ble_eq_true rfl, Nat.le_of_ble_eq_true rfl⟩ kq_15 rfl (by decide) rfl rfl (Nat.le_of_ble_eq_true rfl) ⟨Nat.zero_le _, Nat.zero_le _⟩ dX2_findSwings_84) (fun F7 h => ?_)
  refine v_aload_n (pc := 87) hC dX2_findSwings_87 rfl 0 rfl ?_
  refine v_get (pc := 88) (v := .ref (ad E 9)) hC fl_X2_12 kq_14 rfl dX2_findSwings_88 ?_
  refine v_aload_n (pc := 91) hC dX2_findSwings_91 rfl 0 rfl ?_
  refine v_get (pc := 92) (v := .ref (ad E 15)) hC fl_X2_21 kq_14 rfl dX2_findSwings_92 ?_
  refine v_aload_n (pc := 95) hC dX2_findSwings_95 rfl 0 rfl ?_
  refine v_get (pc := 96) (v := .ref (ad E 24)) hC fl_X2_38 kq_14 rfl dX2_findSwings_96 ?_
  refine v_aload_n (pc := 99) hC dX2_findSwings_99 rfl 0 rfl ?_
  refine v_get (pc := 100) (v := .ref (ad E 21)) hC fl_X2_31 kq_14 rfl dX2_findSwings_100 ?_
  refine v_ci (pc := 103) (r_V (rest := []) hC ml_X2_108 mv_X5_spread (c_X5_spread l E kq_15 kq_24 kq_21 h) ⟨rfl, rfl⟩ ⟨Nat.le_of_ble_eq_true rfl, Nat.le_of_ble_eq_true rfl⟩ kq_9 rfl (by decide) rfl rfl (Nat.le_of_ble_eq_true rfl) ⟨Nat.zero_le _, Nat.zero_le _⟩ dX2_findSwings_103) (fun r8 F9 h => ?_)
  refine v_pop (pc := 106) hC dX2_findSwings_106 rfl ?_
  refine v_aload_n (pc := 107) hC dX2_findSwings_107 rfl 0 rfl ?_
  refine v_get (pc := 108) (v := .ref (ad E 21)) hC fl_X2_31 kq_14 rfl dX2_findSwings_108 ?_
  refine v_cv (pc := 111) (r_V (rest := []) hC ml_X2_112 mv_X0_measure (c_X0_measure l E kq_21 h) ⟨rfl, rfl⟩ ⟨Nat.le_of_ble_eq_true rfl, Nat.le_of_ble_eq_true rfl⟩ kq_21 rfl (by decide) rfl rfl (Nat.le_of_ble_eq_true rfl) ⟨Nat.zero_le _, Nat.zero_le _⟩ dX2_findSwings_111) (fun F10 h => ?_)
  refine v_aload_n (pc := 114) hC dX2_findSwings_114 rfl 0 rfl ?_
  refine v_get (pc := 115) (v := .ref (ad E 21)) hC fl_X2_31 kq_14 rfl dX2_findSwings_115 ?_
  refine v_get (pc := 118) (v := .ref (ad E 23)) hC fl_X2_88 kq_21 rfl dX2_findSwings_118 ?_
  refine v_iconst (pc := 121) (v := 3) hC dX2_findSwings_121 (by decide) ?_
  refine v_iald (pc := 122) (n := 7) hC kq_23 (by decide) dX2_findSwings_122 h (fun h => ?_)
  refine v_aload_n (pc := 123) hC dX2_findSwings_123 rfl 0 rfl ?_
  refine v_get (pc := 124) (v := .int (F10 14 7)) hC fl_X2_75 kq_14 rfl dX2_findSwings_124 ?_
  refine v_ic_ge (pc := 127) (tgt := 149) hC dX2_findSwings_127 (by decide) h (fun h => ?_) (fun h => ?_)
  · skip
    refine v_iinc (pc := 149) (v := 1) hC (fun z => [(4, .int z), (0, .ref (ad E 14)), (1, .ref (ad E k1)), (3, .int x3)]) dX2_findSwings_149 3 rfl (by decide) (by decide) (fun _ => rfl) h (fun n11 h => ?_)
    refine v_goto (pc := 152) (tgt := 30) hC dX2_findSwings_152 (by decide) ?_
    exact v_sub [1, 2, 3, 0] rfl (hK30 _ _ h)
  · skip
    refine v_aload_n (pc := 130) hC dX2_findSwings_130 rfl 0 rfl ?_
    refine v_aload_n (pc := 131) hC dX2_findSwings_131 rfl 0 rfl ?_
    refine v_get (pc := 132) (v := .ref (ad E 21)) hC fl_X2_31 kq_14 rfl dX2_findSwings_132 ?_
    refine v_get (pc := 135) (v := .ref (ad E 23)) hC fl_X2_88 kq_21 rfl dX2_findSwings_135 ?_
    refine v_iconst (pc := 138) (v := 3) hC dX2_findSwings_138 (by decide) ?_
    refine v_iald (pc := 139) (n := 7) hC kq_23 (by decide) dX2_findSwings_139 h (fun h => ?_)
    refine v_puti (pc := 140) hC fp_X2_75 kq_14 (fs_2_7 E _ _ _) (fn_2_7 E _ _) dX2_findSwings_140 h (fun F12 h => ?_)
    refine v_aload_n (pc := 143) hC dX2_findSwings_143 rfl 0 rfl ?_
    refine v_iload (pc := 144) hC dX2_findSwings_144 3 rfl ?_
    refine v_puti (pc := 146) hC fp_X2_85 kq_14 (fs_2_5 E _ _ _) (fn_2_5 E _ _) dX2_findSwings_146 h (fun F13 h => ?_)
    refine v_iinc (pc := 149) (v := 1) hC (fun z => [(4, .int z), (0, .ref (ad E 14)), (1, .ref (ad E k1)), (3, .int x3)]) dX2_findSwings_149 3 rfl (by decide) (by decide) (fun _ => rfl) h (fun n14 h => ?_)
    refine v_goto (pc := 152) (tgt := 30) hC dX2_findSwings_152 (by decide) ?_
    exact v_sub [1, 2, 3, 0] rfl (hK30 _ _ h)
set_option maxRecDepth 20000 in
set_option maxHeartbeats 4000000 in
theorem jb_X2_findSwings_43 {p : Program} {l : Launch} {e : Env} {s : State} {m : MethodId} {args : Array Value} {below : List Frame} {meth : Method} {c : Code} {E : gE} (hC : CX p s m args meth c cX2_findSwings RX2 none E 6) {k1 : Nat} (hk1 : kd k1 = 1) {k2 : Nat} (hk2 : kd k2 = 7) {Q : gS → Prop} {F : gS} {x3 : Int32} {x4 : Int32} {x5 : Int32} {K30 : gS → Int32 → Prop} (hK30 : ∀ (F : gS) (x4 : Int32), K30 F x4 → VV p l e rm_X2_findSwings s m args below meth c 0 0 (MQ below (va_Qv Q (gB E) (gA E)) args s 0 0 (gA E)) E 6 F 30 [(0, .ref (ad E 14)), (1, .ref (ad E k1)), (3, .int x3), (4, .int x4)] []) {K43 : gS → Int32 → Prop} (hK43 : ∀ (F : gS) (x5 : Int32), K43 F x5 → VV p l e rm_X2_findSwings s m args below meth c 0 0 (MQ below (va_Qv Q (gB E) (gA E)) args s 0 0 (gA E)) E 6 F 43 [(0, .ref (ad E 14)), (1, .ref (ad E k1)), (3, .int x3), (4, .int x4), (5, .int x5)] []) (h : wb_X2_findSwings_43 k1 k2 K30 Q x3 x4 K43 F x5) : VV p l e rm_X2_findSwings s m args below meth c 0 0 (MQ below (va_Qv Q (gB E) (gA E)) args s 0 0 (gA E)) E 6 F 43 [(0, .ref (ad E 14)), (1, .ref (ad E k1)), (3, .int x3), (4, .int x4), (5, .int x5)] [] := by
  unfold wb_X2_findSwings_43 at h
  refine v_iload (pc := 43) hC dX2_findSwings_43 4 rfl ?_
  refine v_aload_n (pc := 45) hC dX2_findSwings_45 rfl 0 rfl ?_
  refine v_get (pc := 46) (v := .ref (ad E 24)) hC fl_X2_38 kq_14 rfl dX2_findSwings_46 ?_
  refine v_get (pc := 49) (v := .int (F 24 5)) hC fl_X2_98 kq_24 rfl dX2_findSwings_49 ?_
  refine v_ic_ge (pc := 52) (tgt := 79) hC dX2_findSwings_52 (by decide) h (fun h => ?_) (fun h => ?_)
  · skip
    exact v_sub [0, 1, 2, 3] rfl (j_X2_findSwings_79 hC hk1 hk2 hK30 h)
  · skip
    refine v_aload_n (pc := 55) hC dX2_findSwings_55 rfl 0 rfl ?_
    refine v_get (pc := 56) (v := .ref (ad E 24)) hC fl_X2_38 kq_14 rfl dX2_findSwings_56 ?_
    refine v_get (pc := 59) (v := .ref (ad E 25)) hC fl_X2_101 kq_24 rfl dX2_findSwings_59 ?_
    refine v_iload (pc := 62) hC dX2_findSwings_62 4 rfl ?_
    refine v_iload (pc := 64) hC dX2_findSwings_64 3 rfl ?_
    refine v_iload_n (pc := 66) hC dX2_findSwings_66 rfl 2 rfl ?_
    refine v_iload (pc := 67) hC dX2_findSwings_67 4 rfl ?_
    refine v_cip (pc := 69) (r_S (rest := [.int x5, .ref (ad E 25)]) hC ml_X2_104 ms_X2_swingOf (c_X2_swingOf l E h) ⟨rfl, rfl⟩ ⟨Nat.le_of_ble_eq_true rfl, Nat.le_of_ble_eq_true rfl⟩ rfl rfl (Nat.le_of_ble_eq_true rfl) ⟨Nat.zero_le _, Nat.zero_le _⟩ dX2_findSwings_69) (fun r4 h => ?_)
    refine v_iast (pc := 72) (n := 6) hC kq_25 (by decide) dX2_findSwings_72 h (fun F5 h => ?_)
    refine v_iinc (pc := 73) (v := 1) hC (fun z => [(5, .int z), (0, .ref (ad E 14)), (1, .ref (ad E k1)), (3, .int x3), (4, .int x4)]) dX2_findSwings_73 4 rfl (by decide) (by decide) (fun _ => rfl) h (fun n6 h => ?_)
    refine v_goto (pc := 76) (tgt := 43) hC dX2_findSwings_76 (by decide) ?_
    exact v_sub [1, 2, 3, 4, 0] rfl (hK43 _ _ h)
set_option maxRecDepth 20000 in
set_option maxHeartbeats 4000000 in
theorem jl_X2_findSwings_43 {p : Program} {l : Launch} {e : Env} {s : State} {m : MethodId} {args : Array Value} {below : List Frame} {meth : Method} {c : Code} {E : gE} (hC : CX p s m args meth c cX2_findSwings RX2 none E 6) {k1 : Nat} (hk1 : kd k1 = 1) {k2 : Nat} (hk2 : kd k2 = 7) {Q : gS → Prop} {F : gS} {x3 : Int32} {x4 : Int32} {x5 : Int32} {K30 : gS → Int32 → Prop} (hK30 : ∀ (F : gS) (x4 : Int32), K30 F x4 → VV p l e rm_X2_findSwings s m args below meth c 0 0 (MQ below (va_Qv Q (gB E) (gA E)) args s 0 0 (gA E)) E 6 F 30 [(0, .ref (ad E 14)), (1, .ref (ad E k1)), (3, .int x3), (4, .int x4)] []) (h : LP2 (wb_X2_findSwings_43 k1 k2 K30 Q x3 x4) F x5) : VV p l e rm_X2_findSwings s m args below meth c 0 0 (MQ below (va_Qv Q (gB E) (gA E)) args s 0 0 (gA E)) E 6 F 43 [(0, .ref (ad E 14)), (1, .ref (ad E k1)), (3, .int x3), (4, .int x4), (5, .int x5)] [] :=
  LP2_go (V := fun (F : gS) (x5 : Int32) => VV p l e rm_X2_findSwings s m args below meth c 0 0 (MQ below (va_Qv Q (gB E) (gA E)) args s 0 0 (gA E)) E 6 F 43 [(0, .ref (ad E 14)), (1, .ref (ad E k1)), (3, .int x3), (4, .int x4), (5, .int x5)] []) (fun K43 hK43 F x5 h => jb_X2_findSwings_43 hC hk1 hk2 hK30 hK43 h) F x5 h
set_option maxRecDepth 20000 in
set_option maxHeartbeats 4000000 in
theorem jb_X2_findSwings_30 {p : Program} {l : Launch} {e : Env} {s : State} {m : MethodId} {args : Array Value} {below : List Frame} {meth : Method} {c : Code} {E : gE} (hC : CX p s m args meth c cX2_findSwings RX2 none E 6) {k1 : Nat} (hk1 : kd k1 = 1) {k2 : Nat} (hk2 : kd k2 = 7) {Q : gS → Prop} {F : gS} {x3 : Int32} {x4 : Int32} {K30 : gS → Int32 → Prop} (hK30 : ∀ (F : gS) (x4 : Int32), K30 F x4 → VV p l e rm_X2_findSwings s m args below meth c 0 0 (MQ below (va_Qv Q (gB E) (gA E)) args s 0 0 (gA E)) E 6 F 30 [(0, .ref (ad E 14)), (1, .ref (ad E k1)), (3, .int x3), (4, .int x4)] []) (h : wb_X2_findSwings_30 k1 k2 Q x3 K30 F x4) : VV p l e rm_X2_findSwings s m args below meth c 0 0 (MQ below (va_Qv Q (gB E) (gA E)) args s 0 0 (gA E)) E 6 F 30 [(0, .ref (ad E 14)), (1, .ref (ad E k1)), (3, .int x3), (4, .int x4)] [] := by
  unfold wb_X2_findSwings_30 at h
  refine v_iload (pc := 30) hC dX2_findSwings_30 3 rfl ?_
  refine v_iconst (pc := 32) (v := 1) hC dX2_findSwings_32 (by decide) ?_
  refine v_iconst (pc := 33) (v := 2) hC dX2_findSwings_33 (by decide) ?_
  refine v_iload_n (pc := 34) hC dX2_findSwings_34 rfl 2 rfl ?_
  refine v_imul (pc := 35) hC dX2_findSwings_35 ?_
  refine v_ishl (pc := 36) hC dX2_findSwings_36 ?_
  refine v_ic_ge (pc := 37) (tgt := 155) hC dX2_findSwings_37 (by decide) h (fun h => ?_) (fun h => ?_)
  · skip
    exact v_vret (pc := 155) hC dX2_findSwings_155 h
  · skip
    refine v_iconst (pc := 40) (v := 0) hC dX2_findSwings_40 (by decide) ?_
    refine v_istore (pc := 41) (lv' := [(5, .int 0), (0, .ref (ad E 14)), (1, .ref (ad E k1)), (3, .int x3), (4, .int x4)]) hC dX2_findSwings_41 (by decide) rfl ?_
    exact v_sub [1, 2, 3, 4, 0] rfl (jl_X2_findSwings_43 hC hk1 hk2 hK30 h)
set_option maxRecDepth 20000 in
set_option maxHeartbeats 4000000 in
theorem jl_X2_findSwings_30 {p : Program} {l : Launch} {e : Env} {s : State} {m : MethodId} {args : Array Value} {below : List Frame} {meth : Method} {c : Code} {E : gE} (hC : CX p s m args meth c cX2_findSwings RX2 none E 6) {k1 : Nat} (hk1 : kd k1 = 1) {k2 : Nat} (hk2 : kd k2 = 7) {Q : gS → Prop} {F : gS} {x3 : Int32} {x4 : Int32} (h : LP2 (wb_X2_findSwings_30 k1 k2 Q x3) F x4) : VV p l e rm_X2_findSwings s m args below meth c 0 0 (MQ below (va_Qv Q (gB E) (gA E)) args s 0 0 (gA E)) E 6 F 30 [(0, .ref (ad E 14)), (1, .ref (ad E k1)), (3, .int x3), (4, .int x4)] [] :=
  LP2_go (V := fun (F : gS) (x4 : Int32) => VV p l e rm_X2_findSwings s m args below meth c 0 0 (MQ below (va_Qv Q (gB E) (gA E)) args s 0 0 (gA E)) E 6 F 30 [(0, .ref (ad E 14)), (1, .ref (ad E k1)), (3, .int x3), (4, .int x4)] []) (fun K30 hK30 F x4 h => jb_X2_findSwings_30 hC hk1 hk2 hK30 h) F x4 h
set_option maxRecDepth 20000 in
set_option maxHeartbeats 4000000 in
theorem c_X2_findSwings (l : Launch) (E : gE) {k1 : Nat} (hk1 : kd k1 = 1) {k2 : Nat} (hk2 : kd k2 = 7) {x3 : Int32} {F : gS} {Q : gS → Prop} (h : wp_X2_findSwings k1 k2 x3 F Q) : CtV l E yX2_findSwings cX2_findSwings 6 none rm_X2_findSwings [.ref (ad E 14), .ref (ad E k1), .ref (ad E k2), .int x3] F Q := by
  refine ct_of (by decide) (Nat.le_of_ble_eq_true rfl) (fun p e s m below meth c hC => ?_)
  generalize ([.ref (ad E 14), .ref (ad E k1), .ref (ad E k2), .int x3] : List Value).toArray = args at hC ⊢
  refine v_sub (lv' := [(0, .ref (ad E 14)), (1, .ref (ad E k1)), (2, .ref (ad E k2)), (3, .int x3)]) [0, 1, 2, 3] rfl ?_
  unfold wp_X2_findSwings at h
  refine v_aload_n (pc := 0) hC dX2_findSwings_0 rfl 0 rfl ?_
  refine v_get (pc := 1) (v := .ref (ad E 24)) hC fl_X2_38 kq_14 rfl dX2_findSwings_1 ?_
  refine v_aload_n (pc := 4) hC dX2_findSwings_4 rfl 2 rfl ?_
  refine v_cv (pc := 5) (r_V (rest := []) hC ml_X2_72 mv_X7_become_ (c_X7_become_ l E kq_24 hk2 h) ⟨rfl, rfl⟩ ⟨Nat.le_of_ble_eq_true rfl, Nat.le_of_ble_eq_true rfl⟩ kq_24 rfl (by decide) rfl rfl (Nat.le_of_ble_eq_true rfl) ⟨Nat.zero_le _, Nat.zero_le _⟩ dX2_findSwings_5) (fun F1 h => ?_)
  refine v_aload_n (pc := 8) hC dX2_findSwings_8 rfl 0 rfl ?_
  refine v_get (pc := 9) (v := .ref (ad E 24)) hC fl_X2_38 kq_14 rfl dX2_findSwings_9 ?_
  refine v_iload_n (pc := 12) hC dX2_findSwings_12 rfl 3 rfl ?_
  refine v_bipush (pc := 13) (v := 6) hC dX2_findSwings_13 (by decide) ?_
  refine v_min (pc := 15) hC mmin_X2_92 mmin_s in_Math mmin_c ⟨Nat.le_of_ble_eq_true rfl, Nat.le_of_ble_eq_true rfl⟩ ⟨Nat.zero_le _, Nat.zero_le _⟩ dX2_findSwings_15 ?_
  refine v_puti (pc := 18) hC fp_X2_98 kq_24 (fs_7_5 E _ _ _) (fn_7_5 E _ _) dX2_findSwings_18 h (fun F2 h => ?_)
  refine v_aload_n (pc := 21) hC dX2_findSwings_21 rfl 0 rfl ?_
  refine v_bipush (pc := 22) (v := 61) hC dX2_findSwings_22 (by decide) ?_
  refine v_puti (pc := 24) hC fp_X2_75 kq_14 (fs_2_7 E _ _ _) (fn_2_7 E _ _) dX2_findSwings_24 h (fun F3 h => ?_)
  refine v_iconst (pc := 27) (v := 0) hC dX2_findSwings_27 (by decide) ?_
  refine v_istore (pc := 28) (lv' := [(4, .int 0), (0, .ref (ad E 14)), (1, .ref (ad E k1)), (2, .ref (ad E k2)), (3, .int x3)]) hC dX2_findSwings_28 (by decide) rfl ?_
  exact v_sub [1, 2, 4, 0] rfl (jl_X2_findSwings_30 hC hk1 hk2 h)
def rm_X2_findTwo : Room := { frames := 6, cells := 0, slots := 0, locals := 147 }
def wb_X2_findTwo_56 (k1 : Nat) (K8 : gS → Int32 → Prop) (Q : gS → Prop) (x3 : Int32) (x4 : Int32) (x5 : Int32) (K56 : gS → Int32 → Prop) (F : gS) (x6 : Int32) : Prop :=
  if x3 ≤ x6 then
    (Nm (x4 + 1) fun n6 =>
    K8 F n6)
  else
    (vp_in x6 6 ∧
    wp_X2_next 18 (37 + 2 * x6.toNatClampNeg) F fun F8 =>
    vp_in 6 7 ∧
    Nm (x5 + (F8 23 (6 : Int32).toNatClampNeg)) fun n9 =>
    if n9 ≤ (F8 14 7) then
      (Nm (x6 + 1) fun n10 =>
      K56 F8 n10)
    else
      (Nm (upF F8 14 7 n9) fun F11 =>
      Nm (upF F11 14 5 x4) fun F12 =>
      Nm (upF F12 14 6 x6) fun F13 =>
      Nm (x6 + 1) fun n14 =>
      K56 F13 n14))
def wb_X2_findTwo_8 (k1 : Nat) (Q : gS → Prop) (x3 : Int32) (K8 : gS → Int32 → Prop) (F : gS) (x4 : Int32) : Prop :=
  if x3 ≤ x4 then
    (Q F)
  else
    (wp_X1_become 18 k1 F fun F2 =>
    vp_in x4 6 ∧
    wp_X5_bake 18 (37 + 2 * x4.toNatClampNeg) 21 F2 fun F4 =>
    vp_in 6 7 ∧
    Nm (F4 23 (6 : Int32).toNatClampNeg) fun n5 =>
    LP2 (wb_X2_findTwo_56 k1 K8 Q x3 x4 n5) F4 0)
def wp_X2_findTwo (k1 : Nat) (x3 : Int32) (F : gS) (Q : gS → Prop) : Prop :=
  Nm (upF F 14 7 (-1)) fun F1 =>
  LP2 (wb_X2_findTwo_8 k1 Q x3) F1 0
set_option maxRecDepth 20000 in
set_option maxHeartbeats 4000000 in
theorem jb_X2_findTwo_56 {p : Program} {l : Launch} {e : Env} {s : State} {m : MethodId} {args : Array Value} {below : List Frame} {meth : Method} {c : Code} {E : gE} (hC : CX p s m args meth c cX2_findTwo RX2 none E 8) {k1 : Nat} (hk1 : kd k1 = 1) {Q : gS → Prop} {F : gS} {x3 : Int32} {x4 : Int32} {x5 : Int32} {x6 : Int32} {K8 : gS → Int32 → Prop} (hK8 : ∀ (F : gS) (x4 : Int32), K8 F x4 → VV p l e rm_X2_findTwo s m args below meth c 0 0 (MQ below (va_Qv Q (gB E) (gA E)) args s 0 0 (gA E)) E 8 F 8 [(0, .ref (ad E 14)), (1, .ref (ad E k1)), (2, .ref (ad E 32)), (3, .int x3), (4, .int x4)] []) {K56 : gS → Int32 → Prop} (hK56 : ∀ (F : gS) (x6 : Int32), K56 F x6 → VV p l e rm_X2_findTwo s m args below meth c 0 0 (MQ below (va_Qv Q (gB E) (gA E)) args s 0 0 (gA E)) E 8 F 56 [(0, .ref (ad E 14)), (1, .ref (ad E k1)), (2, .ref (ad E 32)), (3, .int x3), (4, .int x4), (5, .int x5), (6, .int x6)] []) (h : wb_X2_findTwo_56 k1 K8 Q x3 x4 x5 K56 F x6) : VV p l e rm_X2_findTwo s m args below meth c 0 0 (MQ below (va_Qv Q (gB E) (gA E)) args s 0 0 (gA E)) E 8 F 56 [(0, .ref (ad E 14)), (1, .ref (ad E k1)), (2, .ref (ad E 32)), (3, .int x3), (4, .int x4), (5, .int x5), (6, .int x6)] [] := by
  unfold wb_X2_findTwo_56 at h
  refine v_iload (pc := 56) hC dX2_findTwo_56 6 rfl ?_
  refine v_iload_n (pc := 58) hC dX2_findTwo_58 rfl 3 rfl ?_
  refine v_ic_ge (pc := 59) (tgt := 118) hC dX2_findTwo_59 (by decide) h (fun h => ?_) (fun h => ?_)
  · skip
    refine v_iinc (pc := 118) (v := 1) hC (fun z => [(4, .int z), (0, .ref (ad E 14)), (1, .ref (ad E k1)), (2, .ref (ad E 32)), (3, .int x3), (5, .int x5), (6, .int x6)]) dX2_findTwo_118 4 rfl (by decide) (by decide) (fun _ => rfl) h (fun n6 h => ?_)
    refine v_goto (pc := 121) (tgt := 8) hC dX2_findTwo_121 (by decide) ?_
    exact v_sub [1, 2, 3, 4, 0] rfl (hK8 _ _ h)
  · skip
    refine v_iload (pc := 62) hC dX2_findTwo_62 5 rfl ?_
    refine v_aload_n (pc := 64) hC dX2_findTwo_64 rfl 0 rfl ?_
    refine v_aload_n (pc := 65) hC dX2_findTwo_65 rfl 0 rfl ?_
    refine v_get (pc := 66) (v := .ref (ad E 18)) hC fl_X2_25 kq_14 rfl dX2_findTwo_66 ?_
    refine v_aload_n (pc := 69) hC dX2_findTwo_69 rfl 2 rfl ?_
    refine v_iload (pc := 70) hC dX2_findTwo_70 6 rfl ?_
    have g7 := in_lt h.1
    refine v_aaldP (pc := 72) hC dX2_findTwo_72 h (fun h => ?_)
    refine v_cr (pc := 73) (r_V (rest := [.int x5]) hC ml_X2_54 mv_X2_next (c_X2_next l E kq_18 (kd_pl _ g7) h) ⟨rfl, rfl⟩ ⟨Nat.le_of_ble_eq_true rfl, Nat.le_of_ble_eq_true rfl⟩ kq_14 rfl (by decide) rfl rfl (Nat.le_of_ble_eq_true rfl) ⟨Nat.zero_le _, Nat.zero_le _⟩ dX2_findTwo_73) (fun F8 h => ?_)
    refine v_get (pc := 76) (v := .ref (ad E 23)) hC fl_X2_88 kq_21 rfl dX2_findTwo_76 ?_
    refine v_bipush (pc := 79) (v := 6) hC dX2_findTwo_79 (by decide) ?_
    refine v_iald (pc := 81) (n := 7) hC kq_23 (by decide) dX2_findTwo_81 h (fun h => ?_)
    refine v_iadd (pc := 82) hC dX2_findTwo_82 ?_
    refine v_nmi h (fun n9 h => ?_)
    refine v_istore (pc := 83) (lv' := [(7, .int n9), (0, .ref (ad E 14)), (1, .ref (ad E k1)), (2, .ref (ad E 32)), (3, .int x3), (4, .int x4), (5, .int x5), (6, .int x6)]) hC dX2_findTwo_83 (by decide) rfl ?_
    refine v_iload (pc := 85) hC dX2_findTwo_85 0 rfl ?_
    refine v_aload_n (pc := 87) hC dX2_findTwo_87 rfl 1 rfl ?_
    refine v_get (pc := 88) (v := .int (F8 14 7)) hC fl_X2_75 kq_14 rfl dX2_findTwo_88 ?_
    refine v_ic_le (pc := 91) (tgt := 112) hC dX2_findTwo_91 (by decide) h (fun h => ?_) (fun h => ?_)
    · skip
      refine v_iinc (pc := 112) (v := 1) hC (fun z => [(6, .int z), (7, .int n9), (0, .ref (ad E 14)), (1, .ref (ad E k1)), (2, .ref (ad E 32)), (3, .int x3), (4, .int x4), (5, .int x5)]) dX2_findTwo_112 7 rfl (by decide) (by decide) (fun _ => rfl) h (fun n10 h => ?_)
      refine v_goto (pc := 115) (tgt := 56) hC dX2_findTwo_115 (by decide) ?_
      exact v_sub [2, 3, 4, 5, 6, 7, 0] rfl (hK56 _ _ h)
    · skip
      refine v_aload_n (pc := 94) hC dX2_findTwo_94 rfl 1 rfl ?_
      refine v_iload (pc := 95) hC dX2_findTwo_95 0 rfl ?_
      refine v_puti (pc := 97) hC fp_X2_75 kq_14 (fs_2_7 E _ _ _) (fn_2_7 E _ _) dX2_findTwo_97 h (fun F11 h => ?_)
      refine v_aload_n (pc := 100) hC dX2_findTwo_100 rfl 1 rfl ?_
      refine v_iload (pc := 101) hC dX2_findTwo_101 5 rfl ?_
      refine v_puti (pc := 103) hC fp_X2_85 kq_14 (fs_2_5 E _ _ _) (fn_2_5 E _ _) dX2_findTwo_103 h (fun F12 h => ?_)
      refine v_aload_n (pc := 106) hC dX2_findTwo_106 rfl 1 rfl ?_
      refine v_iload (pc := 107) hC dX2_findTwo_107 7 rfl ?_
      refine v_puti (pc := 109) hC fp_X2_115 kq_14 (fs_2_6 E _ _ _) (fn_2_6 E _ _) dX2_findTwo_109 h (fun F13 h => ?_)
      refine v_iinc (pc := 112) (v := 1) hC (fun z => [(6, .int z), (7, .int n9), (0, .ref (ad E 14)), (1, .ref (ad E k1)), (2, .ref (ad E 32)), (3, .int x3), (4, .int x4), (5, .int x5)]) dX2_findTwo_112 7 rfl (by decide) (by decide) (fun _ => rfl) h (fun n14 h => ?_)
      refine v_goto (pc := 115) (tgt := 56) hC dX2_findTwo_115 (by decide) ?_
      exact v_sub [2, 3, 4, 5, 6, 7, 0] rfl (hK56 _ _ h)
set_option maxRecDepth 20000 in
set_option maxHeartbeats 4000000 in
theorem jl_X2_findTwo_56 {p : Program} {l : Launch} {e : Env} {s : State} {m : MethodId} {args : Array Value} {below : List Frame} {meth : Method} {c : Code} {E : gE} (hC : CX p s m args meth c cX2_findTwo RX2 none E 8) {k1 : Nat} (hk1 : kd k1 = 1) {Q : gS → Prop} {F : gS} {x3 : Int32} {x4 : Int32} {x5 : Int32} {x6 : Int32} {K8 : gS → Int32 → Prop} (hK8 : ∀ (F : gS) (x4 : Int32), K8 F x4 → VV p l e rm_X2_findTwo s m args below meth c 0 0 (MQ below (va_Qv Q (gB E) (gA E)) args s 0 0 (gA E)) E 8 F 8 [(0, .ref (ad E 14)), (1, .ref (ad E k1)), (2, .ref (ad E 32)), (3, .int x3), (4, .int x4)] []) (h : LP2 (wb_X2_findTwo_56 k1 K8 Q x3 x4 x5) F x6) : VV p l e rm_X2_findTwo s m args below meth c 0 0 (MQ below (va_Qv Q (gB E) (gA E)) args s 0 0 (gA E)) E 8 F 56 [(0, .ref (ad E 14)), (1, .ref (ad E k1)), (2, .ref (ad E 32)), (3, .int x3), (4, .int x4), (5, .int x5), (6, .int x6)] [] :=
  LP2_go (V := fun (F : gS) (x6 : Int32) => VV p l e rm_X2_findTwo s m args below meth c 0 0 (MQ below (va_Qv Q (gB E) (gA E)) args s 0 0 (gA E)) E 8 F 56 [(0, .ref (ad E 14)), (1, .ref (ad E k1)), (2, .ref (ad E 32)), (3, .int x3), (4, .int x4), (5, .int x5), (6, .int x6)] []) (fun K56 hK56 F x6 h => jb_X2_findTwo_56 hC hk1 hK8 hK56 h) F x6 h
set_option maxRecDepth 20000 in
set_option maxHeartbeats 4000000 in
theorem jb_X2_findTwo_8 {p : Program} {l : Launch} {e : Env} {s : State} {m : MethodId} {args : Array Value} {below : List Frame} {meth : Method} {c : Code} {E : gE} (hC : CX p s m args meth c cX2_findTwo RX2 none E 8) {k1 : Nat} (hk1 : kd k1 = 1) {Q : gS → Prop} {F : gS} {x3 : Int32} {x4 : Int32} {K8 : gS → Int32 → Prop} (hK8 : ∀ (F : gS) (x4 : Int32), K8 F x4 → VV p l e rm_X2_findTwo s m args below meth c 0 0 (MQ below (va_Qv Q (gB E) (gA E)) args s 0 0 (gA E)) E 8 F 8 [(0, .ref (ad E 14)), (1, .ref (ad E k1)), (2, .ref (ad E 32)), (3, .int x3), (4, .int x4)] []) (h : wb_X2_findTwo_8 k1 Q x3 K8 F x4) : VV p l e rm_X2_findTwo s m args below meth c 0 0 (MQ below (va_Qv Q (gB E) (gA E)) args s 0 0 (gA E)) E 8 F 8 [(0, .ref (ad E 14)), (1, .ref (ad E k1)), (2, .ref (ad E 32)), (3, .int x3), (4, .int x4)] [] := by
  unfold wb_X2_findTwo_8 at h
  refine v_iload (pc := 8) hC dX2_findTwo_8 4 rfl ?_
  refine v_iload_n (pc := 10) hC dX2_findTwo_10 rfl 3 rfl ?_
  refine v_ic_ge (pc := 11) (tgt := 124) hC dX2_findTwo_11 (by decide) h (fun h => ?_) (fun h => ?_)
  · skip
    exact v_vret (pc := 124) hC dX2_findTwo_124 h
  · skip
    refine v_aload_n (pc := 14) hC dX2_findTwo_14 rfl 0 rfl ?_
    refine v_get (pc := 15) (v := .ref (ad E 18)) hC fl_X2_25 kq_14 rfl dX2_findTwo_15 ?_
    refine v_aload_n (pc := 18) hC dX2_findTwo_18 rfl 1 rfl ?_
    refine v_cv (pc := 19) (r_V (rest := []) hC ml_X2_42 mv_X1_become (c_X1_become l E kq_18 hk1 h) ⟨rfl, rfl⟩ ⟨Nat.le_of_ble_eq_true rfl, Nat.le_of_ble_eq_true rfl⟩ kq_18 rfl (by decide) rfl rfl (Nat.le_of_ble_eq_true rfl) ⟨Nat.zero_le _, Nat.zero_le _⟩ dX2_findTwo_19) (fun F2 h => ?_)
    refine v_aload_n (pc := 22) hC dX2_findTwo_22 rfl 0 rfl ?_
    refine v_get (pc := 23) (v := .ref (ad E 9)) hC fl_X2_12 kq_14 rfl dX2_findTwo_23 ?_
    refine v_aload_n (pc := 26) hC dX2_findTwo_26 rfl 0 rfl ?_
    refine v_get (pc := 27) (v := .ref (ad E 18)) hC fl_X2_25 kq_14 rfl dX2_findTwo_27 ?_
    refine v_aload_n (pc := 30) hC dX2_findTwo_30 rfl 2 rfl ?_
    refine v_iload (pc := 31) hC dX2_findTwo_31 4 rfl ?_
    have g3 := in_lt h.1
    refine v_aaldP (pc := 33) hC dX2_findTwo_33 h (fun h => ?_)
    refine v_aload_n (pc := 34) hC dX2_findTwo_34 rfl 0 rfl ?_
    refine v_get (pc := 35) (v := .ref (ad E 21)) hC fl_X2_31 kq_14 rfl dX2_findTwo_35 ?_
    refine v_cv (pc := 38) (r_V (rest := []) hC ml_X2_46 mv_X5_bake (c_X5_bake l E kq_18 (kd_pl _ g3) kq_21 h) ⟨rfl, rfl⟩ ⟨Nat.le_of_ble_eq_true rfl, Nat.le_of_ble_eq_true rfl⟩ kq_9 rfl (by decide) rfl rfl (Nat.le_of_ble_eq_true rfl) ⟨Nat.zero_le _, Nat.zero_le _⟩ dX2_findTwo_38) (fun F4 h => ?_)
    refine v_aload_n (pc := 41) hC dX2_findTwo_41 rfl 0 rfl ?_
    refine v_get (pc := 42) (v := .ref (ad E 21)) hC fl_X2_31 kq_14 rfl dX2_findTwo_42 ?_
    refine v_get (pc := 45) (v := .ref (ad E 23)) hC fl_X2_88 kq_21 rfl dX2_findTwo_45 ?_
    refine v_bipush (pc := 48) (v := 6) hC dX2_findTwo_48 (by decide) ?_
    refine v_iald (pc := 50) (n := 7) hC kq_23 (by decide) dX2_findTwo_50 h (fun h => ?_)
    refine v_nmi h (fun n5 h => ?_)
    refine v_istore (pc := 51) (lv' := [(5, .int n5), (0, .ref (ad E 14)), (1, .ref (ad E k1)), (2, .ref (ad E 32)), (3, .int x3), (4, .int x4)]) hC dX2_findTwo_51 (by decide) rfl ?_
    refine v_iconst (pc := 53) (v := 0) hC dX2_findTwo_53 (by decide) ?_
    refine v_istore (pc := 54) (lv' := [(6, .int 0), (5, .int n5), (0, .ref (ad E 14)), (1, .ref (ad E k1)), (2, .ref (ad E 32)), (3, .int x3), (4, .int x4)]) hC dX2_findTwo_54 (by decide) rfl ?_
    exact v_sub [2, 3, 4, 5, 6, 1, 0] rfl (jl_X2_findTwo_56 hC hk1 hK8 h)
set_option maxRecDepth 20000 in
set_option maxHeartbeats 4000000 in
theorem jl_X2_findTwo_8 {p : Program} {l : Launch} {e : Env} {s : State} {m : MethodId} {args : Array Value} {below : List Frame} {meth : Method} {c : Code} {E : gE} (hC : CX p s m args meth c cX2_findTwo RX2 none E 8) {k1 : Nat} (hk1 : kd k1 = 1) {Q : gS → Prop} {F : gS} {x3 : Int32} {x4 : Int32} (h : LP2 (wb_X2_findTwo_8 k1 Q x3) F x4) : VV p l e rm_X2_findTwo s m args below meth c 0 0 (MQ below (va_Qv Q (gB E) (gA E)) args s 0 0 (gA E)) E 8 F 8 [(0, .ref (ad E 14)), (1, .ref (ad E k1)), (2, .ref (ad E 32)), (3, .int x3), (4, .int x4)] [] :=
  LP2_go (V := fun (F : gS) (x4 : Int32) => VV p l e rm_X2_findTwo s m args below meth c 0 0 (MQ below (va_Qv Q (gB E) (gA E)) args s 0 0 (gA E)) E 8 F 8 [(0, .ref (ad E 14)), (1, .ref (ad E k1)), (2, .ref (ad E 32)), (3, .int x3), (4, .int x4)] []) (fun K8 hK8 F x4 h => jb_X2_findTwo_8 hC hk1 hK8 h) F x4 h
set_option maxRecDepth 20000 in
set_option maxHeartbeats 4000000 in
theorem c_X2_findTwo (l : Launch) (E : gE) {k1 : Nat} (hk1 : kd k1 = 1) {x3 : Int32} {F : gS} {Q : gS → Prop} (h : wp_X2_findTwo k1 x3 F Q) : CtV l E yX2_findTwo cX2_findTwo 8 none rm_X2_findTwo [.ref (ad E 14), .ref (ad E k1), .ref (ad E 32), .int x3] F Q := by
  refine ct_of (by decide) (Nat.le_of_ble_eq_true rfl) (fun p e s m below meth c hC => ?_)
  generalize ([.ref (ad E 14), .ref (ad E k1), .ref (ad E 32), .int x3] : List Value).toArray = args at hC ⊢
  refine v_sub (lv' := [(0, .ref (ad E 14)), (1, .ref (ad E k1)), (2, .ref (ad E 32)), (3, .int x3)]) [0, 1, 2, 3] rfl ?_
  unfold wp_X2_findTwo at h
  refine v_aload_n (pc := 0) hC dX2_findTwo_0 rfl 0 rfl ?_
  refine v_iconst (pc := 1) (v := (-1)) hC dX2_findTwo_1 (by decide) ?_
  refine v_puti (pc := 2) hC fp_X2_75 kq_14 (fs_2_7 E _ _ _) (fn_2_7 E _ _) dX2_findTwo_2 h (fun F1 h => ?_)
  refine v_iconst (pc := 5) (v := 0) hC dX2_findTwo_5 (by decide) ?_
  refine v_istore (pc := 6) (lv' := [(4, .int 0), (0, .ref (ad E 14)), (1, .ref (ad E k1)), (2, .ref (ad E 32)), (3, .int x3)]) hC dX2_findTwo_6 (by decide) rfl ?_
  exact v_sub [1, 2, 3, 4, 0] rfl (jl_X2_findTwo_8 hC hk1 h)
