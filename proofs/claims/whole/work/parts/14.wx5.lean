def rm_X11_mixed : Room := { frames := 0, cells := 0, slots := 0, locals := 0 }
def wp_X11_mixed (x0 : Int64) (x2 : Int64) (F : gS) (Q : Int64 → Prop) : Prop :=
  Q (((31 : Int64) * x0) + x2)
set_option maxRecDepth 20000 in
set_option maxHeartbeats 4000000 in
theorem c_X11_mixed (l : Launch) (E : gE) {x0 : Int64} {x2 : Int64} {F : gS} {Q : Int64 → Prop} (h : wp_X11_mixed x0 x2 F Q) : CtL l E yX11_mixed cX11_mixed 4 (some .long) rm_X11_mixed [.long x0, .long x2] F (fun r G => G = F ∧ Q r) := by
  refine ct_of (by decide) (Nat.le_of_ble_eq_true rfl) (fun p e s m below meth c hC => ?_)
  generalize ([.long x0, .long x2] : List Value).toArray = args at hC ⊢
  refine v_sub (lv' := [(0, .long x0), (2, .long x2)]) [0, 1] rfl ?_
  unfold wp_X11_mixed at h
  refine v_ldc2 (pc := 0) hC kc_X11_301 dX11_mixed_0 ?_
  refine v_lload_n (pc := 3) hC dX11_mixed_3 rfl 0 rfl ?_
  refine v_lmul (pc := 4) hC dX11_mixed_4 ?_
  refine v_lload_n (pc := 5) hC dX11_mixed_5 rfl 1 rfl ?_
  refine v_ladd (pc := 6) hC dX11_mixed_6 ?_
  exact v_lret (pc := 7) hC dX11_mixed_7 ⟨rfl, h⟩
def rm_X11_hasPan : Room := { frames := 0, cells := 0, slots := 0, locals := 0 }
def wp_X11_hasPan (F : gS) (Q : Int32 → Prop) : Prop :=
  if (F 9 2) ≤ 0 then
    (Q 0)
  else
    (Q 1)
set_option maxRecDepth 20000 in
set_option maxHeartbeats 4000000 in
theorem c_X11_hasPan (l : Launch) (E : gE) {F : gS} {Q : Int32 → Prop} (h : wp_X11_hasPan F Q) : CtI l E yX11_hasPan cX11_hasPan 1 (some .boolean) rm_X11_hasPan [.ref (ad E 0)] F (fun r G => (r = 0 ∨ r = 1) ∧ G = F ∧ Q r) := by
  refine ct_of (by decide) (Nat.le_of_ble_eq_true rfl) (fun p e s m below meth c hC => ?_)
  generalize ([.ref (ad E 0)] : List Value).toArray = args at hC ⊢
  refine v_sub (lv' := [(0, .ref (ad E 0))]) [0] rfl ?_
  unfold wp_X11_hasPan at h
  refine v_aload_n (pc := 0) hC dX11_hasPan_0 rfl 0 rfl ?_
  refine v_get (pc := 1) (v := .ref (ad E 9)) hC fl_X11_41 kq_0 rfl dX11_hasPan_1 ?_
  refine v_get (pc := 4) (v := .int (F 9 2)) hC fl_X11_116 kq_9 rfl dX11_hasPan_4 ?_
  refine v_if_le (pc := 7) (tgt := 14) hC dX11_hasPan_7 (by decide) h (fun h => ?_) (fun h => ?_)
  · skip
    refine v_iconst (pc := 14) (v := 0) hC dX11_hasPan_14 (by decide) ?_
    exact v_zret (pc := 15) hC dX11_hasPan_15 (Or.inl rfl) ⟨Or.inl rfl, rfl, h⟩
  · skip
    refine v_iconst (pc := 10) (v := 1) hC dX11_hasPan_10 (by decide) ?_
    refine v_goto (pc := 11) (tgt := 15) hC dX11_hasPan_11 (by decide) ?_
    exact v_zret (pc := 15) hC dX11_hasPan_15 (Or.inr rfl) ⟨Or.inr rfl, rfl, h⟩
def rm_X11_isPlan : Room := { frames := 1, cells := 0, slots := 0, locals := 22 }
def wp_X11_isPlan (x1 : Int32) (F : gS) (Q : Int32 → Prop) : Prop :=
  wp_X11_within x1 0 ((F 0 10) - 1) F fun r1 =>
  Q r1
set_option maxRecDepth 20000 in
set_option maxHeartbeats 4000000 in
theorem c_X11_isPlan (l : Launch) (E : gE) {x1 : Int32} {F : gS} {Q : Int32 → Prop} (h : wp_X11_isPlan x1 F Q) : CtI l E yX11_isPlan cX11_isPlan 2 (some .boolean) rm_X11_isPlan [.ref (ad E 0), .int x1] F (fun r G => (r = 0 ∨ r = 1) ∧ G = F ∧ Q r) := by
  refine ct_of (by decide) (Nat.le_of_ble_eq_true rfl) (fun p e s m below meth c hC => ?_)
  generalize ([.ref (ad E 0), .int x1] : List Value).toArray = args at hC ⊢
  refine v_sub (lv' := [(0, .ref (ad E 0)), (1, .int x1)]) [0, 1] rfl ?_
  unfold wp_X11_isPlan at h
  refine v_iload_n (pc := 0) hC dX11_isPlan_0 rfl 1 rfl ?_
  refine v_iconst (pc := 1) (v := 0) hC dX11_isPlan_1 (by decide) ?_
  refine v_aload_n (pc := 2) hC dX11_isPlan_2 rfl 0 rfl ?_
  refine v_get (pc := 3) (v := .int (F 0 10)) hC fl_X11_119 kq_0 rfl dX11_isPlan_3 ?_
  refine v_iconst (pc := 6) (v := 1) hC dX11_isPlan_6 (by decide) ?_
  refine v_isub (pc := 7) hC dX11_isPlan_7 ?_
  refine v_cyp (pc := 8) (r_S (rest := []) hC ml_X11_85 ms_X11_within (c_X11_within l E h) ⟨rfl, rfl⟩ ⟨Nat.le_of_ble_eq_true rfl, Nat.le_of_ble_eq_true rfl⟩ rfl rfl (Nat.le_of_ble_eq_true rfl) ⟨Nat.zero_le _, Nat.zero_le _⟩ dX11_isPlan_8) (fun r1 b2 h => ?_)
  exact v_zret (pc := 11) hC dX11_isPlan_11 b2 ⟨b2, rfl, h⟩
def rm_X11_isCell : Room := { frames := 1, cells := 0, slots := 0, locals := 22 }
def wp_X11_isCell (x1 : Int32) (F : gS) (Q : Int32 → Prop) : Prop :=
  wp_X11_within x1 0 ((F 9 2) - 1) F fun r1 =>
  Q r1
set_option maxRecDepth 20000 in
set_option maxHeartbeats 4000000 in
theorem c_X11_isCell (l : Launch) (E : gE) {x1 : Int32} {F : gS} {Q : Int32 → Prop} (h : wp_X11_isCell x1 F Q) : CtI l E yX11_isCell cX11_isCell 2 (some .boolean) rm_X11_isCell [.ref (ad E 0), .int x1] F (fun r G => (r = 0 ∨ r = 1) ∧ G = F ∧ Q r) := by
  refine ct_of (by decide) (Nat.le_of_ble_eq_true rfl) (fun p e s m below meth c hC => ?_)
  generalize ([.ref (ad E 0), .int x1] : List Value).toArray = args at hC ⊢
  refine v_sub (lv' := [(0, .ref (ad E 0)), (1, .int x1)]) [0, 1] rfl ?_
  unfold wp_X11_isCell at h
  refine v_iload_n (pc := 0) hC dX11_isCell_0 rfl 1 rfl ?_
  refine v_iconst (pc := 1) (v := 0) hC dX11_isCell_1 (by decide) ?_
  refine v_aload_n (pc := 2) hC dX11_isCell_2 rfl 0 rfl ?_
  refine v_get (pc := 3) (v := .ref (ad E 9)) hC fl_X11_41 kq_0 rfl dX11_isCell_3 ?_
  refine v_get (pc := 6) (v := .int (F 9 2)) hC fl_X11_116 kq_9 rfl dX11_isCell_6 ?_
  refine v_iconst (pc := 9) (v := 1) hC dX11_isCell_9 (by decide) ?_
  refine v_isub (pc := 10) hC dX11_isCell_10 ?_
  refine v_cyp (pc := 11) (r_S (rest := []) hC ml_X11_85 ms_X11_within (c_X11_within l E h) ⟨rfl, rfl⟩ ⟨Nat.le_of_ble_eq_true rfl, Nat.le_of_ble_eq_true rfl⟩ rfl rfl (Nat.le_of_ble_eq_true rfl) ⟨Nat.zero_le _, Nat.zero_le _⟩ dX11_isCell_11) (fun r1 b2 h => ?_)
  exact v_zret (pc := 14) hC dX11_isCell_14 b2 ⟨b2, rfl, h⟩
def rm_X11_isCake : Room := { frames := 1, cells := 0, slots := 0, locals := 22 }
def wp_X11_isCake (x1 : Int32) (F : gS) (Q : Int32 → Prop) : Prop :=
  wp_X11_within x1 0 ((F 0 11) - 1) F fun r1 =>
  Q r1
set_option maxRecDepth 20000 in
set_option maxHeartbeats 4000000 in
theorem c_X11_isCake (l : Launch) (E : gE) {x1 : Int32} {F : gS} {Q : Int32 → Prop} (h : wp_X11_isCake x1 F Q) : CtI l E yX11_isCake cX11_isCake 2 (some .boolean) rm_X11_isCake [.ref (ad E 0), .int x1] F (fun r G => (r = 0 ∨ r = 1) ∧ G = F ∧ Q r) := by
  refine ct_of (by decide) (Nat.le_of_ble_eq_true rfl) (fun p e s m below meth c hC => ?_)
  generalize ([.ref (ad E 0), .int x1] : List Value).toArray = args at hC ⊢
  refine v_sub (lv' := [(0, .ref (ad E 0)), (1, .int x1)]) [0, 1] rfl ?_
  unfold wp_X11_isCake at h
  refine v_iload_n (pc := 0) hC dX11_isCake_0 rfl 1 rfl ?_
  refine v_iconst (pc := 1) (v := 0) hC dX11_isCake_1 (by decide) ?_
  refine v_aload_n (pc := 2) hC dX11_isCake_2 rfl 0 rfl ?_
  refine v_get (pc := 3) (v := .int (F 0 11)) hC fl_X11_106 kq_0 rfl dX11_isCake_3 ?_
  refine v_iconst (pc := 6) (v := 1) hC dX11_isCake_6 (by decide) ?_
  refine v_isub (pc := 7) hC dX11_isCake_7 ?_
  refine v_cyp (pc := 8) (r_S (rest := []) hC ml_X11_85 ms_X11_within (c_X11_within l E h) ⟨rfl, rfl⟩ ⟨Nat.le_of_ble_eq_true rfl, Nat.le_of_ble_eq_true rfl⟩ rfl rfl (Nat.le_of_ble_eq_true rfl) ⟨Nat.zero_le _, Nat.zero_le _⟩ dX11_isCake_8) (fun r1 b2 h => ?_)
  exact v_zret (pc := 11) hC dX11_isCake_11 b2 ⟨b2, rfl, h⟩
def rm_X11_letters : Room := { frames := 2, cells := 0, slots := 0, locals := 46 }
def wp_X11_letters (x1 : Int64) (F : gS) (Q : Int32 → gS → Prop) : Prop :=
  wp_X4_lettersIn x1 F fun r1 =>
  if r1 = (-1) then
    (Q (-102) F)
  else
    (if ((F 1 1) + r1) ≤ 40 then
      (wp_X4_add x1 r1 F fun F2 =>
      Q (F2 1 1) F2)
    else
      (Q (-104) F))
set_option maxRecDepth 20000 in
set_option maxHeartbeats 4000000 in
theorem c_X11_letters (l : Launch) (E : gE) {x1 : Int64} {F : gS} {Q : Int32 → gS → Prop} (h : wp_X11_letters x1 F Q) : CtI l E yX11_letters cX11_letters 4 (some .int) rm_X11_letters [.ref (ad E 0), .long x1] F Q := by
  refine ct_of (by decide) (Nat.le_of_ble_eq_true rfl) (fun p e s m below meth c hC => ?_)
  generalize ([.ref (ad E 0), .long x1] : List Value).toArray = args at hC ⊢
  refine v_sub (lv' := [(0, .ref (ad E 0)), (1, .long x1)]) [0, 1] rfl ?_
  unfold wp_X11_letters at h
  refine v_lload_n (pc := 0) hC dX11_letters_0 rfl 1 rfl ?_
  refine v_cip (pc := 1) (r_S (rest := []) hC ml_X11_73 ms_X4_lettersIn (c_X4_lettersIn l E h) ⟨rfl, rfl⟩ ⟨Nat.le_of_ble_eq_true rfl, Nat.le_of_ble_eq_true rfl⟩ rfl rfl (Nat.le_of_ble_eq_true rfl) ⟨Nat.zero_le _, Nat.zero_le _⟩ dX11_letters_1) (fun r1 h => ?_)
  refine v_istore_n (pc := 4) (lv' := [(3, .int r1), (0, .ref (ad E 0)), (1, .long x1)]) hC dX11_letters_4 rfl (by decide) rfl ?_
  refine v_iload_n (pc := 5) hC dX11_letters_5 rfl 0 rfl ?_
  refine v_iconst (pc := 6) (v := (-1)) hC dX11_letters_6 (by decide) ?_
  refine v_ic_ne (pc := 7) (tgt := 13) hC dX11_letters_7 (by decide) h (fun h => ?_) (fun h => ?_)
  · skip
    refine v_aload_n (pc := 13) hC dX11_letters_13 rfl 1 rfl ?_
    refine v_get (pc := 14) (v := .ref (ad E 1)) hC fl_X11_10 kq_0 rfl dX11_letters_14 ?_
    refine v_get (pc := 17) (v := .int (F 1 1)) hC fl_X11_77 kq_1 rfl dX11_letters_17 ?_
    refine v_iload_n (pc := 20) hC dX11_letters_20 rfl 0 rfl ?_
    refine v_iadd (pc := 21) hC dX11_letters_21 ?_
    refine v_bipush (pc := 22) (v := 40) hC dX11_letters_22 (by decide) ?_
    refine v_ic_le (pc := 24) (tgt := 30) hC dX11_letters_24 (by decide) h (fun h => ?_) (fun h => ?_)
    · skip
      refine v_aload_n (pc := 30) hC dX11_letters_30 rfl 1 rfl ?_
      refine v_get (pc := 31) (v := .ref (ad E 1)) hC fl_X11_10 kq_0 rfl dX11_letters_31 ?_
      refine v_lload_n (pc := 34) hC dX11_letters_34 rfl 2 rfl ?_
      refine v_iload_n (pc := 35) hC dX11_letters_35 rfl 0 rfl ?_
      refine v_cv (pc := 36) (r_V (rest := []) hC ml_X11_81 mv_X4_add (c_X4_add l E h) ⟨rfl, rfl⟩ ⟨Nat.le_of_ble_eq_true rfl, Nat.le_of_ble_eq_true rfl⟩ kq_1 rfl (by decide) rfl rfl (Nat.le_of_ble_eq_true rfl) ⟨Nat.zero_le _, Nat.zero_le _⟩ dX11_letters_36) (fun F2 h => ?_)
      refine v_aload_n (pc := 39) hC dX11_letters_39 rfl 1 rfl ?_
      refine v_get (pc := 40) (v := .ref (ad E 1)) hC fl_X11_10 kq_0 rfl dX11_letters_40 ?_
      refine v_get (pc := 43) (v := .int (F2 1 1)) hC fl_X11_77 kq_1 rfl dX11_letters_43 ?_
      exact v_iret (pc := 46) hC dX11_letters_46 h
    · skip
      refine v_bipush (pc := 27) (v := (-104)) hC dX11_letters_27 (by decide) ?_
      exact v_iret (pc := 29) hC dX11_letters_29 h
  · skip
    refine v_bipush (pc := 10) (v := (-102)) hC dX11_letters_10 (by decide) ?_
    exact v_iret (pc := 12) hC dX11_letters_12 h
def rm_X11_blank : Room := { frames := 0, cells := 0, slots := 0, locals := 0 }
def wp_X11_blank (F : gS) (Q : Int32 → gS → Prop) : Prop :=
  Nm (F 1 1) fun n1 =>
  Nm (upF F 1 1 0) fun F2 =>
  Q n1 F2
set_option maxRecDepth 20000 in
set_option maxHeartbeats 4000000 in
theorem c_X11_blank (l : Launch) (E : gE) {F : gS} {Q : Int32 → gS → Prop} (h : wp_X11_blank F Q) : CtI l E yX11_blank cX11_blank 2 (some .int) rm_X11_blank [.ref (ad E 0)] F Q := by
  refine ct_of (by decide) (Nat.le_of_ble_eq_true rfl) (fun p e s m below meth c hC => ?_)
  generalize ([.ref (ad E 0)] : List Value).toArray = args at hC ⊢
  refine v_sub (lv' := [(0, .ref (ad E 0))]) [0] rfl ?_
  unfold wp_X11_blank at h
  refine v_aload_n (pc := 0) hC dX11_blank_0 rfl 0 rfl ?_
  refine v_get (pc := 1) (v := .ref (ad E 1)) hC fl_X11_10 kq_0 rfl dX11_blank_1 ?_
  refine v_get (pc := 4) (v := .int (F 1 1)) hC fl_X11_77 kq_1 rfl dX11_blank_4 ?_
  refine v_nmi h (fun n1 h => ?_)
  refine v_istore_n (pc := 7) (lv' := [(1, .int n1), (0, .ref (ad E 0))]) hC dX11_blank_7 rfl (by decide) rfl ?_
  refine v_aload_n (pc := 8) hC dX11_blank_8 rfl 1 rfl ?_
  refine v_get (pc := 9) (v := .ref (ad E 1)) hC fl_X11_10 kq_0 rfl dX11_blank_9 ?_
  refine v_iconst (pc := 12) (v := 0) hC dX11_blank_12 (by decide) ?_
  refine v_puti (pc := 13) hC fp_X11_77 kq_1 (fs_4_1 E _ _ _) (fn_4_1 E _ _) dX11_blank_13 h (fun F2 h => ?_)
  refine v_iload_n (pc := 16) hC dX11_blank_16 rfl 0 rfl ?_
  exact v_iret (pc := 17) hC dX11_blank_17 h
def rm_X11_fault : Room := { frames := 7, cells := 0, slots := 0, locals := 150 }
def wp_X11_fault (x1 : Int32) (F : gS) (Q : Int32 → gS → Prop) : Prop :=
  wp_X11_within x1 0 1 F fun r1 =>
  if r1 = 0 then
    (Q (-102) F)
  else
    (if x1 = 0 then
      (wp_X4_readAs_3 F fun r5 F6 =>
      Q r5 F6)
    else
      (wp_X4_readAs_6 F fun r3 F4 =>
      Q r3 F4))
set_option maxRecDepth 20000 in
set_option maxHeartbeats 4000000 in
theorem c_X11_fault (l : Launch) (E : gE) {x1 : Int32} {F : gS} {Q : Int32 → gS → Prop} (h : wp_X11_fault x1 F Q) : CtI l E yX11_fault cX11_fault 2 (some .int) rm_X11_fault [.ref (ad E 0), .int x1] F Q := by
  refine ct_of (by decide) (Nat.le_of_ble_eq_true rfl) (fun p e s m below meth c hC => ?_)
  generalize ([.ref (ad E 0), .int x1] : List Value).toArray = args at hC ⊢
  refine v_sub (lv' := [(0, .ref (ad E 0)), (1, .int x1)]) [0, 1] rfl ?_
  unfold wp_X11_fault at h
  refine v_iload_n (pc := 0) hC dX11_fault_0 rfl 1 rfl ?_
  refine v_iconst (pc := 1) (v := 0) hC dX11_fault_1 (by decide) ?_
  refine v_iconst (pc := 2) (v := 1) hC dX11_fault_2 (by decide) ?_
  refine v_cyp (pc := 3) (r_S (rest := []) hC ml_X11_85 ms_X11_within (c_X11_within l E h) ⟨rfl, rfl⟩ ⟨Nat.le_of_ble_eq_true rfl, Nat.le_of_ble_eq_true rfl⟩ rfl rfl (Nat.le_of_ble_eq_true rfl) ⟨Nat.zero_le _, Nat.zero_le _⟩ dX11_fault_3) (fun r1 b2 h => ?_)
  refine v_if_ne (pc := 6) (tgt := 12) hC dX11_fault_6 (by decide) h (fun h => ?_) (fun h => ?_)
  · skip
    refine v_iload_n (pc := 12) hC dX11_fault_12 rfl 1 rfl ?_
    refine v_if_ne (pc := 13) (tgt := 30) hC dX11_fault_13 (by decide) h (fun h => ?_) (fun h => ?_)
    · skip
      refine v_aload_n (pc := 30) hC dX11_fault_30 rfl 0 rfl ?_
      refine v_get (pc := 31) (v := .ref (ad E 1)) hC fl_X11_10 kq_0 rfl dX11_fault_31 ?_
      refine v_aload_n (pc := 34) hC dX11_fault_34 rfl 0 rfl ?_
      refine v_get (pc := 35) (v := .ref (ad E 6)) hC fl_X11_26 kq_0 rfl dX11_fault_35 ?_
      refine v_ci (pc := 38) (r_V (rest := []) hC ml_X11_89 mv_X4_readAs (c_X4_readAs_6 l E h) ⟨rfl, rfl⟩ ⟨Nat.le_of_ble_eq_true rfl, Nat.le_of_ble_eq_true rfl⟩ kq_1 rfl (by decide) rfl rfl (Nat.le_of_ble_eq_true rfl) ⟨Nat.zero_le _, Nat.zero_le _⟩ dX11_fault_38) (fun r3 F4 h => ?_)
      exact v_iret (pc := 41) hC dX11_fault_41 h
    · skip
      refine v_aload_n (pc := 16) hC dX11_fault_16 rfl 0 rfl ?_
      refine v_get (pc := 17) (v := .ref (ad E 1)) hC fl_X11_10 kq_0 rfl dX11_fault_17 ?_
      refine v_aload_n (pc := 20) hC dX11_fault_20 rfl 0 rfl ?_
      refine v_get (pc := 21) (v := .ref (ad E 3)) hC fl_X11_19 kq_0 rfl dX11_fault_21 ?_
      refine v_ci (pc := 24) (r_V (rest := []) hC ml_X11_89 mv_X4_readAs (c_X4_readAs_3 l E h) ⟨rfl, rfl⟩ ⟨Nat.le_of_ble_eq_true rfl, Nat.le_of_ble_eq_true rfl⟩ kq_1 rfl (by decide) rfl rfl (Nat.le_of_ble_eq_true rfl) ⟨Nat.zero_le _, Nat.zero_le _⟩ dX11_fault_24) (fun r5 F6 h => ?_)
      refine v_goto (pc := 27) (tgt := 41) hC dX11_fault_27 (by decide) ?_
      exact v_iret (pc := 41) hC dX11_fault_41 h
  · skip
    refine v_bipush (pc := 9) (v := (-102)) hC dX11_fault_9 (by decide) ?_
    exact v_iret (pc := 11) hC dX11_fault_11 h
def rm_X11_pan : Room := { frames := 4, cells := 0, slots := 0, locals := 86 }
def wp_X11_pan (F : gS) (Q : Int32 → gS → Prop) : Prop :=
  wp_X4_isWhole_3 F fun r1 F2 =>
  if r1 = 0 then
    (Q (-103) F2)
  else
    (wp_X5_become F2 fun F4 =>
    wp_X1_clear 26 F4 fun F5 =>
    Nm (upF F5 0 11 0) fun F6 =>
    Nm (upF F6 0 13 0) fun F7 =>
    Nm (upF F7 0 14 ((F7 0 14) + 1)) fun F8 =>
    Nm (upF F8 1 1 0) fun F9 =>
    Q (F9 9 2) F9)
set_option maxRecDepth 20000 in
set_option maxHeartbeats 4000000 in
theorem c_X11_pan (l : Launch) (E : gE) {F : gS} {Q : Int32 → gS → Prop} (h : wp_X11_pan F Q) : CtI l E yX11_pan cX11_pan 1 (some .int) rm_X11_pan [.ref (ad E 0)] F Q := by
  refine ct_of (by decide) (Nat.le_of_ble_eq_true rfl) (fun p e s m below meth c hC => ?_)
  generalize ([.ref (ad E 0)] : List Value).toArray = args at hC ⊢
  refine v_sub (lv' := [(0, .ref (ad E 0))]) [0] rfl ?_
  unfold wp_X11_pan at h
  refine v_aload_n (pc := 0) hC dX11_pan_0 rfl 0 rfl ?_
  refine v_get (pc := 1) (v := .ref (ad E 1)) hC fl_X11_10 kq_0 rfl dX11_pan_1 ?_
  refine v_aload_n (pc := 4) hC dX11_pan_4 rfl 0 rfl ?_
  refine v_get (pc := 5) (v := .ref (ad E 3)) hC fl_X11_19 kq_0 rfl dX11_pan_5 ?_
  refine v_ci (pc := 8) (r_V (rest := []) hC ml_X11_93 mv_X4_isWhole (c_X4_isWhole_3 l E h) ⟨rfl, rfl⟩ ⟨Nat.le_of_ble_eq_true rfl, Nat.le_of_ble_eq_true rfl⟩ kq_1 rfl (by decide) rfl rfl (Nat.le_of_ble_eq_true rfl) ⟨Nat.zero_le _, Nat.zero_le _⟩ dX11_pan_8) (fun r1 F2 h => ?_)
  obtain ⟨b3, h⟩ := h
  refine v_if_ne (pc := 11) (tgt := 17) hC dX11_pan_11 (by decide) h (fun h => ?_) (fun h => ?_)
  · skip
    refine v_aload_n (pc := 17) hC dX11_pan_17 rfl 0 rfl ?_
    refine v_get (pc := 18) (v := .ref (ad E 9)) hC fl_X11_41 kq_0 rfl dX11_pan_18 ?_
    refine v_aload_n (pc := 21) hC dX11_pan_21 rfl 0 rfl ?_
    refine v_get (pc := 22) (v := .ref (ad E 3)) hC fl_X11_19 kq_0 rfl dX11_pan_22 ?_
    refine v_cv (pc := 25) (r_V (rest := []) hC ml_X11_97 mv_X5_become (c_X5_become l E h) ⟨rfl, rfl⟩ ⟨Nat.le_of_ble_eq_true rfl, Nat.le_of_ble_eq_true rfl⟩ kq_9 rfl (by decide) rfl rfl (Nat.le_of_ble_eq_true rfl) ⟨Nat.zero_le _, Nat.zero_le _⟩ dX11_pan_25) (fun F4 h => ?_)
    refine v_aload_n (pc := 28) hC dX11_pan_28 rfl 0 rfl ?_
    refine v_get (pc := 29) (v := .ref (ad E 26)) hC fl_X11_45 kq_0 rfl dX11_pan_29 ?_
    refine v_cv (pc := 32) (r_V (rest := []) hC ml_X11_103 mv_X1_clear (c_X1_clear l E kq_26 h) ⟨rfl, rfl⟩ ⟨Nat.le_of_ble_eq_true rfl, Nat.le_of_ble_eq_true rfl⟩ kq_26 rfl (by decide) rfl rfl (Nat.le_of_ble_eq_true rfl) ⟨Nat.zero_le _, Nat.zero_le _⟩ dX11_pan_32) (fun F5 h => ?_)
    refine v_aload_n (pc := 35) hC dX11_pan_35 rfl 0 rfl ?_
    refine v_iconst (pc := 36) (v := 0) hC dX11_pan_36 (by decide) ?_
    refine v_puti (pc := 37) hC fp_X11_106 kq_0 (fs_9_11 E _ _ _) (fn_9_11 E _ _) dX11_pan_37 h (fun F6 h => ?_)
    refine v_aload_n (pc := 40) hC dX11_pan_40 rfl 0 rfl ?_
    refine v_iconst (pc := 41) (v := 0) hC dX11_pan_41 (by decide) ?_
    refine v_putz (pc := 42) hC fp_X11_109 kq_0 (fs_9_13 E _ _ _) (fn_9_13 E _ _) dX11_pan_42 (Or.inl rfl) h (fun F7 h => ?_)
    refine v_aload_n (pc := 45) hC dX11_pan_45 rfl 0 rfl ?_
    refine v_dup (pc := 46) hC dX11_pan_46 rfl ?_
    refine v_get (pc := 47) (v := .int (F7 0 14)) hC fl_X11_113 kq_0 rfl dX11_pan_47 ?_
    refine v_iconst (pc := 50) (v := 1) hC dX11_pan_50 (by decide) ?_
    refine v_iadd (pc := 51) hC dX11_pan_51 ?_
    refine v_puti (pc := 52) hC fp_X11_113 kq_0 (fs_9_14 E _ _ _) (fn_9_14 E _ _) dX11_pan_52 h (fun F8 h => ?_)
    refine v_aload_n (pc := 55) hC dX11_pan_55 rfl 0 rfl ?_
    refine v_get (pc := 56) (v := .ref (ad E 1)) hC fl_X11_10 kq_0 rfl dX11_pan_56 ?_
    refine v_iconst (pc := 59) (v := 0) hC dX11_pan_59 (by decide) ?_
    refine v_puti (pc := 60) hC fp_X11_77 kq_1 (fs_4_1 E _ _ _) (fn_4_1 E _ _) dX11_pan_60 h (fun F9 h => ?_)
    refine v_aload_n (pc := 63) hC dX11_pan_63 rfl 0 rfl ?_
    refine v_get (pc := 64) (v := .ref (ad E 9)) hC fl_X11_41 kq_0 rfl dX11_pan_64 ?_
    refine v_get (pc := 67) (v := .int (F9 9 2)) hC fl_X11_116 kq_9 rfl dX11_pan_67 ?_
    exact v_iret (pc := 70) hC dX11_pan_70 h
  · skip
    refine v_bipush (pc := 14) (v := (-103)) hC dX11_pan_14 (by decide) ?_
    exact v_iret (pc := 16) hC dX11_pan_16 h
def rm_X11_plan : Room := { frames := 8, cells := 0, slots := 0, locals := 171 }
def wp_X11_plan (F : gS) (Q : Int32 → gS → Prop) : Prop :=
  wp_X4_isWhole_6 F fun r1 F2 =>
  if r1 = 0 then
    (Q (-103) F2)
  else
    (if (F2 0 10) < 6 then
      (vp_in (F2 0 10) 6 ∧
      wp_X7_become (37 + 2 * (F2 0 10).toNatClampNeg) F2 fun F5 =>
      Nm (upF F5 0 10 ((F5 0 10) + 1)) fun F6 =>
      Nm (upF F6 1 1 0) fun F7 =>
      Q ((F7 0 10) - 1) F7)
    else
      (Q (-104) F2))
set_option maxRecDepth 20000 in
set_option maxHeartbeats 4000000 in
theorem c_X11_plan (l : Launch) (E : gE) {F : gS} {Q : Int32 → gS → Prop} (h : wp_X11_plan F Q) : CtI l E yX11_plan cX11_plan 1 (some .int) rm_X11_plan [.ref (ad E 0)] F Q := by
  refine ct_of (by decide) (Nat.le_of_ble_eq_true rfl) (fun p e s m below meth c hC => ?_)
  generalize ([.ref (ad E 0)] : List Value).toArray = args at hC ⊢
  refine v_sub (lv' := [(0, .ref (ad E 0))]) [0] rfl ?_
  unfold wp_X11_plan at h
  refine v_aload_n (pc := 0) hC dX11_plan_0 rfl 0 rfl ?_
  refine v_get (pc := 1) (v := .ref (ad E 1)) hC fl_X11_10 kq_0 rfl dX11_plan_1 ?_
  refine v_aload_n (pc := 4) hC dX11_plan_4 rfl 0 rfl ?_
  refine v_get (pc := 5) (v := .ref (ad E 6)) hC fl_X11_26 kq_0 rfl dX11_plan_5 ?_
  refine v_ci (pc := 8) (r_V (rest := []) hC ml_X11_93 mv_X4_isWhole (c_X4_isWhole_6 l E h) ⟨rfl, rfl⟩ ⟨Nat.le_of_ble_eq_true rfl, Nat.le_of_ble_eq_true rfl⟩ kq_1 rfl (by decide) rfl rfl (Nat.le_of_ble_eq_true rfl) ⟨Nat.zero_le _, Nat.zero_le _⟩ dX11_plan_8) (fun r1 F2 h => ?_)
  obtain ⟨b3, h⟩ := h
  refine v_if_ne (pc := 11) (tgt := 17) hC dX11_plan_11 (by decide) h (fun h => ?_) (fun h => ?_)
  · skip
    refine v_aload_n (pc := 17) hC dX11_plan_17 rfl 0 rfl ?_
    refine v_get (pc := 18) (v := .int (F2 0 10)) hC fl_X11_119 kq_0 rfl dX11_plan_18 ?_
    refine v_bipush (pc := 21) (v := 6) hC dX11_plan_21 (by decide) ?_
    refine v_ic_lt (pc := 23) (tgt := 29) hC dX11_plan_23 (by decide) h (fun h => ?_) (fun h => ?_)
    · skip
      refine v_aload_n (pc := 29) hC dX11_plan_29 rfl 0 rfl ?_
      refine v_get (pc := 30) (v := .ref (ad E 32)) hC fl_X11_54 kq_0 rfl dX11_plan_30 ?_
      refine v_aload_n (pc := 33) hC dX11_plan_33 rfl 0 rfl ?_
      refine v_get (pc := 34) (v := .int (F2 0 10)) hC fl_X11_119 kq_0 rfl dX11_plan_34 ?_
      have g4 := in_lt h.1
      refine v_aaldP (pc := 37) hC dX11_plan_37 h (fun h => ?_)
      refine v_aload_n (pc := 38) hC dX11_plan_38 rfl 0 rfl ?_
      refine v_get (pc := 39) (v := .ref (ad E 6)) hC fl_X11_26 kq_0 rfl dX11_plan_39 ?_
      refine v_cv (pc := 42) (r_V (rest := []) hC ml_X11_122 mv_X7_become (c_X7_become l E (kd_pl _ g4) h) ⟨rfl, rfl⟩ ⟨Nat.le_of_ble_eq_true rfl, Nat.le_of_ble_eq_true rfl⟩ (kd_pl _ g4) rfl (by decide) rfl rfl (Nat.le_of_ble_eq_true rfl) ⟨Nat.zero_le _, Nat.zero_le _⟩ dX11_plan_42) (fun F5 h => ?_)
      refine v_aload_n (pc := 45) hC dX11_plan_45 rfl 0 rfl ?_
      refine v_dup (pc := 46) hC dX11_plan_46 rfl ?_
      refine v_get (pc := 47) (v := .int (F5 0 10)) hC fl_X11_119 kq_0 rfl dX11_plan_47 ?_
      refine v_iconst (pc := 50) (v := 1) hC dX11_plan_50 (by decide) ?_
      refine v_iadd (pc := 51) hC dX11_plan_51 ?_
      refine v_puti (pc := 52) hC fp_X11_119 kq_0 (fs_9_10 E _ _ _) (fn_9_10 E _ _) dX11_plan_52 h (fun F6 h => ?_)
      refine v_aload_n (pc := 55) hC dX11_plan_55 rfl 0 rfl ?_
      refine v_get (pc := 56) (v := .ref (ad E 1)) hC fl_X11_10 kq_0 rfl dX11_plan_56 ?_
      refine v_iconst (pc := 59) (v := 0) hC dX11_plan_59 (by decide) ?_
      refine v_puti (pc := 60) hC fp_X11_77 kq_1 (fs_4_1 E _ _ _) (fn_4_1 E _ _) dX11_plan_60 h (fun F7 h => ?_)
      refine v_aload_n (pc := 63) hC dX11_plan_63 rfl 0 rfl ?_
      refine v_get (pc := 64) (v := .int (F7 0 10)) hC fl_X11_119 kq_0 rfl dX11_plan_64 ?_
      refine v_iconst (pc := 67) (v := 1) hC dX11_plan_67 (by decide) ?_
      refine v_isub (pc := 68) hC dX11_plan_68 ?_
      exact v_iret (pc := 69) hC dX11_plan_69 h
    · skip
      refine v_bipush (pc := 26) (v := (-104)) hC dX11_plan_26 (by decide) ?_
      exact v_iret (pc := 28) hC dX11_plan_28 h
  · skip
    refine v_bipush (pc := 14) (v := (-103)) hC dX11_plan_14 (by decide) ?_
    exact v_iret (pc := 16) hC dX11_plan_16 h
def rm_X11_planTold : Room := { frames := 2, cells := 0, slots := 0, locals := 43 }
def wp_X11_planTold_34 (Q : Int32 → Prop) (F : gS) (x1 : Int32) (x2 : Int32) : Prop :=
  if x2 < 10 then
    (vp_in x1 6 ∧
    wp_X7_told (37 + 2 * x1.toNatClampNeg) x2 F fun r8 =>
    Q r8)
  else
    (vp_in x1 6 ∧
    wp_X7_swingAt (37 + 2 * x1.toNatClampNeg) (x2 - 10) F fun r10 =>
    Q r10)
def wp_X11_planTold (x1 : Int32) (x2 : Int32) (F : gS) (Q : Int32 → Prop) : Prop :=
  wp_X11_isPlan x1 F fun r1 =>
  if r1 = 0 then
    (Q (-101))
  else
    (wp_X11_within x2 0 4 F fun r3 =>
    if r3 = 0 then
      (wp_X11_within x2 10 15 F fun r5 =>
      if r5 = 0 then
        (Q (-102))
      else
        (wp_X11_planTold_34 Q F x1 x2))
    else
      (wp_X11_planTold_34 Q F x1 x2))
set_option maxRecDepth 20000 in
set_option maxHeartbeats 4000000 in
theorem j_X11_planTold_34 {p : Program} {l : Launch} {e : Env} {s : State} {m : MethodId} {args : Array Value} {below : List Frame} {meth : Method} {c : Code} {E : gE} (hC : CX p s m args meth c cX11_planTold RX11 (some .int) E 3) {Q : Int32 → Prop} {F : gS} {x1 : Int32} {x2 : Int32} (h : wp_X11_planTold_34 Q F x1 x2) : VV p l e rm_X11_planTold s m args below meth c 0 0 (MQ below (va_Qi (fun r G => G = F ∧ Q r) (gB E) (gA E)) args s 0 0 (gA E)) E 3 F 34 [(0, .ref (ad E 0)), (1, .int x1), (2, .int x2)] [] := by
  unfold wp_X11_planTold_34 at h
  refine v_iload_n (pc := 34) hC dX11_planTold_34 rfl 2 rfl ?_
  refine v_bipush (pc := 35) (v := 10) hC dX11_planTold_35 (by decide) ?_
  refine v_ic_lt (pc := 37) (tgt := 56) hC dX11_planTold_37 (by decide) h (fun h => ?_) (fun h => ?_)
  · skip
    refine v_aload_n (pc := 56) hC dX11_planTold_56 rfl 0 rfl ?_
    refine v_get (pc := 57) (v := .ref (ad E 32)) hC fl_X11_54 kq_0 rfl dX11_planTold_57 ?_
    refine v_iload_n (pc := 60) hC dX11_planTold_60 rfl 1 rfl ?_
    have g7 := in_lt h.1
    refine v_aaldP (pc := 61) hC dX11_planTold_61 h (fun h => ?_)
    refine v_iload_n (pc := 62) hC dX11_planTold_62 rfl 2 rfl ?_
    refine v_cip (pc := 63) (r_V (rest := []) hC ml_X11_133 mv_X7_told (c_X7_told l E (kd_pl _ g7) h) ⟨rfl, rfl⟩ ⟨Nat.le_of_ble_eq_true rfl, Nat.le_of_ble_eq_true rfl⟩ (kd_pl _ g7) rfl (by decide) rfl rfl (Nat.le_of_ble_eq_true rfl) ⟨Nat.zero_le _, Nat.zero_le _⟩ dX11_planTold_63) (fun r8 h => ?_)
    exact v_iret (pc := 66) hC dX11_planTold_66 ⟨rfl, h⟩
  · skip
    refine v_aload_n (pc := 40) hC dX11_planTold_40 rfl 0 rfl ?_
    refine v_get (pc := 41) (v := .ref (ad E 32)) hC fl_X11_54 kq_0 rfl dX11_planTold_41 ?_
    refine v_iload_n (pc := 44) hC dX11_planTold_44 rfl 1 rfl ?_
    have g9 := in_lt h.1
    refine v_aaldP (pc := 45) hC dX11_planTold_45 h (fun h => ?_)
    refine v_iload_n (pc := 46) hC dX11_planTold_46 rfl 2 rfl ?_
    refine v_bipush (pc := 47) (v := 10) hC dX11_planTold_47 (by decide) ?_
    refine v_isub (pc := 49) hC dX11_planTold_49 ?_
    refine v_cip (pc := 50) (r_V (rest := []) hC ml_X11_129 mv_X7_swingAt (c_X7_swingAt l E (kd_pl _ g9) h) ⟨rfl, rfl⟩ ⟨Nat.le_of_ble_eq_true rfl, Nat.le_of_ble_eq_true rfl⟩ (kd_pl _ g9) rfl (by decide) rfl rfl (Nat.le_of_ble_eq_true rfl) ⟨Nat.zero_le _, Nat.zero_le _⟩ dX11_planTold_50) (fun r10 h => ?_)
    refine v_goto (pc := 53) (tgt := 66) hC dX11_planTold_53 (by decide) ?_
    exact v_iret (pc := 66) hC dX11_planTold_66 ⟨rfl, h⟩
set_option maxRecDepth 20000 in
set_option maxHeartbeats 4000000 in
theorem c_X11_planTold (l : Launch) (E : gE) {x1 : Int32} {x2 : Int32} {F : gS} {Q : Int32 → Prop} (h : wp_X11_planTold x1 x2 F Q) : CtI l E yX11_planTold cX11_planTold 3 (some .int) rm_X11_planTold [.ref (ad E 0), .int x1, .int x2] F (fun r G => G = F ∧ Q r) := by
  refine ct_of (by decide) (Nat.le_of_ble_eq_true rfl) (fun p e s m below meth c hC => ?_)
  generalize ([.ref (ad E 0), .int x1, .int x2] : List Value).toArray = args at hC ⊢
  refine v_sub (lv' := [(0, .ref (ad E 0)), (1, .int x1), (2, .int x2)]) [0, 1, 2] rfl ?_
  unfold wp_X11_planTold at h
  refine v_aload_n (pc := 0) hC dX11_planTold_0 rfl 0 rfl ?_
  refine v_iload_n (pc := 1) hC dX11_planTold_1 rfl 1 rfl ?_
  refine v_cyp (pc := 2) (r_V (rest := []) hC ml_X11_125 mv_X11_isPlan (c_X11_isPlan l E h) ⟨rfl, rfl⟩ ⟨Nat.le_of_ble_eq_true rfl, Nat.le_of_ble_eq_true rfl⟩ kq_0 rfl (by decide) rfl rfl (Nat.le_of_ble_eq_true rfl) ⟨Nat.zero_le _, Nat.zero_le _⟩ dX11_planTold_2) (fun r1 b2 h => ?_)
  refine v_if_ne (pc := 5) (tgt := 11) hC dX11_planTold_5 (by decide) h (fun h => ?_) (fun h => ?_)
  · skip
    refine v_iload_n (pc := 11) hC dX11_planTold_11 rfl 2 rfl ?_
    refine v_iconst (pc := 12) (v := 0) hC dX11_planTold_12 (by decide) ?_
    refine v_iconst (pc := 13) (v := 4) hC dX11_planTold_13 (by decide) ?_
    refine v_cyp (pc := 14) (r_S (rest := []) hC ml_X11_85 ms_X11_within (c_X11_within l E h) ⟨rfl, rfl⟩ ⟨Nat.le_of_ble_eq_true rfl, Nat.le_of_ble_eq_true rfl⟩ rfl rfl (Nat.le_of_ble_eq_true rfl) ⟨Nat.zero_le _, Nat.zero_le _⟩ dX11_planTold_14) (fun r3 b4 h => ?_)
    refine v_if_ne (pc := 17) (tgt := 34) hC dX11_planTold_17 (by decide) h (fun h => ?_) (fun h => ?_)
    · skip
      exact v_sub [0, 1, 2] rfl (j_X11_planTold_34 hC h)
    · skip
      refine v_iload_n (pc := 20) hC dX11_planTold_20 rfl 2 rfl ?_
      refine v_bipush (pc := 21) (v := 10) hC dX11_planTold_21 (by decide) ?_
      refine v_bipush (pc := 23) (v := 15) hC dX11_planTold_23 (by decide) ?_
      refine v_cyp (pc := 25) (r_S (rest := []) hC ml_X11_85 ms_X11_within (c_X11_within l E h) ⟨rfl, rfl⟩ ⟨Nat.le_of_ble_eq_true rfl, Nat.le_of_ble_eq_true rfl⟩ rfl rfl (Nat.le_of_ble_eq_true rfl) ⟨Nat.zero_le _, Nat.zero_le _⟩ dX11_planTold_25) (fun r5 b6 h => ?_)
      refine v_if_ne (pc := 28) (tgt := 34) hC dX11_planTold_28 (by decide) h (fun h => ?_) (fun h => ?_)
      · skip
        exact v_sub [0, 1, 2] rfl (j_X11_planTold_34 hC h)
      · skip
        refine v_bipush (pc := 31) (v := (-102)) hC dX11_planTold_31 (by decide) ?_
        exact v_iret (pc := 33) hC dX11_planTold_33 ⟨rfl, h⟩
  · skip
    refine v_bipush (pc := 8) (v := (-101)) hC dX11_planTold_8 (by decide) ?_
    exact v_iret (pc := 10) hC dX11_planTold_10 ⟨rfl, h⟩
def rm_X11_cell : Room := { frames := 2, cells := 0, slots := 0, locals := 43 }
def wp_X11_cell (x1 : Int32) (x2 : Int32) (F : gS) (Q : Int32 → Prop) : Prop :=
  wp_X11_isCell x1 F fun r1 =>
  if r1 = 0 then
    (Q (-101))
  else
    (if x2 = 0 then
      (vp_in x1 16 ∧
      Q (F 10 x1.toNatClampNeg))
    else (if x2 = 1 then
      (vp_in x1 16 ∧
        if (F 11 x1.toNatClampNeg) = 0 then
          (Q 0)
        else
          (Q 1))
    else (if x2 = 2 then
      (vp_in x1 16 ∧
          Q (F 27 x1.toNatClampNeg))
    else (if x2 = 3 then
      (vp_in x1 16 ∧
            Q (F 28 x1.toNatClampNeg))
    else (Q (-102))))))
set_option maxRecDepth 20000 in
set_option maxHeartbeats 4000000 in
theorem c_X11_cell (l : Launch) (E : gE) {x1 : Int32} {x2 : Int32} {F : gS} {Q : Int32 → Prop} (h : wp_X11_cell x1 x2 F Q) : CtI l E yX11_cell cX11_cell 3 (some .int) rm_X11_cell [.ref (ad E 0), .int x1, .int x2] F (fun r G => G = F ∧ Q r) := by
  refine ct_of (by decide) (Nat.le_of_ble_eq_true rfl) (fun p e s m below meth c hC => ?_)
  generalize ([.ref (ad E 0), .int x1, .int x2] : List Value).toArray = args at hC ⊢
  refine v_sub (lv' := [(0, .ref (ad E 0)), (1, .int x1), (2, .int x2)]) [0, 1, 2] rfl ?_
  unfold wp_X11_cell at h
  refine v_aload_n (pc := 0) hC dX11_cell_0 rfl 0 rfl ?_
  refine v_iload_n (pc := 1) hC dX11_cell_1 rfl 1 rfl ?_
  refine v_cyp (pc := 2) (r_V (rest := []) hC ml_X11_136 mv_X11_isCell (c_X11_isCell l E h) ⟨rfl, rfl⟩ ⟨Nat.le_of_ble_eq_true rfl, Nat.le_of_ble_eq_true rfl⟩ kq_0 rfl (by decide) rfl rfl (Nat.le_of_ble_eq_true rfl) ⟨Nat.zero_le _, Nat.zero_le _⟩ dX11_cell_2) (fun r1 b2 h => ?_)
  refine v_if_ne (pc := 5) (tgt := 11) hC dX11_cell_5 (by decide) h (fun h => ?_) (fun h => ?_)
  · skip
    refine v_iload_n (pc := 11) hC dX11_cell_11 rfl 2 rfl ?_
    by_cases c3 : x2 = 0
    · skip
      rw [if_pos c3] at h
      refine v_tin (pc := 12) (tgt := 44) hC dX11_cell_12 0 (by rw [c3]; rfl) (by decide) (by decide) rfl (by decide) ?_
      refine v_aload_n (pc := 44) hC dX11_cell_44 rfl 0 rfl ?_
      refine v_get (pc := 45) (v := .ref (ad E 9)) hC fl_X11_41 kq_0 rfl dX11_cell_45 ?_
      refine v_get (pc := 48) (v := .ref (ad E 10)) hC fl_X11_139 kq_9 rfl dX11_cell_48 ?_
      refine v_iload_n (pc := 51) hC dX11_cell_51 rfl 1 rfl ?_
      refine v_iald (pc := 52) (n := 16) hC kq_10 (by decide) dX11_cell_52 h (fun h => ?_)
      exact v_iret (pc := 53) hC dX11_cell_53 ⟨rfl, h⟩
    · skip
      rw [if_neg c3] at h
      by_cases c4 : x2 = 1
      · skip
        rw [if_pos c4] at h
        refine v_tin (pc := 12) (tgt := 54) hC dX11_cell_12 1 (by rw [c4]; rfl) (by decide) (by decide) rfl (by decide) ?_
        refine v_aload_n (pc := 54) hC dX11_cell_54 rfl 0 rfl ?_
        refine v_get (pc := 55) (v := .ref (ad E 9)) hC fl_X11_41 kq_0 rfl dX11_cell_55 ?_
        refine v_get (pc := 58) (v := .ref (ad E 11)) hC fl_X11_143 kq_9 rfl dX11_cell_58 ?_
        refine v_iload_n (pc := 61) hC dX11_cell_61 rfl 1 rfl ?_
        refine v_zald (pc := 62) (n := 16) hC kq_11 (by decide) dX11_cell_62 h (fun h => ?_)
        refine v_if_eq (pc := 63) (tgt := 70) hC dX11_cell_63 (by decide) h (fun h => ?_) (fun h => ?_)
        · skip
          refine v_iconst (pc := 70) (v := 0) hC dX11_cell_70 (by decide) ?_
          exact v_iret (pc := 71) hC dX11_cell_71 ⟨rfl, h⟩
        · skip
          refine v_iconst (pc := 66) (v := 1) hC dX11_cell_66 (by decide) ?_
          refine v_goto (pc := 67) (tgt := 71) hC dX11_cell_67 (by decide) ?_
          exact v_iret (pc := 71) hC dX11_cell_71 ⟨rfl, h⟩
      · skip
        rw [if_neg c4] at h
        by_cases c5 : x2 = 2
        · skip
          rw [if_pos c5] at h
          refine v_tin (pc := 12) (tgt := 72) hC dX11_cell_12 2 (by rw [c5]; rfl) (by decide) (by decide) rfl (by decide) ?_
          refine v_aload_n (pc := 72) hC dX11_cell_72 rfl 0 rfl ?_
          refine v_get (pc := 73) (v := .ref (ad E 26)) hC fl_X11_45 kq_0 rfl dX11_cell_73 ?_
          refine v_get (pc := 76) (v := .ref (ad E 27)) hC fl_X11_147 kq_26 rfl dX11_cell_76 ?_
          refine v_iload_n (pc := 79) hC dX11_cell_79 rfl 1 rfl ?_
          refine v_iald (pc := 80) (n := 16) hC kq_27 (by decide) dX11_cell_80 h (fun h => ?_)
          exact v_iret (pc := 81) hC dX11_cell_81 ⟨rfl, h⟩
        · skip
          rw [if_neg c5] at h
          by_cases c6 : x2 = 3
          · skip
            rw [if_pos c6] at h
            refine v_tin (pc := 12) (tgt := 82) hC dX11_cell_12 3 (by rw [c6]; rfl) (by decide) (by decide) rfl (by decide) ?_
            refine v_aload_n (pc := 82) hC dX11_cell_82 rfl 0 rfl ?_
            refine v_get (pc := 83) (v := .ref (ad E 26)) hC fl_X11_45 kq_0 rfl dX11_cell_83 ?_
            refine v_get (pc := 86) (v := .ref (ad E 28)) hC fl_X11_150 kq_26 rfl dX11_cell_86 ?_
            refine v_iload_n (pc := 89) hC dX11_cell_89 rfl 1 rfl ?_
            refine v_iald (pc := 90) (n := 16) hC kq_28 (by decide) dX11_cell_90 h (fun h => ?_)
            exact v_iret (pc := 91) hC dX11_cell_91 ⟨rfl, h⟩
          · skip
            rw [if_neg c6] at h
            refine v_tout (pc := 12) (tgt := 92) hC dX11_cell_12 (by have := lv_neT c3 (a := 0) rfl; have := lv_neT c4 (a := 1) rfl; have := lv_neT c5 (a := 2) rfl; have := lv_neT c6 (a := 3) rfl; omega) (by decide) ?_
            refine v_bipush (pc := 92) (v := (-102)) hC dX11_cell_92 (by decide) ?_
            exact v_iret (pc := 94) hC dX11_cell_94 ⟨rfl, h⟩
  · skip
    refine v_bipush (pc := 8) (v := (-101)) hC dX11_cell_8 (by decide) ?_
    exact v_iret (pc := 10) hC dX11_cell_10 ⟨rfl, h⟩
def rm_X11_warm : Room := { frames := 1, cells := 0, slots := 0, locals := 29 }
def wb_X11_warm_39 (Q : Int32 → gS → Prop) (x1 : Int32) (x2 : Int32) (K39 : gS → Int32 → Int32 → Prop) (F : gS) (x3 : Int32) (x4 : Int32) : Prop :=
  if (F 9 2) ≤ x4 then
    (Q x3 F)
  else
    (vp_in x4 16 ∧
    wp_X1_heat 26 x4 (x1 * (F 10 x4.toNatClampNeg)) x2 0 F fun r7 F8 =>
    vp_in x4 16 ∧
    Nm (if x3 < (F8 27 x4.toNatClampNeg) then (F8 27 x4.toNatClampNeg) else x3) fun n9 =>
    Nm (x4 + 1) fun n10 =>
    K39 F8 n9 n10)
def wp_X11_warm (x1 : Int32) (x2 : Int32) (F : gS) (Q : Int32 → gS → Prop) : Prop :=
  wp_X11_hasPan F fun r1 =>
  if r1 = 0 then
    (Q (-103) F)
  else
    (wp_X11_within x1 0 9 F fun r3 =>
    if r3 = 0 then
      (Q (-102) F)
    else
      (wp_X11_within x2 1 200 F fun r5 =>
      if r5 = 0 then
        (Q (-102) F)
      else
        (LP3 (wb_X11_warm_39 Q x1 x2) F 0 0)))
set_option maxRecDepth 20000 in
set_option maxHeartbeats 4000000 in
theorem jb_X11_warm_39 {p : Program} {l : Launch} {e : Env} {s : State} {m : MethodId} {args : Array Value} {below : List Frame} {meth : Method} {c : Code} {E : gE} (hC : CX p s m args meth c cX11_warm RX11 (some .int) E 5) {Q : Int32 → gS → Prop} {F : gS} {x1 : Int32} {x2 : Int32} {x3 : Int32} {x4 : Int32} {K39 : gS → Int32 → Int32 → Prop} (hK39 : ∀ (F : gS) (x3 : Int32) (x4 : Int32), K39 F x3 x4 → VV p l e rm_X11_warm s m args below meth c 0 0 (MQ below (va_Qi Q (gB E) (gA E)) args s 0 0 (gA E)) E 5 F 39 [(0, .ref (ad E 0)), (1, .int x1), (2, .int x2), (3, .int x3), (4, .int x4)] []) (h : wb_X11_warm_39 Q x1 x2 K39 F x3 x4) : VV p l e rm_X11_warm s m args below meth c 0 0 (MQ below (va_Qi Q (gB E) (gA E)) args s 0 0 (gA E)) E 5 F 39 [(0, .ref (ad E 0)), (1, .int x1), (2, .int x2), (3, .int x3), (4, .int x4)] [] := by
  unfold wb_X11_warm_39 at h
  refine v_iload (pc := 39) hC dX11_warm_39 4 rfl ?_
  refine v_aload_n (pc := 41) hC dX11_warm_41 rfl 0 rfl ?_
  refine v_get (pc := 42) (v := .ref (ad E 9)) hC fl_X11_41 kq_0 rfl dX11_warm_42 ?_
  refine v_get (pc := 45) (v := .int (F 9 2)) hC fl_X11_116 kq_9 rfl dX11_warm_45 ?_
  refine v_ic_ge (pc := 48) (tgt := 96) hC dX11_warm_48 (by decide) h (fun h => ?_) (fun h => ?_)
  · skip
    refine v_iload_n (pc := 96) hC dX11_warm_96 rfl 3 rfl ?_
    exact v_iret (pc := 97) hC dX11_warm_97 h
  · skip
    refine v_aload_n (pc := 51) hC dX11_warm_51 rfl 0 rfl ?_
    refine v_get (pc := 52) (v := .ref (ad E 26)) hC fl_X11_45 kq_0 rfl dX11_warm_52 ?_
    refine v_iload (pc := 55) hC dX11_warm_55 4 rfl ?_
    refine v_iload_n (pc := 57) hC dX11_warm_57 rfl 1 rfl ?_
    refine v_aload_n (pc := 58) hC dX11_warm_58 rfl 0 rfl ?_
    refine v_get (pc := 59) (v := .ref (ad E 9)) hC fl_X11_41 kq_0 rfl dX11_warm_59 ?_
    refine v_get (pc := 62) (v := .ref (ad E 10)) hC fl_X11_139 kq_9 rfl dX11_warm_62 ?_
    refine v_iload (pc := 65) hC dX11_warm_65 4 rfl ?_
    refine v_iald (pc := 67) (n := 16) hC kq_10 (by decide) dX11_warm_67 h (fun h => ?_)
    refine v_imul (pc := 68) hC dX11_warm_68 ?_
    refine v_iload_n (pc := 69) hC dX11_warm_69 rfl 2 rfl ?_
    refine v_iconst (pc := 70) (v := 0) hC dX11_warm_70 (by decide) ?_
    refine v_ci (pc := 71) (r_V (rest := []) hC ml_X11_157 mv_X1_heat (c_X1_heat l E kq_26 h) ⟨rfl, rfl⟩ ⟨Nat.le_of_ble_eq_true rfl, Nat.le_of_ble_eq_true rfl⟩ kq_26 rfl (by decide) rfl rfl (Nat.le_of_ble_eq_true rfl) ⟨Nat.zero_le _, Nat.zero_le _⟩ dX11_warm_71) (fun r7 F8 h => ?_)
    refine v_pop (pc := 74) hC dX11_warm_74 rfl ?_
    refine v_iload_n (pc := 75) hC dX11_warm_75 rfl 3 rfl ?_
    refine v_aload_n (pc := 76) hC dX11_warm_76 rfl 0 rfl ?_
    refine v_get (pc := 77) (v := .ref (ad E 26)) hC fl_X11_45 kq_0 rfl dX11_warm_77 ?_
    refine v_get (pc := 80) (v := .ref (ad E 27)) hC fl_X11_147 kq_26 rfl dX11_warm_80 ?_
    refine v_iload (pc := 83) hC dX11_warm_83 4 rfl ?_
    refine v_iald (pc := 85) (n := 16) hC kq_27 (by decide) dX11_warm_85 h (fun h => ?_)
    refine v_max (pc := 86) hC mmax_X11_161 mmax_s in_Math mmax_c ⟨Nat.le_of_ble_eq_true rfl, Nat.le_of_ble_eq_true rfl⟩ ⟨Nat.zero_le _, Nat.zero_le _⟩ dX11_warm_86 ?_
    refine v_nmi h (fun n9 h => ?_)
    refine v_istore_n (pc := 89) (lv' := [(3, .int n9), (0, .ref (ad E 0)), (1, .int x1), (2, .int x2), (4, .int x4)]) hC dX11_warm_89 rfl (by decide) rfl ?_
    refine v_iinc (pc := 90) (v := 1) hC (fun z => [(4, .int z), (3, .int n9), (0, .ref (ad E 0)), (1, .int x1), (2, .int x2)]) dX11_warm_90 4 rfl (by decide) (by decide) (fun _ => rfl) h (fun n10 h => ?_)
    refine v_goto (pc := 93) (tgt := 39) hC dX11_warm_93 (by decide) ?_
    exact v_sub [2, 3, 4, 1, 0] rfl (hK39 _ _ _ h)
set_option maxRecDepth 20000 in
set_option maxHeartbeats 4000000 in
theorem jl_X11_warm_39 {p : Program} {l : Launch} {e : Env} {s : State} {m : MethodId} {args : Array Value} {below : List Frame} {meth : Method} {c : Code} {E : gE} (hC : CX p s m args meth c cX11_warm RX11 (some .int) E 5) {Q : Int32 → gS → Prop} {F : gS} {x1 : Int32} {x2 : Int32} {x3 : Int32} {x4 : Int32} (h : LP3 (wb_X11_warm_39 Q x1 x2) F x3 x4) : VV p l e rm_X11_warm s m args below meth c 0 0 (MQ below (va_Qi Q (gB E) (gA E)) args s 0 0 (gA E)) E 5 F 39 [(0, .ref (ad E 0)), (1, .int x1), (2, .int x2), (3, .int x3), (4, .int x4)] [] :=
  LP3_go (V := fun (F : gS) (x3 : Int32) (x4 : Int32) => VV p l e rm_X11_warm s m args below meth c 0 0 (MQ below (va_Qi Q (gB E) (gA E)) args s 0 0 (gA E)) E 5 F 39 [(0, .ref (ad E 0)), (1, .int x1), (2, .int x2), (3, .int x3), (4, .int x4)] []) (fun K39 hK39 F x3 x4 h => jb_X11_warm_39 hC hK39 h) F x3 x4 h
set_option maxRecDepth 20000 in
set_option maxHeartbeats 4000000 in
theorem c_X11_warm (l : Launch) (E : gE) {x1 : Int32} {x2 : Int32} {F : gS} {Q : Int32 → gS → Prop} (h : wp_X11_warm x1 x2 F Q) : CtI l E yX11_warm cX11_warm 5 (some .int) rm_X11_warm [.ref (ad E 0), .int x1, .int x2] F Q := by
  refine ct_of (by decide) (Nat.le_of_ble_eq_true rfl) (fun p e s m below meth c hC => ?_)
  generalize ([.ref (ad E 0), .int x1, .int x2] : List Value).toArray = args at hC ⊢
  refine v_sub (lv' := [(0, .ref (ad E 0)), (1, .int x1), (2, .int x2)]) [0, 1, 2] rfl ?_
  unfold wp_X11_warm at h
  refine v_aload_n (pc := 0) hC dX11_warm_0 rfl 0 rfl ?_
  refine v_cyp (pc := 1) (r_V (rest := []) hC ml_X11_153 mv_X11_hasPan (c_X11_hasPan l E h) ⟨rfl, rfl⟩ ⟨Nat.le_of_ble_eq_true rfl, Nat.le_of_ble_eq_true rfl⟩ kq_0 rfl (by decide) rfl rfl (Nat.le_of_ble_eq_true rfl) ⟨Nat.zero_le _, Nat.zero_le _⟩ dX11_warm_1) (fun r1 b2 h => ?_)
  refine v_if_ne (pc := 4) (tgt := 10) hC dX11_warm_4 (by decide) h (fun h => ?_) (fun h => ?_)
  · skip
    refine v_iload_n (pc := 10) hC dX11_warm_10 rfl 1 rfl ?_
    refine v_iconst (pc := 11) (v := 0) hC dX11_warm_11 (by decide) ?_
    refine v_bipush (pc := 12) (v := 9) hC dX11_warm_12 (by decide) ?_
    refine v_cyp (pc := 14) (r_S (rest := []) hC ml_X11_85 ms_X11_within (c_X11_within l E h) ⟨rfl, rfl⟩ ⟨Nat.le_of_ble_eq_true rfl, Nat.le_of_ble_eq_true rfl⟩ rfl rfl (Nat.le_of_ble_eq_true rfl) ⟨Nat.zero_le _, Nat.zero_le _⟩ dX11_warm_14) (fun r3 b4 h => ?_)
    refine v_if_eq (pc := 17) (tgt := 31) hC dX11_warm_17 (by decide) h (fun h => ?_) (fun h => ?_)
    · skip
      refine v_bipush (pc := 31) (v := (-102)) hC dX11_warm_31 (by decide) ?_
      exact v_iret (pc := 33) hC dX11_warm_33 h
    · skip
      refine v_iload_n (pc := 20) hC dX11_warm_20 rfl 2 rfl ?_
      refine v_iconst (pc := 21) (v := 1) hC dX11_warm_21 (by decide) ?_
      refine v_sipush (pc := 22) (v := 200) hC dX11_warm_22 (by decide) ?_
      refine v_cyp (pc := 25) (r_S (rest := []) hC ml_X11_85 ms_X11_within (c_X11_within l E h) ⟨rfl, rfl⟩ ⟨Nat.le_of_ble_eq_true rfl, Nat.le_of_ble_eq_true rfl⟩ rfl rfl (Nat.le_of_ble_eq_true rfl) ⟨Nat.zero_le _, Nat.zero_le _⟩ dX11_warm_25) (fun r5 b6 h => ?_)
      refine v_if_ne (pc := 28) (tgt := 34) hC dX11_warm_28 (by decide) h (fun h => ?_) (fun h => ?_)
      · skip
        refine v_iconst (pc := 34) (v := 0) hC dX11_warm_34 (by decide) ?_
        refine v_istore_n (pc := 35) (lv' := [(3, .int 0), (0, .ref (ad E 0)), (1, .int x1), (2, .int x2)]) hC dX11_warm_35 rfl (by decide) rfl ?_
        refine v_iconst (pc := 36) (v := 0) hC dX11_warm_36 (by decide) ?_
        refine v_istore (pc := 37) (lv' := [(4, .int 0), (3, .int 0), (0, .ref (ad E 0)), (1, .int x1), (2, .int x2)]) hC dX11_warm_37 (by decide) rfl ?_
        exact v_sub [2, 3, 4, 1, 0] rfl (jl_X11_warm_39 hC h)
      · skip
        refine v_bipush (pc := 31) (v := (-102)) hC dX11_warm_31 (by decide) ?_
        exact v_iret (pc := 33) hC dX11_warm_33 h
  · skip
    refine v_bipush (pc := 7) (v := (-103)) hC dX11_warm_7 (by decide) ?_
    exact v_iret (pc := 9) hC dX11_warm_9 h
def rm_X11_fat : Room := { frames := 1, cells := 0, slots := 0, locals := 22 }
def wp_X11_fat (x1 : Int32) (F : gS) (Q : Int32 → gS → Prop) : Prop :=
  wp_X11_hasPan F fun r1 =>
  if r1 = 0 then
    (Q (-103) F)
  else
    (wp_X11_within x1 0 9 F fun r3 =>
    if r3 = 0 then
      (Q (-102) F)
    else
      (Nm (F 26 2) fun n5 =>
      Nm (upF F 26 2 x1) fun F6 =>
      Q n5 F6))
set_option maxRecDepth 20000 in
set_option maxHeartbeats 4000000 in
theorem c_X11_fat (l : Launch) (E : gE) {x1 : Int32} {F : gS} {Q : Int32 → gS → Prop} (h : wp_X11_fat x1 F Q) : CtI l E yX11_fat cX11_fat 3 (some .int) rm_X11_fat [.ref (ad E 0), .int x1] F Q := by
  refine ct_of (by decide) (Nat.le_of_ble_eq_true rfl) (fun p e s m below meth c hC => ?_)
  generalize ([.ref (ad E 0), .int x1] : List Value).toArray = args at hC ⊢
  refine v_sub (lv' := [(0, .ref (ad E 0)), (1, .int x1)]) [0, 1] rfl ?_
  unfold wp_X11_fat at h
  refine v_aload_n (pc := 0) hC dX11_fat_0 rfl 0 rfl ?_
  refine v_cyp (pc := 1) (r_V (rest := []) hC ml_X11_153 mv_X11_hasPan (c_X11_hasPan l E h) ⟨rfl, rfl⟩ ⟨Nat.le_of_ble_eq_true rfl, Nat.le_of_ble_eq_true rfl⟩ kq_0 rfl (by decide) rfl rfl (Nat.le_of_ble_eq_true rfl) ⟨Nat.zero_le _, Nat.zero_le _⟩ dX11_fat_1) (fun r1 b2 h => ?_)
  refine v_if_ne (pc := 4) (tgt := 10) hC dX11_fat_4 (by decide) h (fun h => ?_) (fun h => ?_)
  · skip
    refine v_iload_n (pc := 10) hC dX11_fat_10 rfl 1 rfl ?_
    refine v_iconst (pc := 11) (v := 0) hC dX11_fat_11 (by decide) ?_
    refine v_bipush (pc := 12) (v := 9) hC dX11_fat_12 (by decide) ?_
    refine v_cyp (pc := 14) (r_S (rest := []) hC ml_X11_85 ms_X11_within (c_X11_within l E h) ⟨rfl, rfl⟩ ⟨Nat.le_of_ble_eq_true rfl, Nat.le_of_ble_eq_true rfl⟩ rfl rfl (Nat.le_of_ble_eq_true rfl) ⟨Nat.zero_le _, Nat.zero_le _⟩ dX11_fat_14) (fun r3 b4 h => ?_)
    refine v_if_ne (pc := 17) (tgt := 23) hC dX11_fat_17 (by decide) h (fun h => ?_) (fun h => ?_)
    · skip
      refine v_aload_n (pc := 23) hC dX11_fat_23 rfl 0 rfl ?_
      refine v_get (pc := 24) (v := .ref (ad E 26)) hC fl_X11_45 kq_0 rfl dX11_fat_24 ?_
      refine v_get (pc := 27) (v := .int (F 26 2)) hC fl_X11_167 kq_26 rfl dX11_fat_27 ?_
      refine v_nmi h (fun n5 h => ?_)
      refine v_istore_n (pc := 30) (lv' := [(2, .int n5), (0, .ref (ad E 0)), (1, .int x1)]) hC dX11_fat_30 rfl (by decide) rfl ?_
      refine v_aload_n (pc := 31) hC dX11_fat_31 rfl 1 rfl ?_
      refine v_get (pc := 32) (v := .ref (ad E 26)) hC fl_X11_45 kq_0 rfl dX11_fat_32 ?_
      refine v_iload_n (pc := 35) hC dX11_fat_35 rfl 2 rfl ?_
      refine v_puti (pc := 36) hC fp_X11_167 kq_26 (fs_1_2 E _ _ _) (fn_1_2 E _ _) dX11_fat_36 h (fun F6 h => ?_)
      refine v_iload_n (pc := 39) hC dX11_fat_39 rfl 0 rfl ?_
      exact v_iret (pc := 40) hC dX11_fat_40 h
    · skip
      refine v_bipush (pc := 20) (v := (-102)) hC dX11_fat_20 (by decide) ?_
      exact v_iret (pc := 22) hC dX11_fat_22 h
  · skip
    refine v_bipush (pc := 7) (v := (-103)) hC dX11_fat_7 (by decide) ?_
    exact v_iret (pc := 9) hC dX11_fat_9 h
def rm_X11_scrape : Room := { frames := 2, cells := 0, slots := 0, locals := 43 }
def wp_X11_scrape (F : gS) (Q : Int32 → gS → Prop) : Prop :=
  wp_X11_hasPan F fun r1 =>
  if r1 = 0 then
    (Q (-103) F)
  else
    (wp_X1_bitsTogether 26 F fun r3 =>
    wp_X1_clearBits 26 F fun F4 =>
    Q r3 F4)
set_option maxRecDepth 20000 in
set_option maxHeartbeats 4000000 in
theorem c_X11_scrape (l : Launch) (E : gE) {F : gS} {Q : Int32 → gS → Prop} (h : wp_X11_scrape F Q) : CtI l E yX11_scrape cX11_scrape 2 (some .int) rm_X11_scrape [.ref (ad E 0)] F Q := by
  refine ct_of (by decide) (Nat.le_of_ble_eq_true rfl) (fun p e s m below meth c hC => ?_)
  generalize ([.ref (ad E 0)] : List Value).toArray = args at hC ⊢
  refine v_sub (lv' := [(0, .ref (ad E 0))]) [0] rfl ?_
  unfold wp_X11_scrape at h
  refine v_aload_n (pc := 0) hC dX11_scrape_0 rfl 0 rfl ?_
  refine v_cyp (pc := 1) (r_V (rest := []) hC ml_X11_153 mv_X11_hasPan (c_X11_hasPan l E h) ⟨rfl, rfl⟩ ⟨Nat.le_of_ble_eq_true rfl, Nat.le_of_ble_eq_true rfl⟩ kq_0 rfl (by decide) rfl rfl (Nat.le_of_ble_eq_true rfl) ⟨Nat.zero_le _, Nat.zero_le _⟩ dX11_scrape_1) (fun r1 b2 h => ?_)
  refine v_if_ne (pc := 4) (tgt := 10) hC dX11_scrape_4 (by decide) h (fun h => ?_) (fun h => ?_)
  · skip
    refine v_aload_n (pc := 10) hC dX11_scrape_10 rfl 0 rfl ?_
    refine v_get (pc := 11) (v := .ref (ad E 26)) hC fl_X11_45 kq_0 rfl dX11_scrape_11 ?_
    refine v_cip (pc := 14) (r_V (rest := []) hC ml_X11_170 mv_X1_bitsTogether (c_X1_bitsTogether l E kq_26 h) ⟨rfl, rfl⟩ ⟨Nat.le_of_ble_eq_true rfl, Nat.le_of_ble_eq_true rfl⟩ kq_26 rfl (by decide) rfl rfl (Nat.le_of_ble_eq_true rfl) ⟨Nat.zero_le _, Nat.zero_le _⟩ dX11_scrape_14) (fun r3 h => ?_)
    refine v_istore_n (pc := 17) (lv' := [(1, .int r3), (0, .ref (ad E 0))]) hC dX11_scrape_17 rfl (by decide) rfl ?_
    refine v_aload_n (pc := 18) hC dX11_scrape_18 rfl 1 rfl ?_
    refine v_get (pc := 19) (v := .ref (ad E 26)) hC fl_X11_45 kq_0 rfl dX11_scrape_19 ?_
    refine v_cv (pc := 22) (r_V (rest := []) hC ml_X11_174 mv_X1_clearBits (c_X1_clearBits l E kq_26 h) ⟨rfl, rfl⟩ ⟨Nat.le_of_ble_eq_true rfl, Nat.le_of_ble_eq_true rfl⟩ kq_26 rfl (by decide) rfl rfl (Nat.le_of_ble_eq_true rfl) ⟨Nat.zero_le _, Nat.zero_le _⟩ dX11_scrape_22) (fun F4 h => ?_)
    refine v_iload_n (pc := 25) hC dX11_scrape_25 rfl 0 rfl ?_
    exact v_iret (pc := 26) hC dX11_scrape_26 h
  · skip
    refine v_bipush (pc := 7) (v := (-103)) hC dX11_scrape_7 (by decide) ?_
    exact v_iret (pc := 9) hC dX11_scrape_9 h
def rm_X11_fry : Room := { frames := 5, cells := 0, slots := 0, locals := 125 }
def wp_X11_fry (x1 : Int32) (F : gS) (Q : Int32 → gS → Prop) : Prop :=
  wp_X11_isPlan x1 F fun r1 =>
  if r1 = 0 then
    (Q (-101) F)
  else
    (wp_X11_hasPan F fun r3 =>
    if r3 = 0 then
      (Q (-103) F)
    else
      (if (F 0 11) < 24 then
        (vp_in (F 0 11) 24 ∧
        vp_in x1 6 ∧
        wp_X5_bake 26 (37 + 2 * x1.toNatClampNeg) (49 + 3 * (F 0 11).toNatClampNeg) F fun F7 =>
        Nm (upF F7 0 11 ((F7 0 11) + 1)) fun F8 =>
        vp_in 0 7 ∧
        Q (F8 (49 + 3 * (F 0 11).toNatClampNeg + 2) (0 : Int32).toNatClampNeg) F8)
      else
        (Q (-104) F)))
set_option maxRecDepth 20000 in
set_option maxHeartbeats 4000000 in
theorem c_X11_fry (l : Launch) (E : gE) {x1 : Int32} {F : gS} {Q : Int32 → gS → Prop} (h : wp_X11_fry x1 F Q) : CtI l E yX11_fry cX11_fry 3 (some .int) rm_X11_fry [.ref (ad E 0), .int x1] F Q := by
  refine ct_of (by decide) (Nat.le_of_ble_eq_true rfl) (fun p e s m below meth c hC => ?_)
  generalize ([.ref (ad E 0), .int x1] : List Value).toArray = args at hC ⊢
  refine v_sub (lv' := [(0, .ref (ad E 0)), (1, .int x1)]) [0, 1] rfl ?_
  unfold wp_X11_fry at h
  refine v_aload_n (pc := 0) hC dX11_fry_0 rfl 0 rfl ?_
  refine v_iload_n (pc := 1) hC dX11_fry_1 rfl 1 rfl ?_
  refine v_cyp (pc := 2) (r_V (rest := []) hC ml_X11_125 mv_X11_isPlan (c_X11_isPlan l E h) ⟨rfl, rfl⟩ ⟨Nat.le_of_ble_eq_true rfl, Nat.le_of_ble_eq_true rfl⟩ kq_0 rfl (by decide) rfl rfl (Nat.le_of_ble_eq_true rfl) ⟨Nat.zero_le _, Nat.zero_le _⟩ dX11_fry_2) (fun r1 b2 h => ?_)
  refine v_if_ne (pc := 5) (tgt := 11) hC dX11_fry_5 (by decide) h (fun h => ?_) (fun h => ?_)
  · skip
    refine v_aload_n (pc := 11) hC dX11_fry_11 rfl 0 rfl ?_
    refine v_cyp (pc := 12) (r_V (rest := []) hC ml_X11_153 mv_X11_hasPan (c_X11_hasPan l E h) ⟨rfl, rfl⟩ ⟨Nat.le_of_ble_eq_true rfl, Nat.le_of_ble_eq_true rfl⟩ kq_0 rfl (by decide) rfl rfl (Nat.le_of_ble_eq_true rfl) ⟨Nat.zero_le _, Nat.zero_le _⟩ dX11_fry_12) (fun r3 b4 h => ?_)
    refine v_if_ne (pc := 15) (tgt := 21) hC dX11_fry_15 (by decide) h (fun h => ?_) (fun h => ?_)
    · skip
      refine v_aload_n (pc := 21) hC dX11_fry_21 rfl 0 rfl ?_
      refine v_get (pc := 22) (v := .int (F 0 11)) hC fl_X11_106 kq_0 rfl dX11_fry_22 ?_
      refine v_bipush (pc := 25) (v := 24) hC dX11_fry_25 (by decide) ?_
      refine v_ic_lt (pc := 27) (tgt := 33) hC dX11_fry_27 (by decide) h (fun h => ?_) (fun h => ?_)
      · skip
        refine v_aload_n (pc := 33) hC dX11_fry_33 rfl 0 rfl ?_
        refine v_get (pc := 34) (v := .ref (ad E 33)) hC fl_X11_60 kq_0 rfl dX11_fry_34 ?_
        refine v_aload_n (pc := 37) hC dX11_fry_37 rfl 0 rfl ?_
        refine v_get (pc := 38) (v := .int (F 0 11)) hC fl_X11_106 kq_0 rfl dX11_fry_38 ?_
        have g5 := in_lt h.1
        refine v_aaldC (pc := 41) hC dX11_fry_41 h (fun h => ?_)
        refine v_astore_n (pc := 42) (lv' := [(2, .ref (ad E (49 + 3 * (F 0 11).toNatClampNeg))), (0, .ref (ad E 0)), (1, .int x1)]) hC dX11_fry_42 rfl (by decide) rfl ?_
        refine v_aload_n (pc := 43) hC dX11_fry_43 rfl 1 rfl ?_
        refine v_get (pc := 44) (v := .ref (ad E 9)) hC fl_X11_41 kq_0 rfl dX11_fry_44 ?_
        refine v_aload_n (pc := 47) hC dX11_fry_47 rfl 1 rfl ?_
        refine v_get (pc := 48) (v := .ref (ad E 26)) hC fl_X11_45 kq_0 rfl dX11_fry_48 ?_
        refine v_aload_n (pc := 51) hC dX11_fry_51 rfl 1 rfl ?_
        refine v_get (pc := 52) (v := .ref (ad E 32)) hC fl_X11_54 kq_0 rfl dX11_fry_52 ?_
        refine v_iload_n (pc := 55) hC dX11_fry_55 rfl 2 rfl ?_
        have g6 := in_lt h.1
        refine v_aaldP (pc := 56) hC dX11_fry_56 h (fun h => ?_)
        refine v_aload_n (pc := 57) hC dX11_fry_57 rfl 0 rfl ?_
        refine v_cv (pc := 58) (r_V (rest := []) hC ml_X11_177 mv_X5_bake (c_X5_bake l E kq_26 (kd_pl _ g6) (kd_ck _ g5) h) ⟨rfl, rfl⟩ ⟨Nat.le_of_ble_eq_true rfl, Nat.le_of_ble_eq_true rfl⟩ kq_9 rfl (by decide) rfl rfl (Nat.le_of_ble_eq_true rfl) ⟨Nat.zero_le _, Nat.zero_le _⟩ dX11_fry_58) (fun F7 h => ?_)
        refine v_aload_n (pc := 61) hC dX11_fry_61 rfl 1 rfl ?_
        refine v_dup (pc := 62) hC dX11_fry_62 rfl ?_
        refine v_get (pc := 63) (v := .int (F7 0 11)) hC fl_X11_106 kq_0 rfl dX11_fry_63 ?_
        refine v_iconst (pc := 66) (v := 1) hC dX11_fry_66 (by decide) ?_
        refine v_iadd (pc := 67) hC dX11_fry_67 ?_
        refine v_puti (pc := 68) hC fp_X11_106 kq_0 (fs_9_11 E _ _ _) (fn_9_11 E _ _) dX11_fry_68 h (fun F8 h => ?_)
        refine v_aload_n (pc := 71) hC dX11_fry_71 rfl 0 rfl ?_
        refine v_get (pc := 72) (v := .ref (ad E (49 + 3 * (F 0 11).toNatClampNeg + 2))) hC fl_X11_181 (kd_ck _ g5) rfl dX11_fry_72 ?_
        refine v_iconst (pc := 75) (v := 0) hC dX11_fry_75 (by decide) ?_
        refine v_iald (pc := 76) (n := 7) hC (kd_c2 (kd_ck _ g5)) (by decide) dX11_fry_76 h (fun h => ?_)
        exact v_iret (pc := 77) hC dX11_fry_77 h
      · skip
        refine v_bipush (pc := 30) (v := (-104)) hC dX11_fry_30 (by decide) ?_
        exact v_iret (pc := 32) hC dX11_fry_32 h
    · skip
      refine v_bipush (pc := 18) (v := (-103)) hC dX11_fry_18 (by decide) ?_
      exact v_iret (pc := 20) hC dX11_fry_20 h
  · skip
    refine v_bipush (pc := 8) (v := (-101)) hC dX11_fry_8 (by decide) ?_
    exact v_iret (pc := 10) hC dX11_fry_10 h
def rm_X11_cake : Room := { frames := 2, cells := 0, slots := 0, locals := 43 }
def wp_X11_cake (x1 : Int32) (x2 : Int32) (F : gS) (Q : Int32 → Prop) : Prop :=
  wp_X11_isCake x1 F fun r1 =>
  if r1 = 0 then
    (Q (-101))
  else
    (wp_X11_within x2 0 6 F fun r3 =>
    if r3 = 0 then
      (Q (-102))
    else
      (vp_in x1 24 ∧
      vp_in x2 7 ∧
      Q (F (49 + 3 * x1.toNatClampNeg + 2) x2.toNatClampNeg)))
set_option maxRecDepth 20000 in
set_option maxHeartbeats 4000000 in
theorem c_X11_cake (l : Launch) (E : gE) {x1 : Int32} {x2 : Int32} {F : gS} {Q : Int32 → Prop} (h : wp_X11_cake x1 x2 F Q) : CtI l E yX11_cake cX11_cake 3 (some .int) rm_X11_cake [.ref (ad E 0), .int x1, .int x2] F (fun r G => G = F ∧ Q r) := by
  refine ct_of (by decide) (Nat.le_of_ble_eq_true rfl) (fun p e s m below meth c hC => ?_)
  generalize ([.ref (ad E 0), .int x1, .int x2] : List Value).toArray = args at hC ⊢
  refine v_sub (lv' := [(0, .ref (ad E 0)), (1, .int x1), (2, .int x2)]) [0, 1, 2] rfl ?_
  unfold wp_X11_cake at h
  refine v_aload_n (pc := 0) hC dX11_cake_0 rfl 0 rfl ?_
  refine v_iload_n (pc := 1) hC dX11_cake_1 rfl 1 rfl ?_
  refine v_cyp (pc := 2) (r_V (rest := []) hC ml_X11_183 mv_X11_isCake (c_X11_isCake l E h) ⟨rfl, rfl⟩ ⟨Nat.le_of_ble_eq_true rfl, Nat.le_of_ble_eq_true rfl⟩ kq_0 rfl (by decide) rfl rfl (Nat.le_of_ble_eq_true rfl) ⟨Nat.zero_le _, Nat.zero_le _⟩ dX11_cake_2) (fun r1 b2 h => ?_)
  refine v_if_ne (pc := 5) (tgt := 11) hC dX11_cake_5 (by decide) h (fun h => ?_) (fun h => ?_)
  · skip
    refine v_iload_n (pc := 11) hC dX11_cake_11 rfl 2 rfl ?_
    refine v_iconst (pc := 12) (v := 0) hC dX11_cake_12 (by decide) ?_
    refine v_bipush (pc := 13) (v := 6) hC dX11_cake_13 (by decide) ?_
    refine v_cyp (pc := 15) (r_S (rest := []) hC ml_X11_85 ms_X11_within (c_X11_within l E h) ⟨rfl, rfl⟩ ⟨Nat.le_of_ble_eq_true rfl, Nat.le_of_ble_eq_true rfl⟩ rfl rfl (Nat.le_of_ble_eq_true rfl) ⟨Nat.zero_le _, Nat.zero_le _⟩ dX11_cake_15) (fun r3 b4 h => ?_)
    refine v_if_eq (pc := 18) (tgt := 35) hC dX11_cake_18 (by decide) h (fun h => ?_) (fun h => ?_)
    · skip
      refine v_bipush (pc := 35) (v := (-102)) hC dX11_cake_35 (by decide) ?_
      exact v_iret (pc := 37) hC dX11_cake_37 ⟨rfl, h⟩
    · skip
      refine v_aload_n (pc := 21) hC dX11_cake_21 rfl 0 rfl ?_
      refine v_get (pc := 22) (v := .ref (ad E 33)) hC fl_X11_60 kq_0 rfl dX11_cake_22 ?_
      refine v_iload_n (pc := 25) hC dX11_cake_25 rfl 1 rfl ?_
      have g5 := in_lt h.1
      refine v_aaldC (pc := 26) hC dX11_cake_26 h (fun h => ?_)
      refine v_get (pc := 27) (v := .ref (ad E (49 + 3 * x1.toNatClampNeg + 2))) hC fl_X11_181 (kd_ck _ g5) rfl dX11_cake_27 ?_
      refine v_iload_n (pc := 30) hC dX11_cake_30 rfl 2 rfl ?_
      refine v_iald (pc := 31) (n := 7) hC (kd_c2 (kd_ck _ g5)) (by decide) dX11_cake_31 h (fun h => ?_)
      refine v_goto (pc := 32) (tgt := 37) hC dX11_cake_32 (by decide) ?_
      exact v_iret (pc := 37) hC dX11_cake_37 ⟨rfl, h⟩
  · skip
    refine v_bipush (pc := 8) (v := (-101)) hC dX11_cake_8 (by decide) ?_
    exact v_iret (pc := 10) hC dX11_cake_10 ⟨rfl, h⟩
def rm_X11_as : Room := { frames := 2, cells := 0, slots := 0, locals := 43 }
def wp_X11_as (x1 : Int32) (x2 : Int32) (F : gS) (Q : Int32 → Prop) : Prop :=
  wp_X11_isCake x1 F fun r1 =>
  if r1 = 0 then
    (Q (-101))
  else
    (wp_X11_within x2 0 5 F fun r3 =>
    if r3 = 0 then
      (Q (-102))
    else
      (vp_in x1 24 ∧
      wp_X0_passesAs (49 + 3 * x1.toNatClampNeg) x2 F fun r6 =>
      if r6 = 0 then
        (Q (-1))
      else
        (Q x1)))
set_option maxRecDepth 20000 in
set_option maxHeartbeats 4000000 in
theorem c_X11_as (l : Launch) (E : gE) {x1 : Int32} {x2 : Int32} {F : gS} {Q : Int32 → Prop} (h : wp_X11_as x1 x2 F Q) : CtI l E yX11_as cX11_as 3 (some .int) rm_X11_as [.ref (ad E 0), .int x1, .int x2] F (fun r G => G = F ∧ Q r) := by
  refine ct_of (by decide) (Nat.le_of_ble_eq_true rfl) (fun p e s m below meth c hC => ?_)
  generalize ([.ref (ad E 0), .int x1, .int x2] : List Value).toArray = args at hC ⊢
  refine v_sub (lv' := [(0, .ref (ad E 0)), (1, .int x1), (2, .int x2)]) [0, 1, 2] rfl ?_
  unfold wp_X11_as at h
  refine v_aload_n (pc := 0) hC dX11_as_0 rfl 0 rfl ?_
  refine v_iload_n (pc := 1) hC dX11_as_1 rfl 1 rfl ?_
  refine v_cyp (pc := 2) (r_V (rest := []) hC ml_X11_183 mv_X11_isCake (c_X11_isCake l E h) ⟨rfl, rfl⟩ ⟨Nat.le_of_ble_eq_true rfl, Nat.le_of_ble_eq_true rfl⟩ kq_0 rfl (by decide) rfl rfl (Nat.le_of_ble_eq_true rfl) ⟨Nat.zero_le _, Nat.zero_le _⟩ dX11_as_2) (fun r1 b2 h => ?_)
  refine v_if_ne (pc := 5) (tgt := 11) hC dX11_as_5 (by decide) h (fun h => ?_) (fun h => ?_)
  · skip
    refine v_iload_n (pc := 11) hC dX11_as_11 rfl 2 rfl ?_
    refine v_iconst (pc := 12) (v := 0) hC dX11_as_12 (by decide) ?_
    refine v_iconst (pc := 13) (v := 5) hC dX11_as_13 (by decide) ?_
    refine v_cyp (pc := 14) (r_S (rest := []) hC ml_X11_85 ms_X11_within (c_X11_within l E h) ⟨rfl, rfl⟩ ⟨Nat.le_of_ble_eq_true rfl, Nat.le_of_ble_eq_true rfl⟩ rfl rfl (Nat.le_of_ble_eq_true rfl) ⟨Nat.zero_le _, Nat.zero_le _⟩ dX11_as_14) (fun r3 b4 h => ?_)
    refine v_if_ne (pc := 17) (tgt := 23) hC dX11_as_17 (by decide) h (fun h => ?_) (fun h => ?_)
    · skip
      refine v_aload_n (pc := 23) hC dX11_as_23 rfl 0 rfl ?_
      refine v_get (pc := 24) (v := .ref (ad E 33)) hC fl_X11_60 kq_0 rfl dX11_as_24 ?_
      refine v_iload_n (pc := 27) hC dX11_as_27 rfl 1 rfl ?_
      have g5 := in_lt h.1
      refine v_aaldC (pc := 28) hC dX11_as_28 h (fun h => ?_)
      refine v_iload_n (pc := 29) hC dX11_as_29 rfl 2 rfl ?_
      refine v_cyp (pc := 30) (r_V (rest := []) hC ml_X11_186 mv_X0_passesAs (c_X0_passesAs l E (kd_ck _ g5) h) ⟨rfl, rfl⟩ ⟨Nat.le_of_ble_eq_true rfl, Nat.le_of_ble_eq_true rfl⟩ (kd_ck _ g5) rfl (by decide) rfl rfl (Nat.le_of_ble_eq_true rfl) ⟨Nat.zero_le _, Nat.zero_le _⟩ dX11_as_30) (fun r6 b7 h => ?_)
      refine v_if_eq (pc := 33) (tgt := 40) hC dX11_as_33 (by decide) h (fun h => ?_) (fun h => ?_)
      · skip
        refine v_iconst (pc := 40) (v := (-1)) hC dX11_as_40 (by decide) ?_
        exact v_iret (pc := 41) hC dX11_as_41 ⟨rfl, h⟩
      · skip
        refine v_iload_n (pc := 36) hC dX11_as_36 rfl 1 rfl ?_
        refine v_goto (pc := 37) (tgt := 41) hC dX11_as_37 (by decide) ?_
        exact v_iret (pc := 41) hC dX11_as_41 ⟨rfl, h⟩
    · skip
      refine v_bipush (pc := 20) (v := (-102)) hC dX11_as_20 (by decide) ?_
      exact v_iret (pc := 22) hC dX11_as_22 ⟨rfl, h⟩
  · skip
    refine v_bipush (pc := 8) (v := (-101)) hC dX11_as_8 (by decide) ?_
    exact v_iret (pc := 10) hC dX11_as_10 ⟨rfl, h⟩
def rm_X11_thick : Room := { frames := 2, cells := 0, slots := 0, locals := 43 }
def wp_X11_thick (x1 : Int32) (x2 : Int32) (F : gS) (Q : Int32 → Prop) : Prop :=
  wp_X11_isCake x1 F fun r1 =>
  if r1 = 0 then
    (Q (-101))
  else
    (wp_X11_isCell x2 F fun r3 =>
    if r3 = 0 then
      (Q (-101))
    else
      (vp_in x1 24 ∧
      vp_in x2 16 ∧
      Q (F (49 + 3 * x1.toNatClampNeg + 1) x2.toNatClampNeg)))
set_option maxRecDepth 20000 in
set_option maxHeartbeats 4000000 in
theorem c_X11_thick (l : Launch) (E : gE) {x1 : Int32} {x2 : Int32} {F : gS} {Q : Int32 → Prop} (h : wp_X11_thick x1 x2 F Q) : CtI l E yX11_thick cX11_thick 3 (some .int) rm_X11_thick [.ref (ad E 0), .int x1, .int x2] F (fun r G => G = F ∧ Q r) := by
  refine ct_of (by decide) (Nat.le_of_ble_eq_true rfl) (fun p e s m below meth c hC => ?_)
  generalize ([.ref (ad E 0), .int x1, .int x2] : List Value).toArray = args at hC ⊢
  refine v_sub (lv' := [(0, .ref (ad E 0)), (1, .int x1), (2, .int x2)]) [0, 1, 2] rfl ?_
  unfold wp_X11_thick at h
  refine v_aload_n (pc := 0) hC dX11_thick_0 rfl 0 rfl ?_
  refine v_iload_n (pc := 1) hC dX11_thick_1 rfl 1 rfl ?_
  refine v_cyp (pc := 2) (r_V (rest := []) hC ml_X11_183 mv_X11_isCake (c_X11_isCake l E h) ⟨rfl, rfl⟩ ⟨Nat.le_of_ble_eq_true rfl, Nat.le_of_ble_eq_true rfl⟩ kq_0 rfl (by decide) rfl rfl (Nat.le_of_ble_eq_true rfl) ⟨Nat.zero_le _, Nat.zero_le _⟩ dX11_thick_2) (fun r1 b2 h => ?_)
  refine v_if_eq (pc := 5) (tgt := 16) hC dX11_thick_5 (by decide) h (fun h => ?_) (fun h => ?_)
  · skip
    refine v_bipush (pc := 16) (v := (-101)) hC dX11_thick_16 (by decide) ?_
    exact v_iret (pc := 18) hC dX11_thick_18 ⟨rfl, h⟩
  · skip
    refine v_aload_n (pc := 8) hC dX11_thick_8 rfl 0 rfl ?_
    refine v_iload_n (pc := 9) hC dX11_thick_9 rfl 2 rfl ?_
    refine v_cyp (pc := 10) (r_V (rest := []) hC ml_X11_136 mv_X11_isCell (c_X11_isCell l E h) ⟨rfl, rfl⟩ ⟨Nat.le_of_ble_eq_true rfl, Nat.le_of_ble_eq_true rfl⟩ kq_0 rfl (by decide) rfl rfl (Nat.le_of_ble_eq_true rfl) ⟨Nat.zero_le _, Nat.zero_le _⟩ dX11_thick_10) (fun r3 b4 h => ?_)
    refine v_if_ne (pc := 13) (tgt := 19) hC dX11_thick_13 (by decide) h (fun h => ?_) (fun h => ?_)
    · skip
      refine v_aload_n (pc := 19) hC dX11_thick_19 rfl 0 rfl ?_
      refine v_get (pc := 20) (v := .ref (ad E 33)) hC fl_X11_60 kq_0 rfl dX11_thick_20 ?_
      refine v_iload_n (pc := 23) hC dX11_thick_23 rfl 1 rfl ?_
      have g5 := in_lt h.1
      refine v_aaldC (pc := 24) hC dX11_thick_24 h (fun h => ?_)
      refine v_get (pc := 25) (v := .ref (ad E (49 + 3 * x1.toNatClampNeg + 1))) hC fl_X11_189 (kd_ck _ g5) rfl dX11_thick_25 ?_
      refine v_iload_n (pc := 28) hC dX11_thick_28 rfl 2 rfl ?_
      refine v_iald (pc := 29) (n := 16) hC (kd_c1 (kd_ck _ g5)) (by decide) dX11_thick_29 h (fun h => ?_)
      exact v_iret (pc := 30) hC dX11_thick_30 ⟨rfl, h⟩
    · skip
      refine v_bipush (pc := 16) (v := (-101)) hC dX11_thick_16 (by decide) ?_
      exact v_iret (pc := 18) hC dX11_thick_18 ⟨rfl, h⟩
def rm_X11_tried : Room := { frames := 6, cells := 0, slots := 0, locals := 147 }
def wp_X11_tried (x1 : Int32) (x2 : Int32) (F : gS) (Q : Int32 → gS → Prop) : Prop :=
  wp_X11_isPlan x1 F fun r1 =>
  if r1 = 0 then
    (Q (-101) F)
  else
    (wp_X11_hasPan F fun r3 =>
    if r3 = 0 then
      (Q (-103) F)
    else
      (wp_X11_within x2 0 6 F fun r5 =>
      if r5 = 0 then
        (Q (-102) F)
      else
        (vp_in x1 6 ∧
        wp_X2_next 26 (37 + 2 * x1.toNatClampNeg) F fun F8 =>
        vp_in x2 7 ∧
        Q (F8 23 x2.toNatClampNeg) F8)))
set_option maxRecDepth 20000 in
set_option maxHeartbeats 4000000 in
theorem c_X11_tried (l : Launch) (E : gE) {x1 : Int32} {x2 : Int32} {F : gS} {Q : Int32 → gS → Prop} (h : wp_X11_tried x1 x2 F Q) : CtI l E yX11_tried cX11_tried 3 (some .int) rm_X11_tried [.ref (ad E 0), .int x1, .int x2] F Q := by
  refine ct_of (by decide) (Nat.le_of_ble_eq_true rfl) (fun p e s m below meth c hC => ?_)
  generalize ([.ref (ad E 0), .int x1, .int x2] : List Value).toArray = args at hC ⊢
  refine v_sub (lv' := [(0, .ref (ad E 0)), (1, .int x1), (2, .int x2)]) [0, 1, 2] rfl ?_
  unfold wp_X11_tried at h
  refine v_aload_n (pc := 0) hC dX11_tried_0 rfl 0 rfl ?_
  refine v_iload_n (pc := 1) hC dX11_tried_1 rfl 1 rfl ?_
  refine v_cyp (pc := 2) (r_V (rest := []) hC ml_X11_125 mv_X11_isPlan (c_X11_isPlan l E h) ⟨rfl, rfl⟩ ⟨Nat.le_of_ble_eq_true rfl, Nat.le_of_ble_eq_true rfl⟩ kq_0 rfl (by decide) rfl rfl (Nat.le_of_ble_eq_true rfl) ⟨Nat.zero_le _, Nat.zero_le _⟩ dX11_tried_2) (fun r1 b2 h => ?_)
  refine v_if_ne (pc := 5) (tgt := 11) hC dX11_tried_5 (by decide) h (fun h => ?_) (fun h => ?_)
  · skip
    refine v_aload_n (pc := 11) hC dX11_tried_11 rfl 0 rfl ?_
    refine v_cyp (pc := 12) (r_V (rest := []) hC ml_X11_153 mv_X11_hasPan (c_X11_hasPan l E h) ⟨rfl, rfl⟩ ⟨Nat.le_of_ble_eq_true rfl, Nat.le_of_ble_eq_true rfl⟩ kq_0 rfl (by decide) rfl rfl (Nat.le_of_ble_eq_true rfl) ⟨Nat.zero_le _, Nat.zero_le _⟩ dX11_tried_12) (fun r3 b4 h => ?_)
    refine v_if_ne (pc := 15) (tgt := 21) hC dX11_tried_15 (by decide) h (fun h => ?_) (fun h => ?_)
    · skip
      refine v_iload_n (pc := 21) hC dX11_tried_21 rfl 2 rfl ?_
      refine v_iconst (pc := 22) (v := 0) hC dX11_tried_22 (by decide) ?_
      refine v_bipush (pc := 23) (v := 6) hC dX11_tried_23 (by decide) ?_
      refine v_cyp (pc := 25) (r_S (rest := []) hC ml_X11_85 ms_X11_within (c_X11_within l E h) ⟨rfl, rfl⟩ ⟨Nat.le_of_ble_eq_true rfl, Nat.le_of_ble_eq_true rfl⟩ rfl rfl (Nat.le_of_ble_eq_true rfl) ⟨Nat.zero_le _, Nat.zero_le _⟩ dX11_tried_25) (fun r5 b6 h => ?_)
      refine v_if_ne (pc := 28) (tgt := 34) hC dX11_tried_28 (by decide) h (fun h => ?_) (fun h => ?_)
      · skip
        refine v_aload_n (pc := 34) hC dX11_tried_34 rfl 0 rfl ?_
        refine v_get (pc := 35) (v := .ref (ad E 14)) hC fl_X11_33 kq_0 rfl dX11_tried_35 ?_
        refine v_aload_n (pc := 38) hC dX11_tried_38 rfl 0 rfl ?_
        refine v_get (pc := 39) (v := .ref (ad E 26)) hC fl_X11_45 kq_0 rfl dX11_tried_39 ?_
        refine v_aload_n (pc := 42) hC dX11_tried_42 rfl 0 rfl ?_
        refine v_get (pc := 43) (v := .ref (ad E 32)) hC fl_X11_54 kq_0 rfl dX11_tried_43 ?_
        refine v_iload_n (pc := 46) hC dX11_tried_46 rfl 1 rfl ?_
        have g7 := in_lt h.1
        refine v_aaldP (pc := 47) hC dX11_tried_47 h (fun h => ?_)
        refine v_cr (pc := 48) (r_V (rest := []) hC ml_X11_192 mv_X2_next (c_X2_next l E kq_26 (kd_pl _ g7) h) ⟨rfl, rfl⟩ ⟨Nat.le_of_ble_eq_true rfl, Nat.le_of_ble_eq_true rfl⟩ kq_14 rfl (by decide) rfl rfl (Nat.le_of_ble_eq_true rfl) ⟨Nat.zero_le _, Nat.zero_le _⟩ dX11_tried_48) (fun F8 h => ?_)
        refine v_get (pc := 51) (v := .ref (ad E 23)) hC fl_X11_181 kq_21 rfl dX11_tried_51 ?_
        refine v_iload_n (pc := 54) hC dX11_tried_54 rfl 2 rfl ?_
        refine v_iald (pc := 55) (n := 7) hC kq_23 (by decide) dX11_tried_55 h (fun h => ?_)
        exact v_iret (pc := 56) hC dX11_tried_56 h
      · skip
        refine v_bipush (pc := 31) (v := (-102)) hC dX11_tried_31 (by decide) ?_
        exact v_iret (pc := 33) hC dX11_tried_33 h
    · skip
      refine v_bipush (pc := 18) (v := (-103)) hC dX11_tried_18 (by decide) ?_
      exact v_iret (pc := 20) hC dX11_tried_20 h
  · skip
    refine v_bipush (pc := 8) (v := (-101)) hC dX11_tried_8 (by decide) ?_
    exact v_iret (pc := 10) hC dX11_tried_10 h
def rm_X11_from : Room := { frames := 6, cells := 0, slots := 0, locals := 149 }
def wp_X11_from (x1 : Int32) (F : gS) (Q : Int32 → gS → Prop) : Prop :=
  wp_X11_isPlan x1 F fun r1 =>
  if r1 = 0 then
    (Q (-101) F)
  else
    (wp_X11_hasPan F fun r3 =>
    if r3 = 0 then
      (Q (-103) F)
    else
      (vp_in x1 6 ∧
      wp_X2_firstOfTheRight 26 (37 + 2 * x1.toNatClampNeg) F fun r6 F7 =>
      Q r6 F7))
set_option maxRecDepth 20000 in
set_option maxHeartbeats 4000000 in
theorem c_X11_from (l : Launch) (E : gE) {x1 : Int32} {F : gS} {Q : Int32 → gS → Prop} (h : wp_X11_from x1 F Q) : CtI l E yX11_from cX11_from 2 (some .int) rm_X11_from [.ref (ad E 0), .int x1] F Q := by
  refine ct_of (by decide) (Nat.le_of_ble_eq_true rfl) (fun p e s m below meth c hC => ?_)
  generalize ([.ref (ad E 0), .int x1] : List Value).toArray = args at hC ⊢
  refine v_sub (lv' := [(0, .ref (ad E 0)), (1, .int x1)]) [0, 1] rfl ?_
  unfold wp_X11_from at h
  refine v_aload_n (pc := 0) hC dX11_from_0 rfl 0 rfl ?_
  refine v_iload_n (pc := 1) hC dX11_from_1 rfl 1 rfl ?_
  refine v_cyp (pc := 2) (r_V (rest := []) hC ml_X11_125 mv_X11_isPlan (c_X11_isPlan l E h) ⟨rfl, rfl⟩ ⟨Nat.le_of_ble_eq_true rfl, Nat.le_of_ble_eq_true rfl⟩ kq_0 rfl (by decide) rfl rfl (Nat.le_of_ble_eq_true rfl) ⟨Nat.zero_le _, Nat.zero_le _⟩ dX11_from_2) (fun r1 b2 h => ?_)
  refine v_if_ne (pc := 5) (tgt := 11) hC dX11_from_5 (by decide) h (fun h => ?_) (fun h => ?_)
  · skip
    refine v_aload_n (pc := 11) hC dX11_from_11 rfl 0 rfl ?_
    refine v_cyp (pc := 12) (r_V (rest := []) hC ml_X11_153 mv_X11_hasPan (c_X11_hasPan l E h) ⟨rfl, rfl⟩ ⟨Nat.le_of_ble_eq_true rfl, Nat.le_of_ble_eq_true rfl⟩ kq_0 rfl (by decide) rfl rfl (Nat.le_of_ble_eq_true rfl) ⟨Nat.zero_le _, Nat.zero_le _⟩ dX11_from_12) (fun r3 b4 h => ?_)
    refine v_if_eq (pc := 15) (tgt := 38) hC dX11_from_15 (by decide) h (fun h => ?_) (fun h => ?_)
    · skip
      refine v_bipush (pc := 38) (v := (-103)) hC dX11_from_38 (by decide) ?_
      exact v_iret (pc := 40) hC dX11_from_40 h
    · skip
      refine v_aload_n (pc := 18) hC dX11_from_18 rfl 0 rfl ?_
      refine v_get (pc := 19) (v := .ref (ad E 14)) hC fl_X11_33 kq_0 rfl dX11_from_19 ?_
      refine v_aload_n (pc := 22) hC dX11_from_22 rfl 0 rfl ?_
      refine v_get (pc := 23) (v := .ref (ad E 26)) hC fl_X11_45 kq_0 rfl dX11_from_23 ?_
      refine v_aload_n (pc := 26) hC dX11_from_26 rfl 0 rfl ?_
      refine v_get (pc := 27) (v := .ref (ad E 32)) hC fl_X11_54 kq_0 rfl dX11_from_27 ?_
      refine v_iload_n (pc := 30) hC dX11_from_30 rfl 1 rfl ?_
      have g5 := in_lt h.1
      refine v_aaldP (pc := 31) hC dX11_from_31 h (fun h => ?_)
      refine v_ci (pc := 32) (r_V (rest := []) hC ml_X11_196 mv_X2_firstOfTheRight (c_X2_firstOfTheRight l E kq_26 (kd_pl _ g5) h) ⟨rfl, rfl⟩ ⟨Nat.le_of_ble_eq_true rfl, Nat.le_of_ble_eq_true rfl⟩ kq_14 rfl (by decide) rfl rfl (Nat.le_of_ble_eq_true rfl) ⟨Nat.zero_le _, Nat.zero_le _⟩ dX11_from_32) (fun r6 F7 h => ?_)
      refine v_goto (pc := 35) (tgt := 40) hC dX11_from_35 (by decide) ?_
      exact v_iret (pc := 40) hC dX11_from_40 h
  · skip
    refine v_bipush (pc := 8) (v := (-101)) hC dX11_from_8 (by decide) ?_
    exact v_iret (pc := 10) hC dX11_from_10 h
def rm_X11_dogs : Room := { frames := 6, cells := 0, slots := 0, locals := 149 }
def wp_X11_dogs (x1 : Int32) (F : gS) (Q : Int32 → gS → Prop) : Prop :=
  wp_X11_isPlan x1 F fun r1 =>
  if r1 = 0 then
    (Q (-101) F)
  else
    (wp_X11_hasPan F fun r3 =>
    if r3 = 0 then
      (Q (-103) F)
    else
      (vp_in x1 6 ∧
      wp_X2_notRight 26 (37 + 2 * x1.toNatClampNeg) F fun r6 F7 =>
      Q r6 F7))
set_option maxRecDepth 20000 in
set_option maxHeartbeats 4000000 in
theorem c_X11_dogs (l : Launch) (E : gE) {x1 : Int32} {F : gS} {Q : Int32 → gS → Prop} (h : wp_X11_dogs x1 F Q) : CtI l E yX11_dogs cX11_dogs 2 (some .int) rm_X11_dogs [.ref (ad E 0), .int x1] F Q := by
  refine ct_of (by decide) (Nat.le_of_ble_eq_true rfl) (fun p e s m below meth c hC => ?_)
  generalize ([.ref (ad E 0), .int x1] : List Value).toArray = args at hC ⊢
  refine v_sub (lv' := [(0, .ref (ad E 0)), (1, .int x1)]) [0, 1] rfl ?_
  unfold wp_X11_dogs at h
  refine v_aload_n (pc := 0) hC dX11_dogs_0 rfl 0 rfl ?_
  refine v_iload_n (pc := 1) hC dX11_dogs_1 rfl 1 rfl ?_
  refine v_cyp (pc := 2) (r_V (rest := []) hC ml_X11_125 mv_X11_isPlan (c_X11_isPlan l E h) ⟨rfl, rfl⟩ ⟨Nat.le_of_ble_eq_true rfl, Nat.le_of_ble_eq_true rfl⟩ kq_0 rfl (by decide) rfl rfl (Nat.le_of_ble_eq_true rfl) ⟨Nat.zero_le _, Nat.zero_le _⟩ dX11_dogs_2) (fun r1 b2 h => ?_)
  refine v_if_ne (pc := 5) (tgt := 11) hC dX11_dogs_5 (by decide) h (fun h => ?_) (fun h => ?_)
  · skip
    refine v_aload_n (pc := 11) hC dX11_dogs_11 rfl 0 rfl ?_
    refine v_cyp (pc := 12) (r_V (rest := []) hC ml_X11_153 mv_X11_hasPan (c_X11_hasPan l E h) ⟨rfl, rfl⟩ ⟨Nat.le_of_ble_eq_true rfl, Nat.le_of_ble_eq_true rfl⟩ kq_0 rfl (by decide) rfl rfl (Nat.le_of_ble_eq_true rfl) ⟨Nat.zero_le _, Nat.zero_le _⟩ dX11_dogs_12) (fun r3 b4 h => ?_)
    refine v_if_eq (pc := 15) (tgt := 38) hC dX11_dogs_15 (by decide) h (fun h => ?_) (fun h => ?_)
    · skip
      refine v_bipush (pc := 38) (v := (-103)) hC dX11_dogs_38 (by decide) ?_
      exact v_iret (pc := 40) hC dX11_dogs_40 h
    · skip
      refine v_aload_n (pc := 18) hC dX11_dogs_18 rfl 0 rfl ?_
      refine v_get (pc := 19) (v := .ref (ad E 14)) hC fl_X11_33 kq_0 rfl dX11_dogs_19 ?_
      refine v_aload_n (pc := 22) hC dX11_dogs_22 rfl 0 rfl ?_
      refine v_get (pc := 23) (v := .ref (ad E 26)) hC fl_X11_45 kq_0 rfl dX11_dogs_23 ?_
      refine v_aload_n (pc := 26) hC dX11_dogs_26 rfl 0 rfl ?_
      refine v_get (pc := 27) (v := .ref (ad E 32)) hC fl_X11_54 kq_0 rfl dX11_dogs_27 ?_
      refine v_iload_n (pc := 30) hC dX11_dogs_30 rfl 1 rfl ?_
      have g5 := in_lt h.1
      refine v_aaldP (pc := 31) hC dX11_dogs_31 h (fun h => ?_)
      refine v_ci (pc := 32) (r_V (rest := []) hC ml_X11_200 mv_X2_notRight (c_X2_notRight l E kq_26 (kd_pl _ g5) h) ⟨rfl, rfl⟩ ⟨Nat.le_of_ble_eq_true rfl, Nat.le_of_ble_eq_true rfl⟩ kq_14 rfl (by decide) rfl rfl (Nat.le_of_ble_eq_true rfl) ⟨Nat.zero_le _, Nat.zero_le _⟩ dX11_dogs_32) (fun r6 F7 h => ?_)
      refine v_goto (pc := 35) (tgt := 40) hC dX11_dogs_35 (by decide) ?_
      exact v_iret (pc := 40) hC dX11_dogs_40 h
  · skip
    refine v_bipush (pc := 8) (v := (-101)) hC dX11_dogs_8 (by decide) ?_
    exact v_iret (pc := 10) hC dX11_dogs_10 h
def rm_X11_why : Room := { frames := 7, cells := 0, slots := 0, locals := 171 }
def wp_X11_why (x1 : Int32) (F : gS) (Q : Int32 → gS → Prop) : Prop :=
  wp_X11_isPlan x1 F fun r1 =>
  if r1 = 0 then
    (Q (-101) F)
  else
    (wp_X11_hasPan F fun r3 =>
    if r3 = 0 then
      (Q (-103) F)
    else
      (vp_in x1 6 ∧
      wp_X2_reasons 26 (37 + 2 * x1.toNatClampNeg) F fun r6 F7 =>
      Q r6 F7))
set_option maxRecDepth 20000 in
set_option maxHeartbeats 4000000 in
theorem c_X11_why (l : Launch) (E : gE) {x1 : Int32} {F : gS} {Q : Int32 → gS → Prop} (h : wp_X11_why x1 F Q) : CtI l E yX11_why cX11_why 2 (some .int) rm_X11_why [.ref (ad E 0), .int x1] F Q := by
  refine ct_of (by decide) (Nat.le_of_ble_eq_true rfl) (fun p e s m below meth c hC => ?_)
  generalize ([.ref (ad E 0), .int x1] : List Value).toArray = args at hC ⊢
  refine v_sub (lv' := [(0, .ref (ad E 0)), (1, .int x1)]) [0, 1] rfl ?_
  unfold wp_X11_why at h
  refine v_aload_n (pc := 0) hC dX11_why_0 rfl 0 rfl ?_
  refine v_iload_n (pc := 1) hC dX11_why_1 rfl 1 rfl ?_
  refine v_cyp (pc := 2) (r_V (rest := []) hC ml_X11_125 mv_X11_isPlan (c_X11_isPlan l E h) ⟨rfl, rfl⟩ ⟨Nat.le_of_ble_eq_true rfl, Nat.le_of_ble_eq_true rfl⟩ kq_0 rfl (by decide) rfl rfl (Nat.le_of_ble_eq_true rfl) ⟨Nat.zero_le _, Nat.zero_le _⟩ dX11_why_2) (fun r1 b2 h => ?_)
  refine v_if_ne (pc := 5) (tgt := 11) hC dX11_why_5 (by decide) h (fun h => ?_) (fun h => ?_)
  · skip
    refine v_aload_n (pc := 11) hC dX11_why_11 rfl 0 rfl ?_
    refine v_cyp (pc := 12) (r_V (rest := []) hC ml_X11_153 mv_X11_hasPan (c_X11_hasPan l E h) ⟨rfl, rfl⟩ ⟨Nat.le_of_ble_eq_true rfl, Nat.le_of_ble_eq_true rfl⟩ kq_0 rfl (by decide) rfl rfl (Nat.le_of_ble_eq_true rfl) ⟨Nat.zero_le _, Nat.zero_le _⟩ dX11_why_12) (fun r3 b4 h => ?_)
    refine v_if_eq (pc := 15) (tgt := 38) hC dX11_why_15 (by decide) h (fun h => ?_) (fun h => ?_)
    · skip
      refine v_bipush (pc := 38) (v := (-103)) hC dX11_why_38 (by decide) ?_
      exact v_iret (pc := 40) hC dX11_why_40 h
    · skip
      refine v_aload_n (pc := 18) hC dX11_why_18 rfl 0 rfl ?_
      refine v_get (pc := 19) (v := .ref (ad E 14)) hC fl_X11_33 kq_0 rfl dX11_why_19 ?_
      refine v_aload_n (pc := 22) hC dX11_why_22 rfl 0 rfl ?_
      refine v_get (pc := 23) (v := .ref (ad E 26)) hC fl_X11_45 kq_0 rfl dX11_why_23 ?_
      refine v_aload_n (pc := 26) hC dX11_why_26 rfl 0 rfl ?_
      refine v_get (pc := 27) (v := .ref (ad E 32)) hC fl_X11_54 kq_0 rfl dX11_why_27 ?_
      refine v_iload_n (pc := 30) hC dX11_why_30 rfl 1 rfl ?_
      have g5 := in_lt h.1
      refine v_aaldP (pc := 31) hC dX11_why_31 h (fun h => ?_)
      refine v_ci (pc := 32) (r_V (rest := []) hC ml_X11_203 mv_X2_reasons (c_X2_reasons l E kq_26 (kd_pl _ g5) h) ⟨rfl, rfl⟩ ⟨Nat.le_of_ble_eq_true rfl, Nat.le_of_ble_eq_true rfl⟩ kq_14 rfl (by decide) rfl rfl (Nat.le_of_ble_eq_true rfl) ⟨Nat.zero_le _, Nat.zero_le _⟩ dX11_why_32) (fun r6 F7 h => ?_)
      refine v_goto (pc := 35) (tgt := 40) hC dX11_why_35 (by decide) ?_
      exact v_iret (pc := 40) hC dX11_why_40 h
  · skip
    refine v_bipush (pc := 8) (v := (-101)) hC dX11_why_8 (by decide) ?_
    exact v_iret (pc := 10) hC dX11_why_10 h
def rm_X11_bestFire : Room := { frames := 7, cells := 0, slots := 0, locals := 174 }
def wp_X11_bestFire (x1 : Int32) (x2 : Int32) (x3 : Int32) (F : gS) (Q : Int32 → gS → Prop) : Prop :=
  wp_X11_isPlan x1 F fun r1 =>
  if r1 = 0 then
    (Q (-101) F)
  else
    (wp_X11_hasPan F fun r3 =>
    if r3 = 0 then
      (Q (-103) F)
    else
      (wp_X11_within x2 1 12 F fun r5 =>
      if r5 = 0 then
        (Q (-102) F)
      else
        (wp_X11_within x3 0 1 F fun r7 =>
        if r7 = 0 then
          (Q (-102) F)
        else
          (vp_in x1 6 ∧
          wp_X2_findFire 26 (37 + 2 * x1.toNatClampNeg) x2 F fun F10 =>
          if x3 = 0 then
            (Q (F10 14 5) F10)
          else
            (Q (F10 14 7) F10)))))
set_option maxRecDepth 20000 in
set_option maxHeartbeats 4000000 in
theorem c_X11_bestFire (l : Launch) (E : gE) {x1 : Int32} {x2 : Int32} {x3 : Int32} {F : gS} {Q : Int32 → gS → Prop} (h : wp_X11_bestFire x1 x2 x3 F Q) : CtI l E yX11_bestFire cX11_bestFire 4 (some .int) rm_X11_bestFire [.ref (ad E 0), .int x1, .int x2, .int x3] F Q := by
  refine ct_of (by decide) (Nat.le_of_ble_eq_true rfl) (fun p e s m below meth c hC => ?_)
  generalize ([.ref (ad E 0), .int x1, .int x2, .int x3] : List Value).toArray = args at hC ⊢
  refine v_sub (lv' := [(0, .ref (ad E 0)), (1, .int x1), (2, .int x2), (3, .int x3)]) [0, 1, 2, 3] rfl ?_
  unfold wp_X11_bestFire at h
  refine v_aload_n (pc := 0) hC dX11_bestFire_0 rfl 0 rfl ?_
  refine v_iload_n (pc := 1) hC dX11_bestFire_1 rfl 1 rfl ?_
  refine v_cyp (pc := 2) (r_V (rest := []) hC ml_X11_125 mv_X11_isPlan (c_X11_isPlan l E h) ⟨rfl, rfl⟩ ⟨Nat.le_of_ble_eq_true rfl, Nat.le_of_ble_eq_true rfl⟩ kq_0 rfl (by decide) rfl rfl (Nat.le_of_ble_eq_true rfl) ⟨Nat.zero_le _, Nat.zero_le _⟩ dX11_bestFire_2) (fun r1 b2 h => ?_)
  refine v_if_ne (pc := 5) (tgt := 11) hC dX11_bestFire_5 (by decide) h (fun h => ?_) (fun h => ?_)
  · skip
    refine v_aload_n (pc := 11) hC dX11_bestFire_11 rfl 0 rfl ?_
    refine v_cyp (pc := 12) (r_V (rest := []) hC ml_X11_153 mv_X11_hasPan (c_X11_hasPan l E h) ⟨rfl, rfl⟩ ⟨Nat.le_of_ble_eq_true rfl, Nat.le_of_ble_eq_true rfl⟩ kq_0 rfl (by decide) rfl rfl (Nat.le_of_ble_eq_true rfl) ⟨Nat.zero_le _, Nat.zero_le _⟩ dX11_bestFire_12) (fun r3 b4 h => ?_)
    refine v_if_ne (pc := 15) (tgt := 21) hC dX11_bestFire_15 (by decide) h (fun h => ?_) (fun h => ?_)
    · skip
      refine v_iload_n (pc := 21) hC dX11_bestFire_21 rfl 2 rfl ?_
      refine v_iconst (pc := 22) (v := 1) hC dX11_bestFire_22 (by decide) ?_
      refine v_bipush (pc := 23) (v := 12) hC dX11_bestFire_23 (by decide) ?_
      refine v_cyp (pc := 25) (r_S (rest := []) hC ml_X11_85 ms_X11_within (c_X11_within l E h) ⟨rfl, rfl⟩ ⟨Nat.le_of_ble_eq_true rfl, Nat.le_of_ble_eq_true rfl⟩ rfl rfl (Nat.le_of_ble_eq_true rfl) ⟨Nat.zero_le _, Nat.zero_le _⟩ dX11_bestFire_25) (fun r5 b6 h => ?_)
      refine v_if_eq (pc := 28) (tgt := 40) hC dX11_bestFire_28 (by decide) h (fun h => ?_) (fun h => ?_)
      · skip
        refine v_bipush (pc := 40) (v := (-102)) hC dX11_bestFire_40 (by decide) ?_
        exact v_iret (pc := 42) hC dX11_bestFire_42 h
      · skip
        refine v_iload_n (pc := 31) hC dX11_bestFire_31 rfl 3 rfl ?_
        refine v_iconst (pc := 32) (v := 0) hC dX11_bestFire_32 (by decide) ?_
        refine v_iconst (pc := 33) (v := 1) hC dX11_bestFire_33 (by decide) ?_
        refine v_cyp (pc := 34) (r_S (rest := []) hC ml_X11_85 ms_X11_within (c_X11_within l E h) ⟨rfl, rfl⟩ ⟨Nat.le_of_ble_eq_true rfl, Nat.le_of_ble_eq_true rfl⟩ rfl rfl (Nat.le_of_ble_eq_true rfl) ⟨Nat.zero_le _, Nat.zero_le _⟩ dX11_bestFire_34) (fun r7 b8 h => ?_)
        refine v_if_ne (pc := 37) (tgt := 43) hC dX11_bestFire_37 (by decide) h (fun h => ?_) (fun h => ?_)
        · skip
          refine v_aload_n (pc := 43) hC dX11_bestFire_43 rfl 0 rfl ?_
          refine v_get (pc := 44) (v := .ref (ad E 14)) hC fl_X11_33 kq_0 rfl dX11_bestFire_44 ?_
          refine v_aload_n (pc := 47) hC dX11_bestFire_47 rfl 0 rfl ?_
          refine v_get (pc := 48) (v := .ref (ad E 26)) hC fl_X11_45 kq_0 rfl dX11_bestFire_48 ?_
          refine v_aload_n (pc := 51) hC dX11_bestFire_51 rfl 0 rfl ?_
          refine v_get (pc := 52) (v := .ref (ad E 32)) hC fl_X11_54 kq_0 rfl dX11_bestFire_52 ?_
          refine v_iload_n (pc := 55) hC dX11_bestFire_55 rfl 1 rfl ?_
          have g9 := in_lt h.1
          refine v_aaldP (pc := 56) hC dX11_bestFire_56 h (fun h => ?_)
          refine v_iload_n (pc := 57) hC dX11_bestFire_57 rfl 2 rfl ?_
          refine v_cv (pc := 58) (r_V (rest := []) hC ml_X11_206 mv_X2_findFire (c_X2_findFire l E kq_26 (kd_pl _ g9) h) ⟨rfl, rfl⟩ ⟨Nat.le_of_ble_eq_true rfl, Nat.le_of_ble_eq_true rfl⟩ kq_14 rfl (by decide) rfl rfl (Nat.le_of_ble_eq_true rfl) ⟨Nat.zero_le _, Nat.zero_le _⟩ dX11_bestFire_58) (fun F10 h => ?_)
          refine v_iload_n (pc := 61) hC dX11_bestFire_61 rfl 3 rfl ?_
          refine v_if_ne (pc := 62) (tgt := 75) hC dX11_bestFire_62 (by decide) h (fun h => ?_) (fun h => ?_)
          · skip
            refine v_aload_n (pc := 75) hC dX11_bestFire_75 rfl 0 rfl ?_
            refine v_get (pc := 76) (v := .ref (ad E 14)) hC fl_X11_33 kq_0 rfl dX11_bestFire_76 ?_
            refine v_get (pc := 79) (v := .int (F10 14 7)) hC fl_X11_213 kq_14 rfl dX11_bestFire_79 ?_
            exact v_iret (pc := 82) hC dX11_bestFire_82 h
          · skip
            refine v_aload_n (pc := 65) hC dX11_bestFire_65 rfl 0 rfl ?_
            refine v_get (pc := 66) (v := .ref (ad E 14)) hC fl_X11_33 kq_0 rfl dX11_bestFire_66 ?_
            refine v_get (pc := 69) (v := .int (F10 14 5)) hC fl_X11_210 kq_14 rfl dX11_bestFire_69 ?_
            refine v_goto (pc := 72) (tgt := 82) hC dX11_bestFire_72 (by decide) ?_
            exact v_iret (pc := 82) hC dX11_bestFire_82 h
        · skip
          refine v_bipush (pc := 40) (v := (-102)) hC dX11_bestFire_40 (by decide) ?_
          exact v_iret (pc := 42) hC dX11_bestFire_42 h
    · skip
      refine v_bipush (pc := 18) (v := (-103)) hC dX11_bestFire_18 (by decide) ?_
      exact v_iret (pc := 20) hC dX11_bestFire_20 h
  · skip
    refine v_bipush (pc := 8) (v := (-101)) hC dX11_bestFire_8 (by decide) ?_
    exact v_iret (pc := 10) hC dX11_bestFire_10 h
def rm_X11_bestSwing : Room := { frames := 5, cells := 0, slots := 0, locals := 125 }
def wp_X11_bestSwing (x1 : Int32) (x2 : Int32) (x3 : Int32) (F : gS) (Q : Int32 → gS → Prop) : Prop :=
  wp_X11_isPlan x1 F fun r1 =>
  if r1 = 0 then
    (Q (-101) F)
  else
    (wp_X11_hasPan F fun r3 =>
    if r3 = 0 then
      (Q (-103) F)
    else
      (wp_X11_within x2 1 3 F fun r5 =>
      if r5 = 0 then
        (Q (-102) F)
      else
        (wp_X11_within x3 0 3 F fun r7 =>
        if r7 = 0 then
          (Q (-102) F)
        else
          (if (F 0 15) < 30 then
            (Nm (upF F 0 15 ((F 0 15) + 1)) fun F9 =>
            vp_in x1 6 ∧
            wp_X2_findSwings 26 (37 + 2 * x1.toNatClampNeg) x2 F9 fun F11 =>
            if x3 = 3 then
              (Q (F11 14 7) F11)
            else
              (if x2 ≤ x3 then
                (Q (-1) F11)
              else
                (wp_X2_swingOf (F11 14 5) x2 x3 F11 fun r12 =>
                Q r12 F11)))
          else
            (Q (-103) F)))))
set_option maxRecDepth 20000 in
set_option maxHeartbeats 4000000 in
theorem c_X11_bestSwing (l : Launch) (E : gE) {x1 : Int32} {x2 : Int32} {x3 : Int32} {F : gS} {Q : Int32 → gS → Prop} (h : wp_X11_bestSwing x1 x2 x3 F Q) : CtI l E yX11_bestSwing cX11_bestSwing 4 (some .int) rm_X11_bestSwing [.ref (ad E 0), .int x1, .int x2, .int x3] F Q := by
  refine ct_of (by decide) (Nat.le_of_ble_eq_true rfl) (fun p e s m below meth c hC => ?_)
  generalize ([.ref (ad E 0), .int x1, .int x2, .int x3] : List Value).toArray = args at hC ⊢
  refine v_sub (lv' := [(0, .ref (ad E 0)), (1, .int x1), (2, .int x2), (3, .int x3)]) [0, 1, 2, 3] rfl ?_
  unfold wp_X11_bestSwing at h
  refine v_aload_n (pc := 0) hC dX11_bestSwing_0 rfl 0 rfl ?_
  refine v_iload_n (pc := 1) hC dX11_bestSwing_1 rfl 1 rfl ?_
  refine v_cyp (pc := 2) (r_V (rest := []) hC ml_X11_125 mv_X11_isPlan (c_X11_isPlan l E h) ⟨rfl, rfl⟩ ⟨Nat.le_of_ble_eq_true rfl, Nat.le_of_ble_eq_true rfl⟩ kq_0 rfl (by decide) rfl rfl (Nat.le_of_ble_eq_true rfl) ⟨Nat.zero_le _, Nat.zero_le _⟩ dX11_bestSwing_2) (fun r1 b2 h => ?_)
  refine v_if_ne (pc := 5) (tgt := 11) hC dX11_bestSwing_5 (by decide) h (fun h => ?_) (fun h => ?_)
  · skip
    refine v_aload_n (pc := 11) hC dX11_bestSwing_11 rfl 0 rfl ?_
    refine v_cyp (pc := 12) (r_V (rest := []) hC ml_X11_153 mv_X11_hasPan (c_X11_hasPan l E h) ⟨rfl, rfl⟩ ⟨Nat.le_of_ble_eq_true rfl, Nat.le_of_ble_eq_true rfl⟩ kq_0 rfl (by decide) rfl rfl (Nat.le_of_ble_eq_true rfl) ⟨Nat.zero_le _, Nat.zero_le _⟩ dX11_bestSwing_12) (fun r3 b4 h => ?_)
    refine v_if_ne (pc := 15) (tgt := 21) hC dX11_bestSwing_15 (by decide) h (fun h => ?_) (fun h => ?_)
    · skip
      refine v_iload_n (pc := 21) hC dX11_bestSwing_21 rfl 2 rfl ?_
      refine v_iconst (pc := 22) (v := 1) hC dX11_bestSwing_22 (by decide) ?_
      refine v_iconst (pc := 23) (v := 3) hC dX11_bestSwing_23 (by decide) ?_
      refine v_cyp (pc := 24) (r_S (rest := []) hC ml_X11_85 ms_X11_within (c_X11_within l E h) ⟨rfl, rfl⟩ ⟨Nat.le_of_ble_eq_true rfl, Nat.le_of_ble_eq_true rfl⟩ rfl rfl (Nat.le_of_ble_eq_true rfl) ⟨Nat.zero_le _, Nat.zero_le _⟩ dX11_bestSwing_24) (fun r5 b6 h => ?_)
      refine v_if_eq (pc := 27) (tgt := 39) hC dX11_bestSwing_27 (by decide) h (fun h => ?_) (fun h => ?_)
      · skip
        refine v_bipush (pc := 39) (v := (-102)) hC dX11_bestSwing_39 (by decide) ?_
        exact v_iret (pc := 41) hC dX11_bestSwing_41 h
      · skip
        refine v_iload_n (pc := 30) hC dX11_bestSwing_30 rfl 3 rfl ?_
        refine v_iconst (pc := 31) (v := 0) hC dX11_bestSwing_31 (by decide) ?_
        refine v_iconst (pc := 32) (v := 3) hC dX11_bestSwing_32 (by decide) ?_
        refine v_cyp (pc := 33) (r_S (rest := []) hC ml_X11_85 ms_X11_within (c_X11_within l E h) ⟨rfl, rfl⟩ ⟨Nat.le_of_ble_eq_true rfl, Nat.le_of_ble_eq_true rfl⟩ rfl rfl (Nat.le_of_ble_eq_true rfl) ⟨Nat.zero_le _, Nat.zero_le _⟩ dX11_bestSwing_33) (fun r7 b8 h => ?_)
        refine v_if_ne (pc := 36) (tgt := 42) hC dX11_bestSwing_36 (by decide) h (fun h => ?_) (fun h => ?_)
        · skip
          refine v_aload_n (pc := 42) hC dX11_bestSwing_42 rfl 0 rfl ?_
          refine v_get (pc := 43) (v := .int (F 0 15)) hC fl_X11_216 kq_0 rfl dX11_bestSwing_43 ?_
          refine v_bipush (pc := 46) (v := 30) hC dX11_bestSwing_46 (by decide) ?_
          refine v_ic_lt (pc := 48) (tgt := 54) hC dX11_bestSwing_48 (by decide) h (fun h => ?_) (fun h => ?_)
          · skip
            refine v_aload_n (pc := 54) hC dX11_bestSwing_54 rfl 0 rfl ?_
            refine v_dup (pc := 55) hC dX11_bestSwing_55 rfl ?_
            refine v_get (pc := 56) (v := .int (F 0 15)) hC fl_X11_216 kq_0 rfl dX11_bestSwing_56 ?_
            refine v_iconst (pc := 59) (v := 1) hC dX11_bestSwing_59 (by decide) ?_
            refine v_iadd (pc := 60) hC dX11_bestSwing_60 ?_
            refine v_puti (pc := 61) hC fp_X11_216 kq_0 (fs_9_15 E _ _ _) (fn_9_15 E _ _) dX11_bestSwing_61 h (fun F9 h => ?_)
            refine v_aload_n (pc := 64) hC dX11_bestSwing_64 rfl 0 rfl ?_
            refine v_get (pc := 65) (v := .ref (ad E 14)) hC fl_X11_33 kq_0 rfl dX11_bestSwing_65 ?_
            refine v_aload_n (pc := 68) hC dX11_bestSwing_68 rfl 0 rfl ?_
            refine v_get (pc := 69) (v := .ref (ad E 26)) hC fl_X11_45 kq_0 rfl dX11_bestSwing_69 ?_
            refine v_aload_n (pc := 72) hC dX11_bestSwing_72 rfl 0 rfl ?_
            refine v_get (pc := 73) (v := .ref (ad E 32)) hC fl_X11_54 kq_0 rfl dX11_bestSwing_73 ?_
            refine v_iload_n (pc := 76) hC dX11_bestSwing_76 rfl 1 rfl ?_
            have g10 := in_lt h.1
            refine v_aaldP (pc := 77) hC dX11_bestSwing_77 h (fun h => ?_)
            refine v_iload_n (pc := 78) hC dX11_bestSwing_78 rfl 2 rfl ?_
            refine v_cv (pc := 79) (r_V (rest := []) hC ml_X11_219 mv_X2_findSwings (c_X2_findSwings l E kq_26 (kd_pl _ g10) h) ⟨rfl, rfl⟩ ⟨Nat.le_of_ble_eq_true rfl, Nat.le_of_ble_eq_true rfl⟩ kq_14 rfl (by decide) rfl rfl (Nat.le_of_ble_eq_true rfl) ⟨Nat.zero_le _, Nat.zero_le _⟩ dX11_bestSwing_79) (fun F11 h => ?_)
            refine v_iload_n (pc := 82) hC dX11_bestSwing_82 rfl 3 rfl ?_
            refine v_iconst (pc := 83) (v := 3) hC dX11_bestSwing_83 (by decide) ?_
            refine v_ic_ne (pc := 84) (tgt := 95) hC dX11_bestSwing_84 (by decide) h (fun h => ?_) (fun h => ?_)
            · skip
              refine v_iload_n (pc := 95) hC dX11_bestSwing_95 rfl 3 rfl ?_
              refine v_iload_n (pc := 96) hC dX11_bestSwing_96 rfl 2 rfl ?_
              refine v_ic_ge (pc := 97) (tgt := 115) hC dX11_bestSwing_97 (by decide) h (fun h => ?_) (fun h => ?_)
              · skip
                refine v_iconst (pc := 115) (v := (-1)) hC dX11_bestSwing_115 (by decide) ?_
                exact v_iret (pc := 116) hC dX11_bestSwing_116 h
              · skip
                refine v_aload_n (pc := 100) hC dX11_bestSwing_100 rfl 0 rfl ?_
                refine v_get (pc := 101) (v := .ref (ad E 14)) hC fl_X11_33 kq_0 rfl dX11_bestSwing_101 ?_
                refine v_get (pc := 104) (v := .int (F11 14 5)) hC fl_X11_210 kq_14 rfl dX11_bestSwing_104 ?_
                refine v_iload_n (pc := 107) hC dX11_bestSwing_107 rfl 2 rfl ?_
                refine v_iload_n (pc := 108) hC dX11_bestSwing_108 rfl 3 rfl ?_
                refine v_cip (pc := 109) (r_S (rest := []) hC ml_X11_222 ms_X2_swingOf (c_X2_swingOf l E h) ⟨rfl, rfl⟩ ⟨Nat.le_of_ble_eq_true rfl, Nat.le_of_ble_eq_true rfl⟩ rfl rfl (Nat.le_of_ble_eq_true rfl) ⟨Nat.zero_le _, Nat.zero_le _⟩ dX11_bestSwing_109) (fun r12 h => ?_)
                refine v_goto (pc := 112) (tgt := 116) hC dX11_bestSwing_112 (by decide) ?_
                exact v_iret (pc := 116) hC dX11_bestSwing_116 h
            · skip
              refine v_aload_n (pc := 87) hC dX11_bestSwing_87 rfl 0 rfl ?_
              refine v_get (pc := 88) (v := .ref (ad E 14)) hC fl_X11_33 kq_0 rfl dX11_bestSwing_88 ?_
              refine v_get (pc := 91) (v := .int (F11 14 7)) hC fl_X11_213 kq_14 rfl dX11_bestSwing_91 ?_
              exact v_iret (pc := 94) hC dX11_bestSwing_94 h
          · skip
            refine v_bipush (pc := 51) (v := (-103)) hC dX11_bestSwing_51 (by decide) ?_
            exact v_iret (pc := 53) hC dX11_bestSwing_53 h
        · skip
          refine v_bipush (pc := 39) (v := (-102)) hC dX11_bestSwing_39 (by decide) ?_
          exact v_iret (pc := 41) hC dX11_bestSwing_41 h
    · skip
      refine v_bipush (pc := 18) (v := (-103)) hC dX11_bestSwing_18 (by decide) ?_
      exact v_iret (pc := 20) hC dX11_bestSwing_20 h
  · skip
    refine v_bipush (pc := 8) (v := (-101)) hC dX11_bestSwing_8 (by decide) ?_
    exact v_iret (pc := 10) hC dX11_bestSwing_10 h
def rm_X11_nextTwo : Room := { frames := 7, cells := 0, slots := 0, locals := 174 }
def wp_X11_nextTwo (x1 : Int32) (F : gS) (Q : Int32 → gS → Prop) : Prop :=
  wp_X11_hasPan F fun r1 =>
  if r1 = 0 then
    (Q (-103) F)
  else
    (if (F 0 10) = 0 then
      (Q (-103) F)
    else
      (wp_X11_within x1 0 2 F fun r3 =>
      if r3 = 0 then
        (Q (-102) F)
      else
        (if (F 0 15) < 30 then
          (Nm (upF F 0 15 ((F 0 15) + 1)) fun F5 =>
          wp_X2_findTwo 26 (F5 0 10) F5 fun F6 =>
          if x1 = 2 then
            (Q (F6 14 7) F6)
          else
            (if x1 = 0 then
              (Q (F6 14 5) F6)
            else
              (Q (F6 14 6) F6)))
        else
          (Q (-103) F))))
set_option maxRecDepth 20000 in
set_option maxHeartbeats 4000000 in
theorem c_X11_nextTwo (l : Launch) (E : gE) {x1 : Int32} {F : gS} {Q : Int32 → gS → Prop} (h : wp_X11_nextTwo x1 F Q) : CtI l E yX11_nextTwo cX11_nextTwo 2 (some .int) rm_X11_nextTwo [.ref (ad E 0), .int x1] F Q := by
  refine ct_of (by decide) (Nat.le_of_ble_eq_true rfl) (fun p e s m below meth c hC => ?_)
  generalize ([.ref (ad E 0), .int x1] : List Value).toArray = args at hC ⊢
  refine v_sub (lv' := [(0, .ref (ad E 0)), (1, .int x1)]) [0, 1] rfl ?_
  unfold wp_X11_nextTwo at h
  refine v_aload_n (pc := 0) hC dX11_nextTwo_0 rfl 0 rfl ?_
  refine v_cyp (pc := 1) (r_V (rest := []) hC ml_X11_153 mv_X11_hasPan (c_X11_hasPan l E h) ⟨rfl, rfl⟩ ⟨Nat.le_of_ble_eq_true rfl, Nat.le_of_ble_eq_true rfl⟩ kq_0 rfl (by decide) rfl rfl (Nat.le_of_ble_eq_true rfl) ⟨Nat.zero_le _, Nat.zero_le _⟩ dX11_nextTwo_1) (fun r1 b2 h => ?_)
  refine v_if_eq (pc := 4) (tgt := 14) hC dX11_nextTwo_4 (by decide) h (fun h => ?_) (fun h => ?_)
  · skip
    refine v_bipush (pc := 14) (v := (-103)) hC dX11_nextTwo_14 (by decide) ?_
    exact v_iret (pc := 16) hC dX11_nextTwo_16 h
  · skip
    refine v_aload_n (pc := 7) hC dX11_nextTwo_7 rfl 0 rfl ?_
    refine v_get (pc := 8) (v := .int (F 0 10)) hC fl_X11_119 kq_0 rfl dX11_nextTwo_8 ?_
    refine v_if_ne (pc := 11) (tgt := 17) hC dX11_nextTwo_11 (by decide) h (fun h => ?_) (fun h => ?_)
    · skip
      refine v_iload_n (pc := 17) hC dX11_nextTwo_17 rfl 1 rfl ?_
      refine v_iconst (pc := 18) (v := 0) hC dX11_nextTwo_18 (by decide) ?_
      refine v_iconst (pc := 19) (v := 2) hC dX11_nextTwo_19 (by decide) ?_
      refine v_cyp (pc := 20) (r_S (rest := []) hC ml_X11_85 ms_X11_within (c_X11_within l E h) ⟨rfl, rfl⟩ ⟨Nat.le_of_ble_eq_true rfl, Nat.le_of_ble_eq_true rfl⟩ rfl rfl (Nat.le_of_ble_eq_true rfl) ⟨Nat.zero_le _, Nat.zero_le _⟩ dX11_nextTwo_20) (fun r3 b4 h => ?_)
      refine v_if_ne (pc := 23) (tgt := 29) hC dX11_nextTwo_23 (by decide) h (fun h => ?_) (fun h => ?_)
      · skip
        refine v_aload_n (pc := 29) hC dX11_nextTwo_29 rfl 0 rfl ?_
        refine v_get (pc := 30) (v := .int (F 0 15)) hC fl_X11_216 kq_0 rfl dX11_nextTwo_30 ?_
        refine v_bipush (pc := 33) (v := 30) hC dX11_nextTwo_33 (by decide) ?_
        refine v_ic_lt (pc := 35) (tgt := 41) hC dX11_nextTwo_35 (by decide) h (fun h => ?_) (fun h => ?_)
        · skip
          refine v_aload_n (pc := 41) hC dX11_nextTwo_41 rfl 0 rfl ?_
          refine v_dup (pc := 42) hC dX11_nextTwo_42 rfl ?_
          refine v_get (pc := 43) (v := .int (F 0 15)) hC fl_X11_216 kq_0 rfl dX11_nextTwo_43 ?_
          refine v_iconst (pc := 46) (v := 1) hC dX11_nextTwo_46 (by decide) ?_
          refine v_iadd (pc := 47) hC dX11_nextTwo_47 ?_
          refine v_puti (pc := 48) hC fp_X11_216 kq_0 (fs_9_15 E _ _ _) (fn_9_15 E _ _) dX11_nextTwo_48 h (fun F5 h => ?_)
          refine v_aload_n (pc := 51) hC dX11_nextTwo_51 rfl 0 rfl ?_
          refine v_get (pc := 52) (v := .ref (ad E 14)) hC fl_X11_33 kq_0 rfl dX11_nextTwo_52 ?_
          refine v_aload_n (pc := 55) hC dX11_nextTwo_55 rfl 0 rfl ?_
          refine v_get (pc := 56) (v := .ref (ad E 26)) hC fl_X11_45 kq_0 rfl dX11_nextTwo_56 ?_
          refine v_aload_n (pc := 59) hC dX11_nextTwo_59 rfl 0 rfl ?_
          refine v_get (pc := 60) (v := .ref (ad E 32)) hC fl_X11_54 kq_0 rfl dX11_nextTwo_60 ?_
          refine v_aload_n (pc := 63) hC dX11_nextTwo_63 rfl 0 rfl ?_
          refine v_get (pc := 64) (v := .int (F5 0 10)) hC fl_X11_119 kq_0 rfl dX11_nextTwo_64 ?_
          refine v_cv (pc := 67) (r_V (rest := []) hC ml_X11_226 mv_X2_findTwo (c_X2_findTwo l E kq_26 h) ⟨rfl, rfl⟩ ⟨Nat.le_of_ble_eq_true rfl, Nat.le_of_ble_eq_true rfl⟩ kq_14 rfl (by decide) rfl rfl (Nat.le_of_ble_eq_true rfl) ⟨Nat.zero_le _, Nat.zero_le _⟩ dX11_nextTwo_67) (fun F6 h => ?_)
          refine v_iload_n (pc := 70) hC dX11_nextTwo_70 rfl 1 rfl ?_
          refine v_iconst (pc := 71) (v := 2) hC dX11_nextTwo_71 (by decide) ?_
          refine v_ic_ne (pc := 72) (tgt := 83) hC dX11_nextTwo_72 (by decide) h (fun h => ?_) (fun h => ?_)
          · skip
            refine v_iload_n (pc := 83) hC dX11_nextTwo_83 rfl 1 rfl ?_
            refine v_if_ne (pc := 84) (tgt := 97) hC dX11_nextTwo_84 (by decide) h (fun h => ?_) (fun h => ?_)
            · skip
              refine v_aload_n (pc := 97) hC dX11_nextTwo_97 rfl 0 rfl ?_
              refine v_get (pc := 98) (v := .ref (ad E 14)) hC fl_X11_33 kq_0 rfl dX11_nextTwo_98 ?_
              refine v_get (pc := 101) (v := .int (F6 14 6)) hC fl_X11_230 kq_14 rfl dX11_nextTwo_101 ?_
              exact v_iret (pc := 104) hC dX11_nextTwo_104 h
            · skip
              refine v_aload_n (pc := 87) hC dX11_nextTwo_87 rfl 0 rfl ?_
              refine v_get (pc := 88) (v := .ref (ad E 14)) hC fl_X11_33 kq_0 rfl dX11_nextTwo_88 ?_
              refine v_get (pc := 91) (v := .int (F6 14 5)) hC fl_X11_210 kq_14 rfl dX11_nextTwo_91 ?_
              refine v_goto (pc := 94) (tgt := 104) hC dX11_nextTwo_94 (by decide) ?_
              exact v_iret (pc := 104) hC dX11_nextTwo_104 h
          · skip
            refine v_aload_n (pc := 75) hC dX11_nextTwo_75 rfl 0 rfl ?_
            refine v_get (pc := 76) (v := .ref (ad E 14)) hC fl_X11_33 kq_0 rfl dX11_nextTwo_76 ?_
            refine v_get (pc := 79) (v := .int (F6 14 7)) hC fl_X11_213 kq_14 rfl dX11_nextTwo_79 ?_
            exact v_iret (pc := 82) hC dX11_nextTwo_82 h
        · skip
          refine v_bipush (pc := 38) (v := (-103)) hC dX11_nextTwo_38 (by decide) ?_
          exact v_iret (pc := 40) hC dX11_nextTwo_40 h
      · skip
        refine v_bipush (pc := 26) (v := (-102)) hC dX11_nextTwo_26 (by decide) ?_
        exact v_iret (pc := 28) hC dX11_nextTwo_28 h
    · skip
      refine v_bipush (pc := 14) (v := (-103)) hC dX11_nextTwo_14 (by decide) ?_
      exact v_iret (pc := 16) hC dX11_nextTwo_16 h
def rm_X11_rounds : Room := { frames := 2, cells := 0, slots := 0, locals := 52 }
def wp_X11_rounds (x1 : Int32) (x2 : Int32) (x3 : Int32) (x4 : Int32) (x5 : Int32) (x6 : Int32) (F : gS) (Q : Int32 → gS → Prop) : Prop :=
  wp_X11_within x1 1 9 F fun r1 =>
  if r1 = 0 then
    (Q (-102) F)
  else
    (wp_X11_within x2 1 99 F fun r3 =>
    if r3 = 0 then
      (Q (-102) F)
    else
      (wp_X11_within x3 1 99 F fun r5 =>
      if r5 = 0 then
        (Q (-102) F)
      else
        (wp_X11_within x4 1 9 F fun r7 =>
        if r7 = 0 then
          (Q (-102) F)
        else
          (wp_X11_within x5 0 999 F fun r9 =>
          if r9 = 0 then
            (Q (-102) F)
          else
            (wp_X11_within x6 0 1 F fun r11 =>
            if r11 = 0 then
              (Q (-102) F)
            else
              (wp_X3_work x1 x2 x3 x4 x5 F fun F13 =>
              if x6 = 0 then
                (Q (F13 34 2) F13)
              else
                (Q (F13 34 3) F13)))))))
set_option maxRecDepth 20000 in
set_option maxHeartbeats 4000000 in
theorem c_X11_rounds (l : Launch) (E : gE) {x1 : Int32} {x2 : Int32} {x3 : Int32} {x4 : Int32} {x5 : Int32} {x6 : Int32} {F : gS} {Q : Int32 → gS → Prop} (h : wp_X11_rounds x1 x2 x3 x4 x5 x6 F Q) : CtI l E yX11_rounds cX11_rounds 7 (some .int) rm_X11_rounds [.ref (ad E 0), .int x1, .int x2, .int x3, .int x4, .int x5, .int x6] F Q := by
  refine ct_of (by decide) (Nat.le_of_ble_eq_true rfl) (fun p e s m below meth c hC => ?_)
  generalize ([.ref (ad E 0), .int x1, .int x2, .int x3, .int x4, .int x5, .int x6] : List Value).toArray = args at hC ⊢
  refine v_sub (lv' := [(0, .ref (ad E 0)), (1, .int x1), (2, .int x2), (3, .int x3), (4, .int x4), (5, .int x5), (6, .int x6)]) [0, 1, 2, 3, 4, 5, 6] rfl ?_
  unfold wp_X11_rounds at h
  refine v_iload_n (pc := 0) hC dX11_rounds_0 rfl 1 rfl ?_
  refine v_iconst (pc := 1) (v := 1) hC dX11_rounds_1 (by decide) ?_
  refine v_bipush (pc := 2) (v := 9) hC dX11_rounds_2 (by decide) ?_
  refine v_cyp (pc := 4) (r_S (rest := []) hC ml_X11_85 ms_X11_within (c_X11_within l E h) ⟨rfl, rfl⟩ ⟨Nat.le_of_ble_eq_true rfl, Nat.le_of_ble_eq_true rfl⟩ rfl rfl (Nat.le_of_ble_eq_true rfl) ⟨Nat.zero_le _, Nat.zero_le _⟩ dX11_rounds_4) (fun r1 b2 h => ?_)
  refine v_if_eq (pc := 7) (tgt := 63) hC dX11_rounds_7 (by decide) h (fun h => ?_) (fun h => ?_)
  · skip
    refine v_bipush (pc := 63) (v := (-102)) hC dX11_rounds_63 (by decide) ?_
    exact v_iret (pc := 65) hC dX11_rounds_65 h
  · skip
    refine v_iload_n (pc := 10) hC dX11_rounds_10 rfl 2 rfl ?_
    refine v_iconst (pc := 11) (v := 1) hC dX11_rounds_11 (by decide) ?_
    refine v_bipush (pc := 12) (v := 99) hC dX11_rounds_12 (by decide) ?_
    refine v_cyp (pc := 14) (r_S (rest := []) hC ml_X11_85 ms_X11_within (c_X11_within l E h) ⟨rfl, rfl⟩ ⟨Nat.le_of_ble_eq_true rfl, Nat.le_of_ble_eq_true rfl⟩ rfl rfl (Nat.le_of_ble_eq_true rfl) ⟨Nat.zero_le _, Nat.zero_le _⟩ dX11_rounds_14) (fun r3 b4 h => ?_)
    refine v_if_eq (pc := 17) (tgt := 63) hC dX11_rounds_17 (by decide) h (fun h => ?_) (fun h => ?_)
    · skip
      refine v_bipush (pc := 63) (v := (-102)) hC dX11_rounds_63 (by decide) ?_
      exact v_iret (pc := 65) hC dX11_rounds_65 h
    · skip
      refine v_iload_n (pc := 20) hC dX11_rounds_20 rfl 3 rfl ?_
      refine v_iconst (pc := 21) (v := 1) hC dX11_rounds_21 (by decide) ?_
      refine v_bipush (pc := 22) (v := 99) hC dX11_rounds_22 (by decide) ?_
      refine v_cyp (pc := 24) (r_S (rest := []) hC ml_X11_85 ms_X11_within (c_X11_within l E h) ⟨rfl, rfl⟩ ⟨Nat.le_of_ble_eq_true rfl, Nat.le_of_ble_eq_true rfl⟩ rfl rfl (Nat.le_of_ble_eq_true rfl) ⟨Nat.zero_le _, Nat.zero_le _⟩ dX11_rounds_24) (fun r5 b6 h => ?_)
      refine v_if_eq (pc := 27) (tgt := 63) hC dX11_rounds_27 (by decide) h (fun h => ?_) (fun h => ?_)
      · skip
        refine v_bipush (pc := 63) (v := (-102)) hC dX11_rounds_63 (by decide) ?_
        exact v_iret (pc := 65) hC dX11_rounds_65 h
      · skip
        refine v_iload (pc := 30) hC dX11_rounds_30 4 rfl ?_
        refine v_iconst (pc := 32) (v := 1) hC dX11_rounds_32 (by decide) ?_
        refine v_bipush (pc := 33) (v := 9) hC dX11_rounds_33 (by decide) ?_
        refine v_cyp (pc := 35) (r_S (rest := []) hC ml_X11_85 ms_X11_within (c_X11_within l E h) ⟨rfl, rfl⟩ ⟨Nat.le_of_ble_eq_true rfl, Nat.le_of_ble_eq_true rfl⟩ rfl rfl (Nat.le_of_ble_eq_true rfl) ⟨Nat.zero_le _, Nat.zero_le _⟩ dX11_rounds_35) (fun r7 b8 h => ?_)
        refine v_if_eq (pc := 38) (tgt := 63) hC dX11_rounds_38 (by decide) h (fun h => ?_) (fun h => ?_)
        · skip
          refine v_bipush (pc := 63) (v := (-102)) hC dX11_rounds_63 (by decide) ?_
          exact v_iret (pc := 65) hC dX11_rounds_65 h
        · skip
          refine v_iload (pc := 41) hC dX11_rounds_41 5 rfl ?_
          refine v_iconst (pc := 43) (v := 0) hC dX11_rounds_43 (by decide) ?_
          refine v_sipush (pc := 44) (v := 999) hC dX11_rounds_44 (by decide) ?_
          refine v_cyp (pc := 47) (r_S (rest := []) hC ml_X11_85 ms_X11_within (c_X11_within l E h) ⟨rfl, rfl⟩ ⟨Nat.le_of_ble_eq_true rfl, Nat.le_of_ble_eq_true rfl⟩ rfl rfl (Nat.le_of_ble_eq_true rfl) ⟨Nat.zero_le _, Nat.zero_le _⟩ dX11_rounds_47) (fun r9 b10 h => ?_)
          refine v_if_eq (pc := 50) (tgt := 63) hC dX11_rounds_50 (by decide) h (fun h => ?_) (fun h => ?_)
          · skip
            refine v_bipush (pc := 63) (v := (-102)) hC dX11_rounds_63 (by decide) ?_
            exact v_iret (pc := 65) hC dX11_rounds_65 h
          · skip
            refine v_iload (pc := 53) hC dX11_rounds_53 6 rfl ?_
            refine v_iconst (pc := 55) (v := 0) hC dX11_rounds_55 (by decide) ?_
            refine v_iconst (pc := 56) (v := 1) hC dX11_rounds_56 (by decide) ?_
            refine v_cyp (pc := 57) (r_S (rest := []) hC ml_X11_85 ms_X11_within (c_X11_within l E h) ⟨rfl, rfl⟩ ⟨Nat.le_of_ble_eq_true rfl, Nat.le_of_ble_eq_true rfl⟩ rfl rfl (Nat.le_of_ble_eq_true rfl) ⟨Nat.zero_le _, Nat.zero_le _⟩ dX11_rounds_57) (fun r11 b12 h => ?_)
            refine v_if_ne (pc := 60) (tgt := 66) hC dX11_rounds_60 (by decide) h (fun h => ?_) (fun h => ?_)
            · skip
              refine v_aload_n (pc := 66) hC dX11_rounds_66 rfl 0 rfl ?_
              refine v_get (pc := 67) (v := .ref (ad E 34)) hC fl_X11_67 kq_0 rfl dX11_rounds_67 ?_
              refine v_iload_n (pc := 70) hC dX11_rounds_70 rfl 1 rfl ?_
              refine v_iload_n (pc := 71) hC dX11_rounds_71 rfl 2 rfl ?_
              refine v_iload_n (pc := 72) hC dX11_rounds_72 rfl 3 rfl ?_
              refine v_iload (pc := 73) hC dX11_rounds_73 4 rfl ?_
              refine v_iload (pc := 75) hC dX11_rounds_75 5 rfl ?_
              refine v_cv (pc := 77) (r_V (rest := []) hC ml_X11_233 mv_X3_work (c_X3_work l E h) ⟨rfl, rfl⟩ ⟨Nat.le_of_ble_eq_true rfl, Nat.le_of_ble_eq_true rfl⟩ kq_34 rfl (by decide) rfl rfl (Nat.le_of_ble_eq_true rfl) ⟨Nat.zero_le _, Nat.zero_le _⟩ dX11_rounds_77) (fun F13 h => ?_)
              refine v_iload (pc := 80) hC dX11_rounds_80 6 rfl ?_
              refine v_if_ne (pc := 82) (tgt := 95) hC dX11_rounds_82 (by decide) h (fun h => ?_) (fun h => ?_)
              · skip
                refine v_aload_n (pc := 95) hC dX11_rounds_95 rfl 0 rfl ?_
                refine v_get (pc := 96) (v := .ref (ad E 34)) hC fl_X11_67 kq_0 rfl dX11_rounds_96 ?_
                refine v_get (pc := 99) (v := .int (F13 34 3)) hC fl_X11_240 kq_34 rfl dX11_rounds_99 ?_
                exact v_iret (pc := 102) hC dX11_rounds_102 h
              · skip
                refine v_aload_n (pc := 85) hC dX11_rounds_85 rfl 0 rfl ?_
                refine v_get (pc := 86) (v := .ref (ad E 34)) hC fl_X11_67 kq_0 rfl dX11_rounds_86 ?_
                refine v_get (pc := 89) (v := .int (F13 34 2)) hC fl_X11_237 kq_34 rfl dX11_rounds_89 ?_
                refine v_goto (pc := 92) (tgt := 102) hC dX11_rounds_92 (by decide) ?_
                exact v_iret (pc := 102) hC dX11_rounds_102 h
            · skip
              refine v_bipush (pc := 63) (v := (-102)) hC dX11_rounds_63 (by decide) ?_
              exact v_iret (pc := 65) hC dX11_rounds_65 h
def rm_X11_toss : Room := { frames := 1, cells := 0, slots := 0, locals := 22 }
def wp_X11_toss (x1 : Int32) (x2 : Int32) (F : gS) (Q : Int32 → Prop) : Prop :=
  wp_X11_within x1 1 30 F fun r1 =>
  if r1 = 0 then
    (Q (-102))
  else
    (wp_X11_within x2 1 30 F fun r3 =>
    if r3 = 0 then
      (Q (-102))
    else
      (wp_X10_turnsOver x1 x2 F fun r5 =>
      if r5 = 0 then
        (Q 0)
      else
        (Q 1)))
set_option maxRecDepth 20000 in
set_option maxHeartbeats 4000000 in
theorem c_X11_toss (l : Launch) (E : gE) {x1 : Int32} {x2 : Int32} {F : gS} {Q : Int32 → Prop} (h : wp_X11_toss x1 x2 F Q) : CtI l E yX11_toss cX11_toss 3 (some .int) rm_X11_toss [.ref (ad E 0), .int x1, .int x2] F (fun r G => G = F ∧ Q r) := by
  refine ct_of (by decide) (Nat.le_of_ble_eq_true rfl) (fun p e s m below meth c hC => ?_)
  generalize ([.ref (ad E 0), .int x1, .int x2] : List Value).toArray = args at hC ⊢
  refine v_sub (lv' := [(0, .ref (ad E 0)), (1, .int x1), (2, .int x2)]) [0, 1, 2] rfl ?_
  unfold wp_X11_toss at h
  refine v_iload_n (pc := 0) hC dX11_toss_0 rfl 1 rfl ?_
  refine v_iconst (pc := 1) (v := 1) hC dX11_toss_1 (by decide) ?_
  refine v_bipush (pc := 2) (v := 30) hC dX11_toss_2 (by decide) ?_
  refine v_cyp (pc := 4) (r_S (rest := []) hC ml_X11_85 ms_X11_within (c_X11_within l E h) ⟨rfl, rfl⟩ ⟨Nat.le_of_ble_eq_true rfl, Nat.le_of_ble_eq_true rfl⟩ rfl rfl (Nat.le_of_ble_eq_true rfl) ⟨Nat.zero_le _, Nat.zero_le _⟩ dX11_toss_4) (fun r1 b2 h => ?_)
  refine v_if_eq (pc := 7) (tgt := 20) hC dX11_toss_7 (by decide) h (fun h => ?_) (fun h => ?_)
  · skip
    refine v_bipush (pc := 20) (v := (-102)) hC dX11_toss_20 (by decide) ?_
    exact v_iret (pc := 22) hC dX11_toss_22 ⟨rfl, h⟩
  · skip
    refine v_iload_n (pc := 10) hC dX11_toss_10 rfl 2 rfl ?_
    refine v_iconst (pc := 11) (v := 1) hC dX11_toss_11 (by decide) ?_
    refine v_bipush (pc := 12) (v := 30) hC dX11_toss_12 (by decide) ?_
    refine v_cyp (pc := 14) (r_S (rest := []) hC ml_X11_85 ms_X11_within (c_X11_within l E h) ⟨rfl, rfl⟩ ⟨Nat.le_of_ble_eq_true rfl, Nat.le_of_ble_eq_true rfl⟩ rfl rfl (Nat.le_of_ble_eq_true rfl) ⟨Nat.zero_le _, Nat.zero_le _⟩ dX11_toss_14) (fun r3 b4 h => ?_)
    refine v_if_ne (pc := 17) (tgt := 23) hC dX11_toss_17 (by decide) h (fun h => ?_) (fun h => ?_)
    · skip
      refine v_iload_n (pc := 23) hC dX11_toss_23 rfl 1 rfl ?_
      refine v_iload_n (pc := 24) hC dX11_toss_24 rfl 2 rfl ?_
      refine v_cyp (pc := 25) (r_S (rest := []) hC ml_X11_243 ms_X10_turnsOver (c_X10_turnsOver l E h) ⟨rfl, rfl⟩ ⟨Nat.le_of_ble_eq_true rfl, Nat.le_of_ble_eq_true rfl⟩ rfl rfl (Nat.le_of_ble_eq_true rfl) ⟨Nat.zero_le _, Nat.zero_le _⟩ dX11_toss_25) (fun r5 b6 h => ?_)
      refine v_if_eq (pc := 28) (tgt := 35) hC dX11_toss_28 (by decide) h (fun h => ?_) (fun h => ?_)
      · skip
        refine v_iconst (pc := 35) (v := 0) hC dX11_toss_35 (by decide) ?_
        exact v_iret (pc := 36) hC dX11_toss_36 ⟨rfl, h⟩
      · skip
        refine v_iconst (pc := 31) (v := 1) hC dX11_toss_31 (by decide) ?_
        refine v_goto (pc := 32) (tgt := 36) hC dX11_toss_32 (by decide) ?_
        exact v_iret (pc := 36) hC dX11_toss_36 ⟨rfl, h⟩
    · skip
      refine v_bipush (pc := 20) (v := (-102)) hC dX11_toss_20 (by decide) ?_
      exact v_iret (pc := 22) hC dX11_toss_22 ⟨rfl, h⟩
def rm_X11_lands : Room := { frames := 3, cells := 0, slots := 0, locals := 58 }
def wp_X11_lands (x1 : Int32) (x2 : Int32) (x3 : Int32) (x4 : Int32) (F : gS) (Q : Int32 → Prop) : Prop :=
  wp_X11_within x1 1 30 F fun r1 =>
  if r1 = 0 then
    (Q (-102))
  else
    (wp_X11_within x2 1 30 F fun r3 =>
    if r3 = 0 then
      (Q (-102))
    else
      (wp_X11_within x3 0 9 F fun r5 =>
      if r5 = 0 then
        (Q (-102))
      else
        (wp_X11_within x4 0 1 F fun r7 =>
        if r7 = 0 then
          (Q (-102))
        else
          (wp_X10_landings x1 x2 x3 F fun r9 =>
          wp_X10_paces x1 x3 F fun r10 =>
          wp_X10_commonDivisor r9 r10 F fun r11 =>
          Nm (if (1 : Int32) < r11 then r11 else 1) fun n12 =>
          if x4 = 0 then
            (¬ n12 = 0 ∧
            Q (r9 / n12))
          else
            (¬ n12 = 0 ∧
            Q (r10 / n12))))))
set_option maxRecDepth 20000 in
set_option maxHeartbeats 4000000 in
theorem c_X11_lands (l : Launch) (E : gE) {x1 : Int32} {x2 : Int32} {x3 : Int32} {x4 : Int32} {F : gS} {Q : Int32 → Prop} (h : wp_X11_lands x1 x2 x3 x4 F Q) : CtI l E yX11_lands cX11_lands 8 (some .int) rm_X11_lands [.ref (ad E 0), .int x1, .int x2, .int x3, .int x4] F (fun r G => G = F ∧ Q r) := by
  refine ct_of (by decide) (Nat.le_of_ble_eq_true rfl) (fun p e s m below meth c hC => ?_)
  generalize ([.ref (ad E 0), .int x1, .int x2, .int x3, .int x4] : List Value).toArray = args at hC ⊢
  refine v_sub (lv' := [(0, .ref (ad E 0)), (1, .int x1), (2, .int x2), (3, .int x3), (4, .int x4)]) [0, 1, 2, 3, 4] rfl ?_
  unfold wp_X11_lands at h
  refine v_iload_n (pc := 0) hC dX11_lands_0 rfl 1 rfl ?_
  refine v_iconst (pc := 1) (v := 1) hC dX11_lands_1 (by decide) ?_
  refine v_bipush (pc := 2) (v := 30) hC dX11_lands_2 (by decide) ?_
  refine v_cyp (pc := 4) (r_S (rest := []) hC ml_X11_85 ms_X11_within (c_X11_within l E h) ⟨rfl, rfl⟩ ⟨Nat.le_of_ble_eq_true rfl, Nat.le_of_ble_eq_true rfl⟩ rfl rfl (Nat.le_of_ble_eq_true rfl) ⟨Nat.zero_le _, Nat.zero_le _⟩ dX11_lands_4) (fun r1 b2 h => ?_)
  refine v_if_eq (pc := 7) (tgt := 40) hC dX11_lands_7 (by decide) h (fun h => ?_) (fun h => ?_)
  · skip
    refine v_bipush (pc := 40) (v := (-102)) hC dX11_lands_40 (by decide) ?_
    exact v_iret (pc := 42) hC dX11_lands_42 ⟨rfl, h⟩
  · skip
    refine v_iload_n (pc := 10) hC dX11_lands_10 rfl 2 rfl ?_
    refine v_iconst (pc := 11) (v := 1) hC dX11_lands_11 (by decide) ?_
    refine v_bipush (pc := 12) (v := 30) hC dX11_lands_12 (by decide) ?_
    refine v_cyp (pc := 14) (r_S (rest := []) hC ml_X11_85 ms_X11_within (c_X11_within l E h) ⟨rfl, rfl⟩ ⟨Nat.le_of_ble_eq_true rfl, Nat.le_of_ble_eq_true rfl⟩ rfl rfl (Nat.le_of_ble_eq_true rfl) ⟨Nat.zero_le _, Nat.zero_le _⟩ dX11_lands_14) (fun r3 b4 h => ?_)
    refine v_if_eq (pc := 17) (tgt := 40) hC dX11_lands_17 (by decide) h (fun h => ?_) (fun h => ?_)
    · skip
      refine v_bipush (pc := 40) (v := (-102)) hC dX11_lands_40 (by decide) ?_
      exact v_iret (pc := 42) hC dX11_lands_42 ⟨rfl, h⟩
    · skip
      refine v_iload_n (pc := 20) hC dX11_lands_20 rfl 3 rfl ?_
      refine v_iconst (pc := 21) (v := 0) hC dX11_lands_21 (by decide) ?_
      refine v_bipush (pc := 22) (v := 9) hC dX11_lands_22 (by decide) ?_
      refine v_cyp (pc := 24) (r_S (rest := []) hC ml_X11_85 ms_X11_within (c_X11_within l E h) ⟨rfl, rfl⟩ ⟨Nat.le_of_ble_eq_true rfl, Nat.le_of_ble_eq_true rfl⟩ rfl rfl (Nat.le_of_ble_eq_true rfl) ⟨Nat.zero_le _, Nat.zero_le _⟩ dX11_lands_24) (fun r5 b6 h => ?_)
      refine v_if_eq (pc := 27) (tgt := 40) hC dX11_lands_27 (by decide) h (fun h => ?_) (fun h => ?_)
      · skip
        refine v_bipush (pc := 40) (v := (-102)) hC dX11_lands_40 (by decide) ?_
        exact v_iret (pc := 42) hC dX11_lands_42 ⟨rfl, h⟩
      · skip
        refine v_iload (pc := 30) hC dX11_lands_30 4 rfl ?_
        refine v_iconst (pc := 32) (v := 0) hC dX11_lands_32 (by decide) ?_
        refine v_iconst (pc := 33) (v := 1) hC dX11_lands_33 (by decide) ?_
        refine v_cyp (pc := 34) (r_S (rest := []) hC ml_X11_85 ms_X11_within (c_X11_within l E h) ⟨rfl, rfl⟩ ⟨Nat.le_of_ble_eq_true rfl, Nat.le_of_ble_eq_true rfl⟩ rfl rfl (Nat.le_of_ble_eq_true rfl) ⟨Nat.zero_le _, Nat.zero_le _⟩ dX11_lands_34) (fun r7 b8 h => ?_)
        refine v_if_ne (pc := 37) (tgt := 43) hC dX11_lands_37 (by decide) h (fun h => ?_) (fun h => ?_)
        · skip
          refine v_iload_n (pc := 43) hC dX11_lands_43 rfl 1 rfl ?_
          refine v_iload_n (pc := 44) hC dX11_lands_44 rfl 2 rfl ?_
          refine v_iload_n (pc := 45) hC dX11_lands_45 rfl 3 rfl ?_
          refine v_cip (pc := 46) (r_S (rest := []) hC ml_X11_249 ms_X10_landings (c_X10_landings l E h) ⟨rfl, rfl⟩ ⟨Nat.le_of_ble_eq_true rfl, Nat.le_of_ble_eq_true rfl⟩ rfl rfl (Nat.le_of_ble_eq_true rfl) ⟨Nat.zero_le _, Nat.zero_le _⟩ dX11_lands_46) (fun r9 h => ?_)
          refine v_istore (pc := 49) (lv' := [(5, .int r9), (0, .ref (ad E 0)), (1, .int x1), (2, .int x2), (3, .int x3), (4, .int x4)]) hC dX11_lands_49 (by decide) rfl ?_
          refine v_iload_n (pc := 51) hC dX11_lands_51 rfl 2 rfl ?_
          refine v_iload_n (pc := 52) hC dX11_lands_52 rfl 4 rfl ?_
          refine v_cip (pc := 53) (r_S (rest := []) hC ml_X11_252 ms_X10_paces (c_X10_paces l E h) ⟨rfl, rfl⟩ ⟨Nat.le_of_ble_eq_true rfl, Nat.le_of_ble_eq_true rfl⟩ rfl rfl (Nat.le_of_ble_eq_true rfl) ⟨Nat.zero_le _, Nat.zero_le _⟩ dX11_lands_53) (fun r10 h => ?_)
          refine v_istore (pc := 56) (lv' := [(6, .int r10), (5, .int r9), (0, .ref (ad E 0)), (1, .int x1), (2, .int x2), (3, .int x3), (4, .int x4)]) hC dX11_lands_56 (by decide) rfl ?_
          refine v_iconst (pc := 58) (v := 1) hC dX11_lands_58 (by decide) ?_
          refine v_iload (pc := 59) hC dX11_lands_59 1 rfl ?_
          refine v_iload (pc := 61) hC dX11_lands_61 0 rfl ?_
          refine v_cip (pc := 63) (r_S (rest := [.int 1]) hC ml_X11_255 ms_X10_commonDivisor (c_X10_commonDivisor l E h) ⟨rfl, rfl⟩ ⟨Nat.le_of_ble_eq_true rfl, Nat.le_of_ble_eq_true rfl⟩ rfl rfl (Nat.le_of_ble_eq_true rfl) ⟨Nat.zero_le _, Nat.zero_le _⟩ dX11_lands_63) (fun r11 h => ?_)
          refine v_max (pc := 66) hC mmax_X11_161 mmax_s in_Math mmax_c ⟨Nat.le_of_ble_eq_true rfl, Nat.le_of_ble_eq_true rfl⟩ ⟨Nat.zero_le _, Nat.zero_le _⟩ dX11_lands_66 ?_
          refine v_nmi h (fun n12 h => ?_)
          refine v_istore (pc := 69) (lv' := [(7, .int n12), (6, .int r10), (5, .int r9), (0, .ref (ad E 0)), (1, .int x1), (2, .int x2), (3, .int x3), (4, .int x4)]) hC dX11_lands_69 (by decide) rfl ?_
          refine v_iload (pc := 71) hC dX11_lands_71 7 rfl ?_
          refine v_if_ne (pc := 73) (tgt := 81) hC dX11_lands_73 (by decide) h (fun h => ?_) (fun h => ?_)
          · skip
            refine v_iload (pc := 81) hC dX11_lands_81 1 rfl ?_
            refine v_iload (pc := 83) hC dX11_lands_83 0 rfl ?_
            refine v_idiv (pc := 85) hC dX11_lands_85 h (fun h => ?_)
            exact v_iret (pc := 86) hC dX11_lands_86 ⟨rfl, h⟩
          · skip
            refine v_iload (pc := 76) hC dX11_lands_76 2 rfl ?_
            refine v_goto (pc := 78) (tgt := 83) hC dX11_lands_78 (by decide) ?_
            refine v_iload (pc := 83) hC dX11_lands_83 0 rfl ?_
            refine v_idiv (pc := 85) hC dX11_lands_85 h (fun h => ?_)
            exact v_iret (pc := 86) hC dX11_lands_86 ⟨rfl, h⟩
        · skip
          refine v_bipush (pc := 40) (v := (-102)) hC dX11_lands_40 (by decide) ?_
          exact v_iret (pc := 42) hC dX11_lands_42 ⟨rfl, h⟩
def rm_X11_bestSpin : Room := { frames := 4, cells := 0, slots := 0, locals := 83 }
def wp_X11_bestSpin (x1 : Int32) (x2 : Int32) (F : gS) (Q : Int32 → Prop) : Prop :=
  wp_X11_within x1 1 30 F fun r1 =>
  if r1 = 0 then
    (Q (-102))
  else
    (wp_X11_within x2 0 9 F fun r3 =>
    if r3 = 0 then
      (Q (-102))
    else
      (wp_X10_likeliestSpin x1 x2 F fun r5 =>
      Q r5))
set_option maxRecDepth 20000 in
set_option maxHeartbeats 4000000 in
theorem c_X11_bestSpin (l : Launch) (E : gE) {x1 : Int32} {x2 : Int32} {F : gS} {Q : Int32 → Prop} (h : wp_X11_bestSpin x1 x2 F Q) : CtI l E yX11_bestSpin cX11_bestSpin 3 (some .int) rm_X11_bestSpin [.ref (ad E 0), .int x1, .int x2] F (fun r G => G = F ∧ Q r) := by
  refine ct_of (by decide) (Nat.le_of_ble_eq_true rfl) (fun p e s m below meth c hC => ?_)
  generalize ([.ref (ad E 0), .int x1, .int x2] : List Value).toArray = args at hC ⊢
  refine v_sub (lv' := [(0, .ref (ad E 0)), (1, .int x1), (2, .int x2)]) [0, 1, 2] rfl ?_
  unfold wp_X11_bestSpin at h
  refine v_iload_n (pc := 0) hC dX11_bestSpin_0 rfl 1 rfl ?_
  refine v_iconst (pc := 1) (v := 1) hC dX11_bestSpin_1 (by decide) ?_
  refine v_bipush (pc := 2) (v := 30) hC dX11_bestSpin_2 (by decide) ?_
  refine v_cyp (pc := 4) (r_S (rest := []) hC ml_X11_85 ms_X11_within (c_X11_within l E h) ⟨rfl, rfl⟩ ⟨Nat.le_of_ble_eq_true rfl, Nat.le_of_ble_eq_true rfl⟩ rfl rfl (Nat.le_of_ble_eq_true rfl) ⟨Nat.zero_le _, Nat.zero_le _⟩ dX11_bestSpin_4) (fun r1 b2 h => ?_)
  refine v_if_eq (pc := 7) (tgt := 20) hC dX11_bestSpin_7 (by decide) h (fun h => ?_) (fun h => ?_)
  · skip
    refine v_bipush (pc := 20) (v := (-102)) hC dX11_bestSpin_20 (by decide) ?_
    exact v_iret (pc := 22) hC dX11_bestSpin_22 ⟨rfl, h⟩
  · skip
    refine v_iload_n (pc := 10) hC dX11_bestSpin_10 rfl 2 rfl ?_
    refine v_iconst (pc := 11) (v := 0) hC dX11_bestSpin_11 (by decide) ?_
    refine v_bipush (pc := 12) (v := 9) hC dX11_bestSpin_12 (by decide) ?_
    refine v_cyp (pc := 14) (r_S (rest := []) hC ml_X11_85 ms_X11_within (c_X11_within l E h) ⟨rfl, rfl⟩ ⟨Nat.le_of_ble_eq_true rfl, Nat.le_of_ble_eq_true rfl⟩ rfl rfl (Nat.le_of_ble_eq_true rfl) ⟨Nat.zero_le _, Nat.zero_le _⟩ dX11_bestSpin_14) (fun r3 b4 h => ?_)
    refine v_if_ne (pc := 17) (tgt := 23) hC dX11_bestSpin_17 (by decide) h (fun h => ?_) (fun h => ?_)
    · skip
      refine v_iload_n (pc := 23) hC dX11_bestSpin_23 rfl 1 rfl ?_
      refine v_iload_n (pc := 24) hC dX11_bestSpin_24 rfl 2 rfl ?_
      refine v_cip (pc := 25) (r_S (rest := []) hC ml_X11_258 ms_X10_likeliestSpin (c_X10_likeliestSpin l E h) ⟨rfl, rfl⟩ ⟨Nat.le_of_ble_eq_true rfl, Nat.le_of_ble_eq_true rfl⟩ rfl rfl (Nat.le_of_ble_eq_true rfl) ⟨Nat.zero_le _, Nat.zero_le _⟩ dX11_bestSpin_25) (fun r5 h => ?_)
      exact v_iret (pc := 28) hC dX11_bestSpin_28 ⟨rfl, h⟩
    · skip
      refine v_bipush (pc := 20) (v := (-102)) hC dX11_bestSpin_20 (by decide) ?_
      exact v_iret (pc := 22) hC dX11_bestSpin_22 ⟨rfl, h⟩
def rm_X11_image : Room := { frames := 3, cells := 0, slots := 0, locals := 60 }
def wp_X11_image (F : gS) (Q : Int32 → gS → Prop) : Prop :=
  wp_X11_hasPan F fun r1 =>
  if r1 = 0 then
    (Q (-103) F)
  else
    (wp_X1_become 29 26 F fun F3 =>
    Nm (upF F3 0 12 (F3 0 11)) fun F4 =>
    Nm (upF F4 0 13 1) fun F5 =>
    Q (F5 0 12) F5)
set_option maxRecDepth 20000 in
set_option maxHeartbeats 4000000 in
theorem c_X11_image (l : Launch) (E : gE) {F : gS} {Q : Int32 → gS → Prop} (h : wp_X11_image F Q) : CtI l E yX11_image cX11_image 1 (some .int) rm_X11_image [.ref (ad E 0)] F Q := by
  refine ct_of (by decide) (Nat.le_of_ble_eq_true rfl) (fun p e s m below meth c hC => ?_)
  generalize ([.ref (ad E 0)] : List Value).toArray = args at hC ⊢
  refine v_sub (lv' := [(0, .ref (ad E 0))]) [0] rfl ?_
  unfold wp_X11_image at h
  refine v_aload_n (pc := 0) hC dX11_image_0 rfl 0 rfl ?_
  refine v_cyp (pc := 1) (r_V (rest := []) hC ml_X11_153 mv_X11_hasPan (c_X11_hasPan l E h) ⟨rfl, rfl⟩ ⟨Nat.le_of_ble_eq_true rfl, Nat.le_of_ble_eq_true rfl⟩ kq_0 rfl (by decide) rfl rfl (Nat.le_of_ble_eq_true rfl) ⟨Nat.zero_le _, Nat.zero_le _⟩ dX11_image_1) (fun r1 b2 h => ?_)
  refine v_if_ne (pc := 4) (tgt := 10) hC dX11_image_4 (by decide) h (fun h => ?_) (fun h => ?_)
  · skip
    refine v_aload_n (pc := 10) hC dX11_image_10 rfl 0 rfl ?_
    refine v_get (pc := 11) (v := .ref (ad E 29)) hC fl_X11_49 kq_0 rfl dX11_image_11 ?_
    refine v_aload_n (pc := 14) hC dX11_image_14 rfl 0 rfl ?_
    refine v_get (pc := 15) (v := .ref (ad E 26)) hC fl_X11_45 kq_0 rfl dX11_image_15 ?_
    refine v_cv (pc := 18) (r_V (rest := []) hC ml_X11_261 mv_X1_become (c_X1_become l E kq_29 kq_26 h) ⟨rfl, rfl⟩ ⟨Nat.le_of_ble_eq_true rfl, Nat.le_of_ble_eq_true rfl⟩ kq_29 rfl (by decide) rfl rfl (Nat.le_of_ble_eq_true rfl) ⟨Nat.zero_le _, Nat.zero_le _⟩ dX11_image_18) (fun F3 h => ?_)
    refine v_aload_n (pc := 21) hC dX11_image_21 rfl 0 rfl ?_
    refine v_aload_n (pc := 22) hC dX11_image_22 rfl 0 rfl ?_
    refine v_get (pc := 23) (v := .int (F3 0 11)) hC fl_X11_106 kq_0 rfl dX11_image_23 ?_
    refine v_puti (pc := 26) hC fp_X11_264 kq_0 (fs_9_12 E _ _ _) (fn_9_12 E _ _) dX11_image_26 h (fun F4 h => ?_)
    refine v_aload_n (pc := 29) hC dX11_image_29 rfl 0 rfl ?_
    refine v_iconst (pc := 30) (v := 1) hC dX11_image_30 (by decide) ?_
    refine v_putz (pc := 31) hC fp_X11_109 kq_0 (fs_9_13 E _ _ _) (fn_9_13 E _ _) dX11_image_31 (Or.inr rfl) h (fun F5 h => ?_)
    refine v_aload_n (pc := 34) hC dX11_image_34 rfl 0 rfl ?_
    refine v_get (pc := 35) (v := .int (F5 0 12)) hC fl_X11_264 kq_0 rfl dX11_image_35 ?_
    exact v_iret (pc := 38) hC dX11_image_38 h
  · skip
    refine v_bipush (pc := 7) (v := (-103)) hC dX11_image_7 (by decide) ?_
    exact v_iret (pc := 9) hC dX11_image_9 h
def rm_X11_restore : Room := { frames := 3, cells := 0, slots := 0, locals := 60 }
def wp_X11_restore (F : gS) (Q : Int32 → gS → Prop) : Prop :=
  if (F 0 13) = 0 then
    (Q (-103) F)
  else
    (wp_X1_become 26 29 F fun F1 =>
    Nm (upF F1 0 11 (F1 0 12)) fun F2 =>
    Q (F2 0 11) F2)
set_option maxRecDepth 20000 in
set_option maxHeartbeats 4000000 in
theorem c_X11_restore (l : Launch) (E : gE) {F : gS} {Q : Int32 → gS → Prop} (h : wp_X11_restore F Q) : CtI l E yX11_restore cX11_restore 1 (some .int) rm_X11_restore [.ref (ad E 0)] F Q := by
  refine ct_of (by decide) (Nat.le_of_ble_eq_true rfl) (fun p e s m below meth c hC => ?_)
  generalize ([.ref (ad E 0)] : List Value).toArray = args at hC ⊢
  refine v_sub (lv' := [(0, .ref (ad E 0))]) [0] rfl ?_
  unfold wp_X11_restore at h
  refine v_aload_n (pc := 0) hC dX11_restore_0 rfl 0 rfl ?_
  refine v_get (pc := 1) (v := .int (F 0 13)) hC fl_X11_109 kq_0 rfl dX11_restore_1 ?_
  refine v_if_ne (pc := 4) (tgt := 10) hC dX11_restore_4 (by decide) h (fun h => ?_) (fun h => ?_)
  · skip
    refine v_aload_n (pc := 10) hC dX11_restore_10 rfl 0 rfl ?_
    refine v_get (pc := 11) (v := .ref (ad E 26)) hC fl_X11_45 kq_0 rfl dX11_restore_11 ?_
    refine v_aload_n (pc := 14) hC dX11_restore_14 rfl 0 rfl ?_
    refine v_get (pc := 15) (v := .ref (ad E 29)) hC fl_X11_49 kq_0 rfl dX11_restore_15 ?_
    refine v_cv (pc := 18) (r_V (rest := []) hC ml_X11_261 mv_X1_become (c_X1_become l E kq_26 kq_29 h) ⟨rfl, rfl⟩ ⟨Nat.le_of_ble_eq_true rfl, Nat.le_of_ble_eq_true rfl⟩ kq_26 rfl (by decide) rfl rfl (Nat.le_of_ble_eq_true rfl) ⟨Nat.zero_le _, Nat.zero_le _⟩ dX11_restore_18) (fun F1 h => ?_)
    refine v_aload_n (pc := 21) hC dX11_restore_21 rfl 0 rfl ?_
    refine v_aload_n (pc := 22) hC dX11_restore_22 rfl 0 rfl ?_
    refine v_get (pc := 23) (v := .int (F1 0 12)) hC fl_X11_264 kq_0 rfl dX11_restore_23 ?_
    refine v_puti (pc := 26) hC fp_X11_106 kq_0 (fs_9_11 E _ _ _) (fn_9_11 E _ _) dX11_restore_26 h (fun F2 h => ?_)
    refine v_aload_n (pc := 29) hC dX11_restore_29 rfl 0 rfl ?_
    refine v_get (pc := 30) (v := .int (F2 0 11)) hC fl_X11_106 kq_0 rfl dX11_restore_30 ?_
    exact v_iret (pc := 33) hC dX11_restore_33 h
  · skip
    refine v_bipush (pc := 7) (v := (-103)) hC dX11_restore_7 (by decide) ?_
    exact v_iret (pc := 9) hC dX11_restore_9 h
def rm_X11_worthTogether : Room := { frames := 0, cells := 0, slots := 0, locals := 0 }
def wb_X11_worthTogether_4 (Q : Int32 → Prop) (F : gS) (K4 : Int32 → Int32 → Prop) (x1 : Int32) (x2 : Int32) : Prop :=
  if (F 0 11) ≤ x2 then
    (Q x1)
  else
    (vp_in x2 24 ∧
    vp_in 6 7 ∧
    Nm (x1 + (F (49 + 3 * x2.toNatClampNeg + 2) (6 : Int32).toNatClampNeg)) fun n2 =>
    Nm (x2 + 1) fun n3 =>
    K4 n2 n3)
def wp_X11_worthTogether (F : gS) (Q : Int32 → Prop) : Prop :=
  LP2 (wb_X11_worthTogether_4 Q F) 0 0
set_option maxRecDepth 20000 in
set_option maxHeartbeats 4000000 in
theorem jb_X11_worthTogether_4 {p : Program} {l : Launch} {e : Env} {s : State} {m : MethodId} {args : Array Value} {below : List Frame} {meth : Method} {c : Code} {E : gE} (hC : CX p s m args meth c cX11_worthTogether RX11 (some .int) E 3) {Q : Int32 → Prop} {F : gS} {x1 : Int32} {x2 : Int32} {K4 : Int32 → Int32 → Prop} (hK4 : ∀ (x1 : Int32) (x2 : Int32), K4 x1 x2 → VV p l e rm_X11_worthTogether s m args below meth c 0 0 (MQ below (va_Qi (fun r G => G = F ∧ Q r) (gB E) (gA E)) args s 0 0 (gA E)) E 3 F 4 [(0, .ref (ad E 0)), (1, .int x1), (2, .int x2)] []) (h : wb_X11_worthTogether_4 Q F K4 x1 x2) : VV p l e rm_X11_worthTogether s m args below meth c 0 0 (MQ below (va_Qi (fun r G => G = F ∧ Q r) (gB E) (gA E)) args s 0 0 (gA E)) E 3 F 4 [(0, .ref (ad E 0)), (1, .int x1), (2, .int x2)] [] := by
  unfold wb_X11_worthTogether_4 at h
  refine v_iload_n (pc := 4) hC dX11_worthTogether_4 rfl 2 rfl ?_
  refine v_aload_n (pc := 5) hC dX11_worthTogether_5 rfl 0 rfl ?_
  refine v_get (pc := 6) (v := .int (F 0 11)) hC fl_X11_106 kq_0 rfl dX11_worthTogether_6 ?_
  refine v_ic_ge (pc := 9) (tgt := 33) hC dX11_worthTogether_9 (by decide) h (fun h => ?_) (fun h => ?_)
  · skip
    refine v_iload_n (pc := 33) hC dX11_worthTogether_33 rfl 1 rfl ?_
    exact v_iret (pc := 34) hC dX11_worthTogether_34 ⟨rfl, h⟩
  · skip
    refine v_iload_n (pc := 12) hC dX11_worthTogether_12 rfl 1 rfl ?_
    refine v_aload_n (pc := 13) hC dX11_worthTogether_13 rfl 0 rfl ?_
    refine v_get (pc := 14) (v := .ref (ad E 33)) hC fl_X11_60 kq_0 rfl dX11_worthTogether_14 ?_
    refine v_iload_n (pc := 17) hC dX11_worthTogether_17 rfl 2 rfl ?_
    have g1 := in_lt h.1
    refine v_aaldC (pc := 18) hC dX11_worthTogether_18 h (fun h => ?_)
    refine v_get (pc := 19) (v := .ref (ad E (49 + 3 * x2.toNatClampNeg + 2))) hC fl_X11_181 (kd_ck _ g1) rfl dX11_worthTogether_19 ?_
    refine v_bipush (pc := 22) (v := 6) hC dX11_worthTogether_22 (by decide) ?_
    refine v_iald (pc := 24) (n := 7) hC (kd_c2 (kd_ck _ g1)) (by decide) dX11_worthTogether_24 h (fun h => ?_)
    refine v_iadd (pc := 25) hC dX11_worthTogether_25 ?_
    refine v_nmi h (fun n2 h => ?_)
    refine v_istore_n (pc := 26) (lv' := [(1, .int n2), (0, .ref (ad E 0)), (2, .int x2)]) hC dX11_worthTogether_26 rfl (by decide) rfl ?_
    refine v_iinc (pc := 27) (v := 1) hC (fun z => [(2, .int z), (1, .int n2), (0, .ref (ad E 0))]) dX11_worthTogether_27 2 rfl (by decide) (by decide) (fun _ => rfl) h (fun n3 h => ?_)
    refine v_goto (pc := 30) (tgt := 4) hC dX11_worthTogether_30 (by decide) ?_
    exact v_sub [2, 1, 0] rfl (hK4 _ _ h)
set_option maxRecDepth 20000 in
set_option maxHeartbeats 4000000 in
theorem jl_X11_worthTogether_4 {p : Program} {l : Launch} {e : Env} {s : State} {m : MethodId} {args : Array Value} {below : List Frame} {meth : Method} {c : Code} {E : gE} (hC : CX p s m args meth c cX11_worthTogether RX11 (some .int) E 3) {Q : Int32 → Prop} {F : gS} {x1 : Int32} {x2 : Int32} (h : LP2 (wb_X11_worthTogether_4 Q F) x1 x2) : VV p l e rm_X11_worthTogether s m args below meth c 0 0 (MQ below (va_Qi (fun r G => G = F ∧ Q r) (gB E) (gA E)) args s 0 0 (gA E)) E 3 F 4 [(0, .ref (ad E 0)), (1, .int x1), (2, .int x2)] [] :=
  LP2_go (V := fun (x1 : Int32) (x2 : Int32) => VV p l e rm_X11_worthTogether s m args below meth c 0 0 (MQ below (va_Qi (fun r G => G = F ∧ Q r) (gB E) (gA E)) args s 0 0 (gA E)) E 3 F 4 [(0, .ref (ad E 0)), (1, .int x1), (2, .int x2)] []) (fun K4 hK4 x1 x2 h => jb_X11_worthTogether_4 hC hK4 h) x1 x2 h
set_option maxRecDepth 20000 in
set_option maxHeartbeats 4000000 in
theorem c_X11_worthTogether (l : Launch) (E : gE) {F : gS} {Q : Int32 → Prop} (h : wp_X11_worthTogether F Q) : CtI l E yX11_worthTogether cX11_worthTogether 3 (some .int) rm_X11_worthTogether [.ref (ad E 0)] F (fun r G => G = F ∧ Q r) := by
  refine ct_of (by decide) (Nat.le_of_ble_eq_true rfl) (fun p e s m below meth c hC => ?_)
  generalize ([.ref (ad E 0)] : List Value).toArray = args at hC ⊢
  refine v_sub (lv' := [(0, .ref (ad E 0))]) [0] rfl ?_
  unfold wp_X11_worthTogether at h
  refine v_iconst (pc := 0) (v := 0) hC dX11_worthTogether_0 (by decide) ?_
  refine v_istore_n (pc := 1) (lv' := [(1, .int 0), (0, .ref (ad E 0))]) hC dX11_worthTogether_1 rfl (by decide) rfl ?_
  refine v_iconst (pc := 2) (v := 0) hC dX11_worthTogether_2 (by decide) ?_
  refine v_istore_n (pc := 3) (lv' := [(2, .int 0), (1, .int 0), (0, .ref (ad E 0))]) hC dX11_worthTogether_3 rfl (by decide) rfl ?_
  exact v_sub [2, 1, 0] rfl (jl_X11_worthTogether_4 hC h)
def rm_X11_count : Room := { frames := 1, cells := 0, slots := 0, locals := 22 }
def wp_X11_count (x1 : Int32) (F : gS) (Q : Int32 → Prop) : Prop :=
  if x1 = 0 then
    (Q (F 9 2))
  else (if x1 = 1 then
    (Q (F 0 10))
  else (if x1 = 2 then
    (Q (F 0 11))
  else (if x1 = 3 then
    (Q (F 1 1))
  else (if x1 = 4 then
    (Q (F 26 2))
  else (if x1 = 5 then
    (wp_X1_bitsTogether 26 F fun r7 =>
              Q r7)
  else (if x1 = 6 then
    (Q (F 0 14))
  else (if x1 = 7 then
    (Q (F 0 15))
  else (if x1 = 8 then
    (wp_X11_worthTogether F fun r11 =>
                    Q r11)
  else (Q (-102))))))))))
set_option maxRecDepth 20000 in
set_option maxHeartbeats 4000000 in
theorem c_X11_count (l : Launch) (E : gE) {x1 : Int32} {F : gS} {Q : Int32 → Prop} (h : wp_X11_count x1 F Q) : CtI l E yX11_count cX11_count 2 (some .int) rm_X11_count [.ref (ad E 0), .int x1] F (fun r G => G = F ∧ Q r) := by
  refine ct_of (by decide) (Nat.le_of_ble_eq_true rfl) (fun p e s m below meth c hC => ?_)
  generalize ([.ref (ad E 0), .int x1] : List Value).toArray = args at hC ⊢
  refine v_sub (lv' := [(0, .ref (ad E 0)), (1, .int x1)]) [0, 1] rfl ?_
  unfold wp_X11_count at h
  refine v_iload_n (pc := 0) hC dX11_count_0 rfl 1 rfl ?_
  by_cases c1 : x1 = 0
  · skip
    rw [if_pos c1] at h
    refine v_tin (pc := 1) (tgt := 52) hC dX11_count_1 0 (by rw [c1]; rfl) (by decide) (by decide) rfl (by decide) ?_
    refine v_aload_n (pc := 52) hC dX11_count_52 rfl 0 rfl ?_
    refine v_get (pc := 53) (v := .ref (ad E 9)) hC fl_X11_41 kq_0 rfl dX11_count_53 ?_
    refine v_get (pc := 56) (v := .int (F 9 2)) hC fl_X11_116 kq_9 rfl dX11_count_56 ?_
    exact v_iret (pc := 59) hC dX11_count_59 ⟨rfl, h⟩
  · skip
    rw [if_neg c1] at h
    by_cases c2 : x1 = 1
    · skip
      rw [if_pos c2] at h
      refine v_tin (pc := 1) (tgt := 60) hC dX11_count_1 1 (by rw [c2]; rfl) (by decide) (by decide) rfl (by decide) ?_
      refine v_aload_n (pc := 60) hC dX11_count_60 rfl 0 rfl ?_
      refine v_get (pc := 61) (v := .int (F 0 10)) hC fl_X11_119 kq_0 rfl dX11_count_61 ?_
      exact v_iret (pc := 64) hC dX11_count_64 ⟨rfl, h⟩
    · skip
      rw [if_neg c2] at h
      by_cases c3 : x1 = 2
      · skip
        rw [if_pos c3] at h
        refine v_tin (pc := 1) (tgt := 65) hC dX11_count_1 2 (by rw [c3]; rfl) (by decide) (by decide) rfl (by decide) ?_
        refine v_aload_n (pc := 65) hC dX11_count_65 rfl 0 rfl ?_
        refine v_get (pc := 66) (v := .int (F 0 11)) hC fl_X11_106 kq_0 rfl dX11_count_66 ?_
        exact v_iret (pc := 69) hC dX11_count_69 ⟨rfl, h⟩
      · skip
        rw [if_neg c3] at h
        by_cases c4 : x1 = 3
        · skip
          rw [if_pos c4] at h
          refine v_tin (pc := 1) (tgt := 70) hC dX11_count_1 3 (by rw [c4]; rfl) (by decide) (by decide) rfl (by decide) ?_
          refine v_aload_n (pc := 70) hC dX11_count_70 rfl 0 rfl ?_
          refine v_get (pc := 71) (v := .ref (ad E 1)) hC fl_X11_10 kq_0 rfl dX11_count_71 ?_
          refine v_get (pc := 74) (v := .int (F 1 1)) hC fl_X11_77 kq_1 rfl dX11_count_74 ?_
          exact v_iret (pc := 77) hC dX11_count_77 ⟨rfl, h⟩
        · skip
          rw [if_neg c4] at h
          by_cases c5 : x1 = 4
          · skip
            rw [if_pos c5] at h
            refine v_tin (pc := 1) (tgt := 78) hC dX11_count_1 4 (by rw [c5]; rfl) (by decide) (by decide) rfl (by decide) ?_
            refine v_aload_n (pc := 78) hC dX11_count_78 rfl 0 rfl ?_
            refine v_get (pc := 79) (v := .ref (ad E 26)) hC fl_X11_45 kq_0 rfl dX11_count_79 ?_
            refine v_get (pc := 82) (v := .int (F 26 2)) hC fl_X11_167 kq_26 rfl dX11_count_82 ?_
            exact v_iret (pc := 85) hC dX11_count_85 ⟨rfl, h⟩
          · skip
            rw [if_neg c5] at h
            by_cases c6 : x1 = 5
            · skip
              rw [if_pos c6] at h
              refine v_tin (pc := 1) (tgt := 86) hC dX11_count_1 5 (by rw [c6]; rfl) (by decide) (by decide) rfl (by decide) ?_
              refine v_aload_n (pc := 86) hC dX11_count_86 rfl 0 rfl ?_
              refine v_get (pc := 87) (v := .ref (ad E 26)) hC fl_X11_45 kq_0 rfl dX11_count_87 ?_
              refine v_cip (pc := 90) (r_V (rest := []) hC ml_X11_170 mv_X1_bitsTogether (c_X1_bitsTogether l E kq_26 h) ⟨rfl, rfl⟩ ⟨Nat.le_of_ble_eq_true rfl, Nat.le_of_ble_eq_true rfl⟩ kq_26 rfl (by decide) rfl rfl (Nat.le_of_ble_eq_true rfl) ⟨Nat.zero_le _, Nat.zero_le _⟩ dX11_count_90) (fun r7 h => ?_)
              exact v_iret (pc := 93) hC dX11_count_93 ⟨rfl, h⟩
            · skip
              rw [if_neg c6] at h
              by_cases c8 : x1 = 6
              · skip
                rw [if_pos c8] at h
                refine v_tin (pc := 1) (tgt := 94) hC dX11_count_1 6 (by rw [c8]; rfl) (by decide) (by decide) rfl (by decide) ?_
                refine v_aload_n (pc := 94) hC dX11_count_94 rfl 0 rfl ?_
                refine v_get (pc := 95) (v := .int (F 0 14)) hC fl_X11_113 kq_0 rfl dX11_count_95 ?_
                exact v_iret (pc := 98) hC dX11_count_98 ⟨rfl, h⟩
              · skip
                rw [if_neg c8] at h
                by_cases c9 : x1 = 7
                · skip
                  rw [if_pos c9] at h
                  refine v_tin (pc := 1) (tgt := 99) hC dX11_count_1 7 (by rw [c9]; rfl) (by decide) (by decide) rfl (by decide) ?_
                  refine v_aload_n (pc := 99) hC dX11_count_99 rfl 0 rfl ?_
                  refine v_get (pc := 100) (v := .int (F 0 15)) hC fl_X11_216 kq_0 rfl dX11_count_100 ?_
                  exact v_iret (pc := 103) hC dX11_count_103 ⟨rfl, h⟩
                · skip
                  rw [if_neg c9] at h
                  by_cases c10 : x1 = 8
                  · skip
                    rw [if_pos c10] at h
                    refine v_tin (pc := 1) (tgt := 104) hC dX11_count_1 8 (by rw [c10]; rfl) (by decide) (by decide) rfl (by decide) ?_
                    refine v_aload_n (pc := 104) hC dX11_count_104 rfl 0 rfl ?_
                    refine v_cip (pc := 105) (r_V (rest := []) hC ml_X11_267 mv_X11_worthTogether (c_X11_worthTogether l E h) ⟨rfl, rfl⟩ ⟨Nat.le_of_ble_eq_true rfl, Nat.le_of_ble_eq_true rfl⟩ kq_0 rfl (by decide) rfl rfl (Nat.le_of_ble_eq_true rfl) ⟨Nat.zero_le _, Nat.zero_le _⟩ dX11_count_105) (fun r11 h => ?_)
                    exact v_iret (pc := 108) hC dX11_count_108 ⟨rfl, h⟩
                  · skip
                    rw [if_neg c10] at h
                    refine v_tout (pc := 1) (tgt := 109) hC dX11_count_1 (by have := lv_neT c1 (a := 0) rfl; have := lv_neT c2 (a := 1) rfl; have := lv_neT c3 (a := 2) rfl; have := lv_neT c4 (a := 3) rfl; have := lv_neT c5 (a := 4) rfl; have := lv_neT c6 (a := 5) rfl; have := lv_neT c8 (a := 6) rfl; have := lv_neT c9 (a := 7) rfl; have := lv_neT c10 (a := 8) rfl; omega) (by decide) ?_
                    refine v_bipush (pc := 109) (v := (-102)) hC dX11_count_109 (by decide) ?_
                    exact v_iret (pc := 111) hC dX11_count_111 ⟨rfl, h⟩
def rm_X11_digestOfCells : Room := { frames := 3, cells := 0, slots := 0, locals := 65 }
def wb_X11_digestOfCells_20 (K5 : Int64 → Int32 → Prop) (Q : Int64 → Prop) (F : gS) (x5 : Int32) (K20 : Int64 → Int32 → Prop) (x3 : Int64) (x6 : Int32) : Prop :=
  if 3 < x6 then
    (Nm (x5 + 1) fun n1 =>
    K5 x3 n1)
  else
    (wp_X11_cell x5 x6 F fun r2 =>
    wp_X11_mixed x3 r2.toInt64 F fun r3 =>
    Nm (x6 + 1) fun n4 =>
    K20 r3 n4)
def wb_X11_digestOfCells_5 (Q : Int64 → Prop) (F : gS) (K5 : Int64 → Int32 → Prop) (x3 : Int64) (x5 : Int32) : Prop :=
  if (F 9 2) ≤ x5 then
    (Q x3)
  else
    (LP2 (wb_X11_digestOfCells_20 K5 Q F x5) x3 0)
def wp_X11_digestOfCells (x1 : Int64) (F : gS) (Q : Int64 → Prop) : Prop :=
  LP2 (wb_X11_digestOfCells_5 Q F) x1 0
set_option maxRecDepth 20000 in
set_option maxHeartbeats 4000000 in
theorem jb_X11_digestOfCells_20 {p : Program} {l : Launch} {e : Env} {s : State} {m : MethodId} {args : Array Value} {below : List Frame} {meth : Method} {c : Code} {E : gE} (hC : CX p s m args meth c cX11_digestOfCells RX11 (some .long) E 7) {Q : Int64 → Prop} {F : gS} {x3 : Int64} {x5 : Int32} {x6 : Int32} {K5 : Int64 → Int32 → Prop} (hK5 : ∀ (x3 : Int64) (x5 : Int32), K5 x3 x5 → VV p l e rm_X11_digestOfCells s m args below meth c 0 0 (MQ below (va_Ql (fun r G => G = F ∧ Q r) (gB E) (gA E)) args s 0 0 (gA E)) E 7 F 5 [(0, .ref (ad E 0)), (3, .long x3), (5, .int x5)] []) {K20 : Int64 → Int32 → Prop} (hK20 : ∀ (x3 : Int64) (x6 : Int32), K20 x3 x6 → VV p l e rm_X11_digestOfCells s m args below meth c 0 0 (MQ below (va_Ql (fun r G => G = F ∧ Q r) (gB E) (gA E)) args s 0 0 (gA E)) E 7 F 20 [(0, .ref (ad E 0)), (3, .long x3), (5, .int x5), (6, .int x6)] []) (h : wb_X11_digestOfCells_20 K5 Q F x5 K20 x3 x6) : VV p l e rm_X11_digestOfCells s m args below meth c 0 0 (MQ below (va_Ql (fun r G => G = F ∧ Q r) (gB E) (gA E)) args s 0 0 (gA E)) E 7 F 20 [(0, .ref (ad E 0)), (3, .long x3), (5, .int x5), (6, .int x6)] [] := by
  unfold wb_X11_digestOfCells_20 at h
  refine v_iload (pc := 20) hC dX11_digestOfCells_20 3 rfl ?_
  refine v_iconst (pc := 22) (v := 3) hC dX11_digestOfCells_22 (by decide) ?_
  refine v_ic_gt (pc := 23) (tgt := 46) hC dX11_digestOfCells_23 (by decide) h (fun h => ?_) (fun h => ?_)
  · skip
    refine v_iinc (pc := 46) (v := 1) hC (fun z => [(5, .int z), (0, .ref (ad E 0)), (3, .long x3), (6, .int x6)]) dX11_digestOfCells_46 2 rfl (by decide) (by decide) (fun _ => rfl) h (fun n1 h => ?_)
    refine v_goto (pc := 49) (tgt := 5) hC dX11_digestOfCells_49 (by decide) ?_
    exact v_sub [1, 2, 0] rfl (hK5 _ _ h)
  · skip
    refine v_lload_n (pc := 26) hC dX11_digestOfCells_26 rfl 1 rfl ?_
    refine v_aload_n (pc := 27) hC dX11_digestOfCells_27 rfl 0 rfl ?_
    refine v_iload (pc := 28) hC dX11_digestOfCells_28 2 rfl ?_
    refine v_iload (pc := 30) hC dX11_digestOfCells_30 3 rfl ?_
    refine v_cip (pc := 32) (r_V (rest := [.long x3]) hC ml_X11_295 mv_X11_cell (c_X11_cell l E h) ⟨rfl, rfl⟩ ⟨Nat.le_of_ble_eq_true rfl, Nat.le_of_ble_eq_true rfl⟩ kq_0 rfl (by decide) rfl rfl (Nat.le_of_ble_eq_true rfl) ⟨Nat.zero_le _, Nat.zero_le _⟩ dX11_digestOfCells_32) (fun r2 h => ?_)
    refine v_i2l (pc := 35) hC dX11_digestOfCells_35 ?_
    refine v_clp (pc := 36) (r_S (rest := []) hC ml_X11_288 ms_X11_mixed (c_X11_mixed l E h) ⟨rfl, rfl⟩ ⟨Nat.le_of_ble_eq_true rfl, Nat.le_of_ble_eq_true rfl⟩ rfl rfl (Nat.le_of_ble_eq_true rfl) ⟨Nat.zero_le _, Nat.zero_le _⟩ dX11_digestOfCells_36) (fun r3 h => ?_)
    refine v_lstore_n (pc := 39) (lv' := [(3, .long r3), (0, .ref (ad E 0)), (5, .int x5), (6, .int x6)]) hC dX11_digestOfCells_39 rfl (by decide) rfl ?_
    refine v_iinc (pc := 40) (v := 1) hC (fun z => [(6, .int z), (3, .long r3), (0, .ref (ad E 0)), (5, .int x5)]) dX11_digestOfCells_40 3 rfl (by decide) (by decide) (fun _ => rfl) h (fun n4 h => ?_)
    refine v_goto (pc := 43) (tgt := 20) hC dX11_digestOfCells_43 (by decide) ?_
    exact v_sub [2, 1, 3, 0] rfl (hK20 _ _ h)
set_option maxRecDepth 20000 in
set_option maxHeartbeats 4000000 in
theorem jl_X11_digestOfCells_20 {p : Program} {l : Launch} {e : Env} {s : State} {m : MethodId} {args : Array Value} {below : List Frame} {meth : Method} {c : Code} {E : gE} (hC : CX p s m args meth c cX11_digestOfCells RX11 (some .long) E 7) {Q : Int64 → Prop} {F : gS} {x3 : Int64} {x5 : Int32} {x6 : Int32} {K5 : Int64 → Int32 → Prop} (hK5 : ∀ (x3 : Int64) (x5 : Int32), K5 x3 x5 → VV p l e rm_X11_digestOfCells s m args below meth c 0 0 (MQ below (va_Ql (fun r G => G = F ∧ Q r) (gB E) (gA E)) args s 0 0 (gA E)) E 7 F 5 [(0, .ref (ad E 0)), (3, .long x3), (5, .int x5)] []) (h : LP2 (wb_X11_digestOfCells_20 K5 Q F x5) x3 x6) : VV p l e rm_X11_digestOfCells s m args below meth c 0 0 (MQ below (va_Ql (fun r G => G = F ∧ Q r) (gB E) (gA E)) args s 0 0 (gA E)) E 7 F 20 [(0, .ref (ad E 0)), (3, .long x3), (5, .int x5), (6, .int x6)] [] :=
  LP2_go (V := fun (x3 : Int64) (x6 : Int32) => VV p l e rm_X11_digestOfCells s m args below meth c 0 0 (MQ below (va_Ql (fun r G => G = F ∧ Q r) (gB E) (gA E)) args s 0 0 (gA E)) E 7 F 20 [(0, .ref (ad E 0)), (3, .long x3), (5, .int x5), (6, .int x6)] []) (fun K20 hK20 x3 x6 h => jb_X11_digestOfCells_20 hC hK5 hK20 h) x3 x6 h
set_option maxRecDepth 20000 in
set_option maxHeartbeats 4000000 in
theorem jb_X11_digestOfCells_5 {p : Program} {l : Launch} {e : Env} {s : State} {m : MethodId} {args : Array Value} {below : List Frame} {meth : Method} {c : Code} {E : gE} (hC : CX p s m args meth c cX11_digestOfCells RX11 (some .long) E 7) {Q : Int64 → Prop} {F : gS} {x3 : Int64} {x5 : Int32} {K5 : Int64 → Int32 → Prop} (hK5 : ∀ (x3 : Int64) (x5 : Int32), K5 x3 x5 → VV p l e rm_X11_digestOfCells s m args below meth c 0 0 (MQ below (va_Ql (fun r G => G = F ∧ Q r) (gB E) (gA E)) args s 0 0 (gA E)) E 7 F 5 [(0, .ref (ad E 0)), (3, .long x3), (5, .int x5)] []) (h : wb_X11_digestOfCells_5 Q F K5 x3 x5) : VV p l e rm_X11_digestOfCells s m args below meth c 0 0 (MQ below (va_Ql (fun r G => G = F ∧ Q r) (gB E) (gA E)) args s 0 0 (gA E)) E 7 F 5 [(0, .ref (ad E 0)), (3, .long x3), (5, .int x5)] [] := by
  unfold wb_X11_digestOfCells_5 at h
  refine v_iload (pc := 5) hC dX11_digestOfCells_5 2 rfl ?_
  refine v_aload_n (pc := 7) hC dX11_digestOfCells_7 rfl 0 rfl ?_
  refine v_get (pc := 8) (v := .ref (ad E 9)) hC fl_X11_41 kq_0 rfl dX11_digestOfCells_8 ?_
  refine v_get (pc := 11) (v := .int (F 9 2)) hC fl_X11_116 kq_9 rfl dX11_digestOfCells_11 ?_
  refine v_ic_ge (pc := 14) (tgt := 52) hC dX11_digestOfCells_14 (by decide) h (fun h => ?_) (fun h => ?_)
  · skip
    refine v_lload_n (pc := 52) hC dX11_digestOfCells_52 rfl 1 rfl ?_
    exact v_lret (pc := 53) hC dX11_digestOfCells_53 ⟨rfl, h⟩
  · skip
    refine v_iconst (pc := 17) (v := 0) hC dX11_digestOfCells_17 (by decide) ?_
    refine v_istore (pc := 18) (lv' := [(6, .int 0), (0, .ref (ad E 0)), (3, .long x3), (5, .int x5)]) hC dX11_digestOfCells_18 (by decide) rfl ?_
    exact v_sub [1, 2, 3, 0] rfl (jl_X11_digestOfCells_20 hC hK5 h)
set_option maxRecDepth 20000 in
set_option maxHeartbeats 4000000 in
theorem jl_X11_digestOfCells_5 {p : Program} {l : Launch} {e : Env} {s : State} {m : MethodId} {args : Array Value} {below : List Frame} {meth : Method} {c : Code} {E : gE} (hC : CX p s m args meth c cX11_digestOfCells RX11 (some .long) E 7) {Q : Int64 → Prop} {F : gS} {x3 : Int64} {x5 : Int32} (h : LP2 (wb_X11_digestOfCells_5 Q F) x3 x5) : VV p l e rm_X11_digestOfCells s m args below meth c 0 0 (MQ below (va_Ql (fun r G => G = F ∧ Q r) (gB E) (gA E)) args s 0 0 (gA E)) E 7 F 5 [(0, .ref (ad E 0)), (3, .long x3), (5, .int x5)] [] :=
  LP2_go (V := fun (x3 : Int64) (x5 : Int32) => VV p l e rm_X11_digestOfCells s m args below meth c 0 0 (MQ below (va_Ql (fun r G => G = F ∧ Q r) (gB E) (gA E)) args s 0 0 (gA E)) E 7 F 5 [(0, .ref (ad E 0)), (3, .long x3), (5, .int x5)] []) (fun K5 hK5 x3 x5 h => jb_X11_digestOfCells_5 hC hK5 h) x3 x5 h
set_option maxRecDepth 20000 in
set_option maxHeartbeats 4000000 in
theorem c_X11_digestOfCells (l : Launch) (E : gE) {x1 : Int64} {F : gS} {Q : Int64 → Prop} (h : wp_X11_digestOfCells x1 F Q) : CtL l E yX11_digestOfCells cX11_digestOfCells 7 (some .long) rm_X11_digestOfCells [.ref (ad E 0), .long x1] F (fun r G => G = F ∧ Q r) := by
  refine ct_of (by decide) (Nat.le_of_ble_eq_true rfl) (fun p e s m below meth c hC => ?_)
  generalize ([.ref (ad E 0), .long x1] : List Value).toArray = args at hC ⊢
  refine v_sub (lv' := [(0, .ref (ad E 0)), (1, .long x1)]) [0, 1] rfl ?_
  unfold wp_X11_digestOfCells at h
  refine v_lload_n (pc := 0) hC dX11_digestOfCells_0 rfl 1 rfl ?_
  refine v_lstore_n (pc := 1) (lv' := [(3, .long x1), (0, .ref (ad E 0)), (1, .long x1)]) hC dX11_digestOfCells_1 rfl (by decide) rfl ?_
  refine v_iconst (pc := 2) (v := 0) hC dX11_digestOfCells_2 (by decide) ?_
  refine v_istore (pc := 3) (lv' := [(5, .int 0), (3, .long x1), (0, .ref (ad E 0)), (1, .long x1)]) hC dX11_digestOfCells_3 (by decide) rfl ?_
  exact v_sub [2, 1, 0] rfl (jl_X11_digestOfCells_5 hC h)
def rm_X11_digestOfPlans : Room := { frames := 2, cells := 0, slots := 0, locals := 43 }
def wb_X11_digestOfPlans_50 (K5 : Int64 → Int32 → Prop) (Q : Int64 → Prop) (F : gS) (x5 : Int32) (K50 : Int64 → Int32 → Prop) (x3 : Int64) (x6 : Int32) : Prop :=
  vp_in x5 6 ∧
  if (F (37 + 2 * x5.toNatClampNeg) 5) ≤ x6 then
    (Nm (x5 + 1) fun n6 =>
    K5 x3 n6)
  else
    (vp_in x5 6 ∧
    wp_X7_swingAt (37 + 2 * x5.toNatClampNeg) x6 F fun r8 =>
    wp_X11_mixed x3 r8.toInt64 F fun r9 =>
    Nm (x6 + 1) fun n10 =>
    K50 r9 n10)
def wb_X11_digestOfPlans_17 (K5 : Int64 → Int32 → Prop) (Q : Int64 → Prop) (F : gS) (x5 : Int32) (K17 : Int64 → Int32 → Prop) (x3 : Int64) (x6 : Int32) : Prop :=
  if 4 < x6 then
    (LP2 (wb_X11_digestOfPlans_50 K5 Q F x5) x3 0)
  else
    (vp_in x5 6 ∧
    wp_X7_told (37 + 2 * x5.toNatClampNeg) x6 F fun r2 =>
    wp_X11_mixed x3 r2.toInt64 F fun r3 =>
    Nm (x6 + 1) fun n4 =>
    K17 r3 n4)
def wb_X11_digestOfPlans_5 (Q : Int64 → Prop) (F : gS) (K5 : Int64 → Int32 → Prop) (x3 : Int64) (x5 : Int32) : Prop :=
  if (F 0 10) ≤ x5 then
    (Q x3)
  else
    (LP2 (wb_X11_digestOfPlans_17 K5 Q F x5) x3 0)
def wp_X11_digestOfPlans (x1 : Int64) (F : gS) (Q : Int64 → Prop) : Prop :=
  LP2 (wb_X11_digestOfPlans_5 Q F) x1 0
set_option maxRecDepth 20000 in
set_option maxHeartbeats 4000000 in
theorem jb_X11_digestOfPlans_50 {p : Program} {l : Launch} {e : Env} {s : State} {m : MethodId} {args : Array Value} {below : List Frame} {meth : Method} {c : Code} {E : gE} (hC : CX p s m args meth c cX11_digestOfPlans RX11 (some .long) E 7) {Q : Int64 → Prop} {F : gS} {x3 : Int64} {x5 : Int32} {x6 : Int32} {K5 : Int64 → Int32 → Prop} (hK5 : ∀ (x3 : Int64) (x5 : Int32), K5 x3 x5 → VV p l e rm_X11_digestOfPlans s m args below meth c 0 0 (MQ below (va_Ql (fun r G => G = F ∧ Q r) (gB E) (gA E)) args s 0 0 (gA E)) E 7 F 5 [(0, .ref (ad E 0)), (3, .long x3), (5, .int x5)] []) {K50 : Int64 → Int32 → Prop} (hK50 : ∀ (x3 : Int64) (x6 : Int32), K50 x3 x6 → VV p l e rm_X11_digestOfPlans s m args below meth c 0 0 (MQ below (va_Ql (fun r G => G = F ∧ Q r) (gB E) (gA E)) args s 0 0 (gA E)) E 7 F 50 [(0, .ref (ad E 0)), (3, .long x3), (5, .int x5), (6, .int x6)] []) (h : wb_X11_digestOfPlans_50 K5 Q F x5 K50 x3 x6) : VV p l e rm_X11_digestOfPlans s m args below meth c 0 0 (MQ below (va_Ql (fun r G => G = F ∧ Q r) (gB E) (gA E)) args s 0 0 (gA E)) E 7 F 50 [(0, .ref (ad E 0)), (3, .long x3), (5, .int x5), (6, .int x6)] [] := by
  unfold wb_X11_digestOfPlans_50 at h
  refine v_iload (pc := 50) hC dX11_digestOfPlans_50 3 rfl ?_
  refine v_aload_n (pc := 52) hC dX11_digestOfPlans_52 rfl 0 rfl ?_
  refine v_get (pc := 53) (v := .ref (ad E 32)) hC fl_X11_54 kq_0 rfl dX11_digestOfPlans_53 ?_
  refine v_iload (pc := 56) hC dX11_digestOfPlans_56 2 rfl ?_
  have g5 := in_lt h.1
  refine v_aaldP (pc := 58) hC dX11_digestOfPlans_58 h (fun h => ?_)
  refine v_get (pc := 59) (v := .int (F (37 + 2 * x5.toNatClampNeg) 5)) hC fl_X11_298 (kd_pl _ g5) rfl dX11_digestOfPlans_59 ?_
  refine v_ic_ge (pc := 62) (tgt := 89) hC dX11_digestOfPlans_62 (by decide) h (fun h => ?_) (fun h => ?_)
  · skip
    refine v_iinc (pc := 89) (v := 1) hC (fun z => [(5, .int z), (0, .ref (ad E 0)), (3, .long x3), (6, .int x6)]) dX11_digestOfPlans_89 2 rfl (by decide) (by decide) (fun _ => rfl) h (fun n6 h => ?_)
    refine v_goto (pc := 92) (tgt := 5) hC dX11_digestOfPlans_92 (by decide) ?_
    exact v_sub [1, 2, 0] rfl (hK5 _ _ h)
  · skip
    refine v_lload_n (pc := 65) hC dX11_digestOfPlans_65 rfl 1 rfl ?_
    refine v_aload_n (pc := 66) hC dX11_digestOfPlans_66 rfl 0 rfl ?_
    refine v_get (pc := 67) (v := .ref (ad E 32)) hC fl_X11_54 kq_0 rfl dX11_digestOfPlans_67 ?_
    refine v_iload (pc := 70) hC dX11_digestOfPlans_70 2 rfl ?_
    have g7 := in_lt h.1
    refine v_aaldP (pc := 72) hC dX11_digestOfPlans_72 h (fun h => ?_)
    refine v_iload (pc := 73) hC dX11_digestOfPlans_73 3 rfl ?_
    refine v_cip (pc := 75) (r_V (rest := [.long x3]) hC ml_X11_129 mv_X7_swingAt (c_X7_swingAt l E (kd_pl _ g7) h) ⟨rfl, rfl⟩ ⟨Nat.le_of_ble_eq_true rfl, Nat.le_of_ble_eq_true rfl⟩ (kd_pl _ g7) rfl (by decide) rfl rfl (Nat.le_of_ble_eq_true rfl) ⟨Nat.zero_le _, Nat.zero_le _⟩ dX11_digestOfPlans_75) (fun r8 h => ?_)
    refine v_i2l (pc := 78) hC dX11_digestOfPlans_78 ?_
    refine v_clp (pc := 79) (r_S (rest := []) hC ml_X11_288 ms_X11_mixed (c_X11_mixed l E h) ⟨rfl, rfl⟩ ⟨Nat.le_of_ble_eq_true rfl, Nat.le_of_ble_eq_true rfl⟩ rfl rfl (Nat.le_of_ble_eq_true rfl) ⟨Nat.zero_le _, Nat.zero_le _⟩ dX11_digestOfPlans_79) (fun r9 h => ?_)
    refine v_lstore_n (pc := 82) (lv' := [(3, .long r9), (0, .ref (ad E 0)), (5, .int x5), (6, .int x6)]) hC dX11_digestOfPlans_82 rfl (by decide) rfl ?_
    refine v_iinc (pc := 83) (v := 1) hC (fun z => [(6, .int z), (3, .long r9), (0, .ref (ad E 0)), (5, .int x5)]) dX11_digestOfPlans_83 3 rfl (by decide) (by decide) (fun _ => rfl) h (fun n10 h => ?_)
    refine v_goto (pc := 86) (tgt := 50) hC dX11_digestOfPlans_86 (by decide) ?_
    exact v_sub [2, 1, 3, 0] rfl (hK50 _ _ h)
set_option maxRecDepth 20000 in
set_option maxHeartbeats 4000000 in
theorem jl_X11_digestOfPlans_50 {p : Program} {l : Launch} {e : Env} {s : State} {m : MethodId} {args : Array Value} {below : List Frame} {meth : Method} {c : Code} {E : gE} (hC : CX p s m args meth c cX11_digestOfPlans RX11 (some .long) E 7) {Q : Int64 → Prop} {F : gS} {x3 : Int64} {x5 : Int32} {x6 : Int32} {K5 : Int64 → Int32 → Prop} (hK5 : ∀ (x3 : Int64) (x5 : Int32), K5 x3 x5 → VV p l e rm_X11_digestOfPlans s m args below meth c 0 0 (MQ below (va_Ql (fun r G => G = F ∧ Q r) (gB E) (gA E)) args s 0 0 (gA E)) E 7 F 5 [(0, .ref (ad E 0)), (3, .long x3), (5, .int x5)] []) (h : LP2 (wb_X11_digestOfPlans_50 K5 Q F x5) x3 x6) : VV p l e rm_X11_digestOfPlans s m args below meth c 0 0 (MQ below (va_Ql (fun r G => G = F ∧ Q r) (gB E) (gA E)) args s 0 0 (gA E)) E 7 F 50 [(0, .ref (ad E 0)), (3, .long x3), (5, .int x5), (6, .int x6)] [] :=
  LP2_go (V := fun (x3 : Int64) (x6 : Int32) => VV p l e rm_X11_digestOfPlans s m args below meth c 0 0 (MQ below (va_Ql (fun r G => G = F ∧ Q r) (gB E) (gA E)) args s 0 0 (gA E)) E 7 F 50 [(0, .ref (ad E 0)), (3, .long x3), (5, .int x5), (6, .int x6)] []) (fun K50 hK50 x3 x6 h => jb_X11_digestOfPlans_50 hC hK5 hK50 h) x3 x6 h
set_option maxRecDepth 20000 in
set_option maxHeartbeats 4000000 in
theorem jb_X11_digestOfPlans_17 {p : Program} {l : Launch} {e : Env} {s : State} {m : MethodId} {args : Array Value} {below : List Frame} {meth : Method} {c : Code} {E : gE} (hC : CX p s m args meth c cX11_digestOfPlans RX11 (some .long) E 7) {Q : Int64 → Prop} {F : gS} {x3 : Int64} {x5 : Int32} {x6 : Int32} {K5 : Int64 → Int32 → Prop} (hK5 : ∀ (x3 : Int64) (x5 : Int32), K5 x3 x5 → VV p l e rm_X11_digestOfPlans s m args below meth c 0 0 (MQ below (va_Ql (fun r G => G = F ∧ Q r) (gB E) (gA E)) args s 0 0 (gA E)) E 7 F 5 [(0, .ref (ad E 0)), (3, .long x3), (5, .int x5)] []) {K17 : Int64 → Int32 → Prop} (hK17 : ∀ (x3 : Int64) (x6 : Int32), K17 x3 x6 → VV p l e rm_X11_digestOfPlans s m args below meth c 0 0 (MQ below (va_Ql (fun r G => G = F ∧ Q r) (gB E) (gA E)) args s 0 0 (gA E)) E 7 F 17 [(0, .ref (ad E 0)), (3, .long x3), (5, .int x5), (6, .int x6)] []) (h : wb_X11_digestOfPlans_17 K5 Q F x5 K17 x3 x6) : VV p l e rm_X11_digestOfPlans s m args below meth c 0 0 (MQ below (va_Ql (fun r G => G = F ∧ Q r) (gB E) (gA E)) args s 0 0 (gA E)) E 7 F 17 [(0, .ref (ad E 0)), (3, .long x3), (5, .int x5), (6, .int x6)] [] := by
  unfold wb_X11_digestOfPlans_17 at h
  refine v_iload (pc := 17) hC dX11_digestOfPlans_17 3 rfl ?_
  refine v_iconst (pc := 19) (v := 4) hC dX11_digestOfPlans_19 (by decide) ?_
  refine v_ic_gt (pc := 20) (tgt := 47) hC dX11_digestOfPlans_20 (by decide) h (fun h => ?_) (fun h => ?_)
  · skip
    refine v_iconst (pc := 47) (v := 0) hC dX11_digestOfPlans_47 (by decide) ?_
    refine v_istore (pc := 48) (lv' := [(6, .int 0), (0, .ref (ad E 0)), (3, .long x3), (5, .int x5)]) hC dX11_digestOfPlans_48 (by decide) rfl ?_
    exact v_sub [1, 2, 3, 0] rfl (jl_X11_digestOfPlans_50 hC hK5 h)
  · skip
    refine v_lload_n (pc := 23) hC dX11_digestOfPlans_23 rfl 1 rfl ?_
    refine v_aload_n (pc := 24) hC dX11_digestOfPlans_24 rfl 0 rfl ?_
    refine v_get (pc := 25) (v := .ref (ad E 32)) hC fl_X11_54 kq_0 rfl dX11_digestOfPlans_25 ?_
    refine v_iload (pc := 28) hC dX11_digestOfPlans_28 2 rfl ?_
    have g1 := in_lt h.1
    refine v_aaldP (pc := 30) hC dX11_digestOfPlans_30 h (fun h => ?_)
    refine v_iload (pc := 31) hC dX11_digestOfPlans_31 3 rfl ?_
    refine v_cip (pc := 33) (r_V (rest := [.long x3]) hC ml_X11_133 mv_X7_told (c_X7_told l E (kd_pl _ g1) h) ⟨rfl, rfl⟩ ⟨Nat.le_of_ble_eq_true rfl, Nat.le_of_ble_eq_true rfl⟩ (kd_pl _ g1) rfl (by decide) rfl rfl (Nat.le_of_ble_eq_true rfl) ⟨Nat.zero_le _, Nat.zero_le _⟩ dX11_digestOfPlans_33) (fun r2 h => ?_)
    refine v_i2l (pc := 36) hC dX11_digestOfPlans_36 ?_
    refine v_clp (pc := 37) (r_S (rest := []) hC ml_X11_288 ms_X11_mixed (c_X11_mixed l E h) ⟨rfl, rfl⟩ ⟨Nat.le_of_ble_eq_true rfl, Nat.le_of_ble_eq_true rfl⟩ rfl rfl (Nat.le_of_ble_eq_true rfl) ⟨Nat.zero_le _, Nat.zero_le _⟩ dX11_digestOfPlans_37) (fun r3 h => ?_)
    refine v_lstore_n (pc := 40) (lv' := [(3, .long r3), (0, .ref (ad E 0)), (5, .int x5), (6, .int x6)]) hC dX11_digestOfPlans_40 rfl (by decide) rfl ?_
    refine v_iinc (pc := 41) (v := 1) hC (fun z => [(6, .int z), (3, .long r3), (0, .ref (ad E 0)), (5, .int x5)]) dX11_digestOfPlans_41 3 rfl (by decide) (by decide) (fun _ => rfl) h (fun n4 h => ?_)
    refine v_goto (pc := 44) (tgt := 17) hC dX11_digestOfPlans_44 (by decide) ?_
    exact v_sub [2, 1, 3, 0] rfl (hK17 _ _ h)
set_option maxRecDepth 20000 in
set_option maxHeartbeats 4000000 in
theorem jl_X11_digestOfPlans_17 {p : Program} {l : Launch} {e : Env} {s : State} {m : MethodId} {args : Array Value} {below : List Frame} {meth : Method} {c : Code} {E : gE} (hC : CX p s m args meth c cX11_digestOfPlans RX11 (some .long) E 7) {Q : Int64 → Prop} {F : gS} {x3 : Int64} {x5 : Int32} {x6 : Int32} {K5 : Int64 → Int32 → Prop} (hK5 : ∀ (x3 : Int64) (x5 : Int32), K5 x3 x5 → VV p l e rm_X11_digestOfPlans s m args below meth c 0 0 (MQ below (va_Ql (fun r G => G = F ∧ Q r) (gB E) (gA E)) args s 0 0 (gA E)) E 7 F 5 [(0, .ref (ad E 0)), (3, .long x3), (5, .int x5)] []) (h : LP2 (wb_X11_digestOfPlans_17 K5 Q F x5) x3 x6) : VV p l e rm_X11_digestOfPlans s m args below meth c 0 0 (MQ below (va_Ql (fun r G => G = F ∧ Q r) (gB E) (gA E)) args s 0 0 (gA E)) E 7 F 17 [(0, .ref (ad E 0)), (3, .long x3), (5, .int x5), (6, .int x6)] [] :=
  LP2_go (V := fun (x3 : Int64) (x6 : Int32) => VV p l e rm_X11_digestOfPlans s m args below meth c 0 0 (MQ below (va_Ql (fun r G => G = F ∧ Q r) (gB E) (gA E)) args s 0 0 (gA E)) E 7 F 17 [(0, .ref (ad E 0)), (3, .long x3), (5, .int x5), (6, .int x6)] []) (fun K17 hK17 x3 x6 h => jb_X11_digestOfPlans_17 hC hK5 hK17 h) x3 x6 h
set_option maxRecDepth 20000 in
set_option maxHeartbeats 4000000 in
theorem jb_X11_digestOfPlans_5 {p : Program} {l : Launch} {e : Env} {s : State} {m : MethodId} {args : Array Value} {below : List Frame} {meth : Method} {c : Code} {E : gE} (hC : CX p s m args meth c cX11_digestOfPlans RX11 (some .long) E 7) {Q : Int64 → Prop} {F : gS} {x3 : Int64} {x5 : Int32} {K5 : Int64 → Int32 → Prop} (hK5 : ∀ (x3 : Int64) (x5 : Int32), K5 x3 x5 → VV p l e rm_X11_digestOfPlans s m args below meth c 0 0 (MQ below (va_Ql (fun r G => G = F ∧ Q r) (gB E) (gA E)) args s 0 0 (gA E)) E 7 F 5 [(0, .ref (ad E 0)), (3, .long x3), (5, .int x5)] []) (h : wb_X11_digestOfPlans_5 Q F K5 x3 x5) : VV p l e rm_X11_digestOfPlans s m args below meth c 0 0 (MQ below (va_Ql (fun r G => G = F ∧ Q r) (gB E) (gA E)) args s 0 0 (gA E)) E 7 F 5 [(0, .ref (ad E 0)), (3, .long x3), (5, .int x5)] [] := by
  unfold wb_X11_digestOfPlans_5 at h
  refine v_iload (pc := 5) hC dX11_digestOfPlans_5 2 rfl ?_
  refine v_aload_n (pc := 7) hC dX11_digestOfPlans_7 rfl 0 rfl ?_
  refine v_get (pc := 8) (v := .int (F 0 10)) hC fl_X11_119 kq_0 rfl dX11_digestOfPlans_8 ?_
  refine v_ic_ge (pc := 11) (tgt := 95) hC dX11_digestOfPlans_11 (by decide) h (fun h => ?_) (fun h => ?_)
  · skip
    refine v_lload_n (pc := 95) hC dX11_digestOfPlans_95 rfl 1 rfl ?_
    exact v_lret (pc := 96) hC dX11_digestOfPlans_96 ⟨rfl, h⟩
  · skip
    refine v_iconst (pc := 14) (v := 0) hC dX11_digestOfPlans_14 (by decide) ?_
    refine v_istore (pc := 15) (lv' := [(6, .int 0), (0, .ref (ad E 0)), (3, .long x3), (5, .int x5)]) hC dX11_digestOfPlans_15 (by decide) rfl ?_
    exact v_sub [1, 2, 3, 0] rfl (jl_X11_digestOfPlans_17 hC hK5 h)
set_option maxRecDepth 20000 in
set_option maxHeartbeats 4000000 in
theorem jl_X11_digestOfPlans_5 {p : Program} {l : Launch} {e : Env} {s : State} {m : MethodId} {args : Array Value} {below : List Frame} {meth : Method} {c : Code} {E : gE} (hC : CX p s m args meth c cX11_digestOfPlans RX11 (some .long) E 7) {Q : Int64 → Prop} {F : gS} {x3 : Int64} {x5 : Int32} (h : LP2 (wb_X11_digestOfPlans_5 Q F) x3 x5) : VV p l e rm_X11_digestOfPlans s m args below meth c 0 0 (MQ below (va_Ql (fun r G => G = F ∧ Q r) (gB E) (gA E)) args s 0 0 (gA E)) E 7 F 5 [(0, .ref (ad E 0)), (3, .long x3), (5, .int x5)] [] :=
  LP2_go (V := fun (x3 : Int64) (x5 : Int32) => VV p l e rm_X11_digestOfPlans s m args below meth c 0 0 (MQ below (va_Ql (fun r G => G = F ∧ Q r) (gB E) (gA E)) args s 0 0 (gA E)) E 7 F 5 [(0, .ref (ad E 0)), (3, .long x3), (5, .int x5)] []) (fun K5 hK5 x3 x5 h => jb_X11_digestOfPlans_5 hC hK5 h) x3 x5 h
set_option maxRecDepth 20000 in
set_option maxHeartbeats 4000000 in
theorem c_X11_digestOfPlans (l : Launch) (E : gE) {x1 : Int64} {F : gS} {Q : Int64 → Prop} (h : wp_X11_digestOfPlans x1 F Q) : CtL l E yX11_digestOfPlans cX11_digestOfPlans 7 (some .long) rm_X11_digestOfPlans [.ref (ad E 0), .long x1] F (fun r G => G = F ∧ Q r) := by
  refine ct_of (by decide) (Nat.le_of_ble_eq_true rfl) (fun p e s m below meth c hC => ?_)
  generalize ([.ref (ad E 0), .long x1] : List Value).toArray = args at hC ⊢
  refine v_sub (lv' := [(0, .ref (ad E 0)), (1, .long x1)]) [0, 1] rfl ?_
  unfold wp_X11_digestOfPlans at h
  refine v_lload_n (pc := 0) hC dX11_digestOfPlans_0 rfl 1 rfl ?_
  refine v_lstore_n (pc := 1) (lv' := [(3, .long x1), (0, .ref (ad E 0)), (1, .long x1)]) hC dX11_digestOfPlans_1 rfl (by decide) rfl ?_
  refine v_iconst (pc := 2) (v := 0) hC dX11_digestOfPlans_2 (by decide) ?_
  refine v_istore (pc := 3) (lv' := [(5, .int 0), (3, .long x1), (0, .ref (ad E 0)), (1, .long x1)]) hC dX11_digestOfPlans_3 (by decide) rfl ?_
  exact v_sub [2, 1, 0] rfl (jl_X11_digestOfPlans_5 hC h)
def rm_X11_digestOfCakes : Room := { frames := 1, cells := 0, slots := 0, locals := 23 }
def wb_X11_digestOfCakes_52 (K5 : Int64 → Int32 → Prop) (Q : Int64 → Prop) (F : gS) (x5 : Int32) (K52 : Int64 → Int32 → Prop) (x3 : Int64) (x6 : Int32) : Prop :=
  if (F 9 2) ≤ x6 then
    (Nm (x5 + 1) fun n4 =>
    K5 x3 n4)
  else
    (vp_in x5 24 ∧
    vp_in x6 16 ∧
    wp_X11_mixed x3 ((F (49 + 3 * x5.toNatClampNeg + 1) x6.toNatClampNeg).toInt64) F fun r6 =>
    Nm (x6 + 1) fun n7 =>
    K52 r6 n7)
def wb_X11_digestOfCakes_17 (K5 : Int64 → Int32 → Prop) (Q : Int64 → Prop) (F : gS) (x5 : Int32) (K17 : Int64 → Int32 → Prop) (x3 : Int64) (x6 : Int32) : Prop :=
  if 6 < x6 then
    (LP2 (wb_X11_digestOfCakes_52 K5 Q F x5) x3 0)
  else
    (vp_in x5 24 ∧
    vp_in x6 7 ∧
    wp_X11_mixed x3 ((F (49 + 3 * x5.toNatClampNeg + 2) x6.toNatClampNeg).toInt64) F fun r2 =>
    Nm (x6 + 1) fun n3 =>
    K17 r2 n3)
def wb_X11_digestOfCakes_5 (Q : Int64 → Prop) (F : gS) (K5 : Int64 → Int32 → Prop) (x3 : Int64) (x5 : Int32) : Prop :=
  if (F 0 11) ≤ x5 then
    (Q x3)
  else
    (LP2 (wb_X11_digestOfCakes_17 K5 Q F x5) x3 0)
def wp_X11_digestOfCakes (x1 : Int64) (F : gS) (Q : Int64 → Prop) : Prop :=
  LP2 (wb_X11_digestOfCakes_5 Q F) x1 0
set_option maxRecDepth 20000 in
set_option maxHeartbeats 4000000 in
theorem jb_X11_digestOfCakes_52 {p : Program} {l : Launch} {e : Env} {s : State} {m : MethodId} {args : Array Value} {below : List Frame} {meth : Method} {c : Code} {E : gE} (hC : CX p s m args meth c cX11_digestOfCakes RX11 (some .long) E 7) {Q : Int64 → Prop} {F : gS} {x3 : Int64} {x5 : Int32} {x6 : Int32} {K5 : Int64 → Int32 → Prop} (hK5 : ∀ (x3 : Int64) (x5 : Int32), K5 x3 x5 → VV p l e rm_X11_digestOfCakes s m args below meth c 0 0 (MQ below (va_Ql (fun r G => G = F ∧ Q r) (gB E) (gA E)) args s 0 0 (gA E)) E 7 F 5 [(0, .ref (ad E 0)), (3, .long x3), (5, .int x5)] []) {K52 : Int64 → Int32 → Prop} (hK52 : ∀ (x3 : Int64) (x6 : Int32), K52 x3 x6 → VV p l e rm_X11_digestOfCakes s m args below meth c 0 0 (MQ below (va_Ql (fun r G => G = F ∧ Q r) (gB E) (gA E)) args s 0 0 (gA E)) E 7 F 52 [(0, .ref (ad E 0)), (3, .long x3), (5, .int x5), (6, .int x6)] []) (h : wb_X11_digestOfCakes_52 K5 Q F x5 K52 x3 x6) : VV p l e rm_X11_digestOfCakes s m args below meth c 0 0 (MQ below (va_Ql (fun r G => G = F ∧ Q r) (gB E) (gA E)) args s 0 0 (gA E)) E 7 F 52 [(0, .ref (ad E 0)), (3, .long x3), (5, .int x5), (6, .int x6)] [] := by
  unfold wb_X11_digestOfCakes_52 at h
  refine v_iload (pc := 52) hC dX11_digestOfCakes_52 3 rfl ?_
  refine v_aload_n (pc := 54) hC dX11_digestOfCakes_54 rfl 0 rfl ?_
  refine v_get (pc := 55) (v := .ref (ad E 9)) hC fl_X11_41 kq_0 rfl dX11_digestOfCakes_55 ?_
  refine v_get (pc := 58) (v := .int (F 9 2)) hC fl_X11_116 kq_9 rfl dX11_digestOfCakes_58 ?_
  refine v_ic_ge (pc := 61) (tgt := 89) hC dX11_digestOfCakes_61 (by decide) h (fun h => ?_) (fun h => ?_)
  · skip
    refine v_iinc (pc := 89) (v := 1) hC (fun z => [(5, .int z), (0, .ref (ad E 0)), (3, .long x3), (6, .int x6)]) dX11_digestOfCakes_89 2 rfl (by decide) (by decide) (fun _ => rfl) h (fun n4 h => ?_)
    refine v_goto (pc := 92) (tgt := 5) hC dX11_digestOfCakes_92 (by decide) ?_
    exact v_sub [1, 2, 0] rfl (hK5 _ _ h)
  · skip
    refine v_lload_n (pc := 64) hC dX11_digestOfCakes_64 rfl 1 rfl ?_
    refine v_aload_n (pc := 65) hC dX11_digestOfCakes_65 rfl 0 rfl ?_
    refine v_get (pc := 66) (v := .ref (ad E 33)) hC fl_X11_60 kq_0 rfl dX11_digestOfCakes_66 ?_
    refine v_iload (pc := 69) hC dX11_digestOfCakes_69 2 rfl ?_
    have g5 := in_lt h.1
    refine v_aaldC (pc := 71) hC dX11_digestOfCakes_71 h (fun h => ?_)
    refine v_get (pc := 72) (v := .ref (ad E (49 + 3 * x5.toNatClampNeg + 1))) hC fl_X11_189 (kd_ck _ g5) rfl dX11_digestOfCakes_72 ?_
    refine v_iload (pc := 75) hC dX11_digestOfCakes_75 3 rfl ?_
    refine v_iald (pc := 77) (n := 16) hC (kd_c1 (kd_ck _ g5)) (by decide) dX11_digestOfCakes_77 h (fun h => ?_)
    refine v_i2l (pc := 78) hC dX11_digestOfCakes_78 ?_
    refine v_clp (pc := 79) (r_S (rest := []) hC ml_X11_288 ms_X11_mixed (c_X11_mixed l E h) ⟨rfl, rfl⟩ ⟨Nat.le_of_ble_eq_true rfl, Nat.le_of_ble_eq_true rfl⟩ rfl rfl (Nat.le_of_ble_eq_true rfl) ⟨Nat.zero_le _, Nat.zero_le _⟩ dX11_digestOfCakes_79) (fun r6 h => ?_)
    refine v_lstore_n (pc := 82) (lv' := [(3, .long r6), (0, .ref (ad E 0)), (5, .int x5), (6, .int x6)]) hC dX11_digestOfCakes_82 rfl (by decide) rfl ?_
    refine v_iinc (pc := 83) (v := 1) hC (fun z => [(6, .int z), (3, .long r6), (0, .ref (ad E 0)), (5, .int x5)]) dX11_digestOfCakes_83 3 rfl (by decide) (by decide) (fun _ => rfl) h (fun n7 h => ?_)
    refine v_goto (pc := 86) (tgt := 52) hC dX11_digestOfCakes_86 (by decide) ?_
    exact v_sub [2, 1, 3, 0] rfl (hK52 _ _ h)
set_option maxRecDepth 20000 in
set_option maxHeartbeats 4000000 in
theorem jl_X11_digestOfCakes_52 {p : Program} {l : Launch} {e : Env} {s : State} {m : MethodId} {args : Array Value} {below : List Frame} {meth : Method} {c : Code} {E : gE} (hC : CX p s m args meth c cX11_digestOfCakes RX11 (some .long) E 7) {Q : Int64 → Prop} {F : gS} {x3 : Int64} {x5 : Int32} {x6 : Int32} {K5 : Int64 → Int32 → Prop} (hK5 : ∀ (x3 : Int64) (x5 : Int32), K5 x3 x5 → VV p l e rm_X11_digestOfCakes s m args below meth c 0 0 (MQ below (va_Ql (fun r G => G = F ∧ Q r) (gB E) (gA E)) args s 0 0 (gA E)) E 7 F 5 [(0, .ref (ad E 0)), (3, .long x3), (5, .int x5)] []) (h : LP2 (wb_X11_digestOfCakes_52 K5 Q F x5) x3 x6) : VV p l e rm_X11_digestOfCakes s m args below meth c 0 0 (MQ below (va_Ql (fun r G => G = F ∧ Q r) (gB E) (gA E)) args s 0 0 (gA E)) E 7 F 52 [(0, .ref (ad E 0)), (3, .long x3), (5, .int x5), (6, .int x6)] [] :=
  LP2_go (V := fun (x3 : Int64) (x6 : Int32) => VV p l e rm_X11_digestOfCakes s m args below meth c 0 0 (MQ below (va_Ql (fun r G => G = F ∧ Q r) (gB E) (gA E)) args s 0 0 (gA E)) E 7 F 52 [(0, .ref (ad E 0)), (3, .long x3), (5, .int x5), (6, .int x6)] []) (fun K52 hK52 x3 x6 h => jb_X11_digestOfCakes_52 hC hK5 hK52 h) x3 x6 h
set_option maxRecDepth 20000 in
set_option maxHeartbeats 4000000 in
theorem jb_X11_digestOfCakes_17 {p : Program} {l : Launch} {e : Env} {s : State} {m : MethodId} {args : Array Value} {below : List Frame} {meth : Method} {c : Code} {E : gE} (hC : CX p s m args meth c cX11_digestOfCakes RX11 (some .long) E 7) {Q : Int64 → Prop} {F : gS} {x3 : Int64} {x5 : Int32} {x6 : Int32} {K5 : Int64 → Int32 → Prop} (hK5 : ∀ (x3 : Int64) (x5 : Int32), K5 x3 x5 → VV p l e rm_X11_digestOfCakes s m args below meth c 0 0 (MQ below (va_Ql (fun r G => G = F ∧ Q r) (gB E) (gA E)) args s 0 0 (gA E)) E 7 F 5 [(0, .ref (ad E 0)), (3, .long x3), (5, .int x5)] []) {K17 : Int64 → Int32 → Prop} (hK17 : ∀ (x3 : Int64) (x6 : Int32), K17 x3 x6 → VV p l e rm_X11_digestOfCakes s m args below meth c 0 0 (MQ below (va_Ql (fun r G => G = F ∧ Q r) (gB E) (gA E)) args s 0 0 (gA E)) E 7 F 17 [(0, .ref (ad E 0)), (3, .long x3), (5, .int x5), (6, .int x6)] []) (h : wb_X11_digestOfCakes_17 K5 Q F x5 K17 x3 x6) : VV p l e rm_X11_digestOfCakes s m args below meth c 0 0 (MQ below (va_Ql (fun r G => G = F ∧ Q r) (gB E) (gA E)) args s 0 0 (gA E)) E 7 F 17 [(0, .ref (ad E 0)), (3, .long x3), (5, .int x5), (6, .int x6)] [] := by
  unfold wb_X11_digestOfCakes_17 at h
  refine v_iload (pc := 17) hC dX11_digestOfCakes_17 3 rfl ?_
  refine v_bipush (pc := 19) (v := 6) hC dX11_digestOfCakes_19 (by decide) ?_
  refine v_ic_gt (pc := 21) (tgt := 49) hC dX11_digestOfCakes_21 (by decide) h (fun h => ?_) (fun h => ?_)
  · skip
    refine v_iconst (pc := 49) (v := 0) hC dX11_digestOfCakes_49 (by decide) ?_
    refine v_istore (pc := 50) (lv' := [(6, .int 0), (0, .ref (ad E 0)), (3, .long x3), (5, .int x5)]) hC dX11_digestOfCakes_50 (by decide) rfl ?_
    exact v_sub [1, 2, 3, 0] rfl (jl_X11_digestOfCakes_52 hC hK5 h)
  · skip
    refine v_lload_n (pc := 24) hC dX11_digestOfCakes_24 rfl 1 rfl ?_
    refine v_aload_n (pc := 25) hC dX11_digestOfCakes_25 rfl 0 rfl ?_
    refine v_get (pc := 26) (v := .ref (ad E 33)) hC fl_X11_60 kq_0 rfl dX11_digestOfCakes_26 ?_
    refine v_iload (pc := 29) hC dX11_digestOfCakes_29 2 rfl ?_
    have g1 := in_lt h.1
    refine v_aaldC (pc := 31) hC dX11_digestOfCakes_31 h (fun h => ?_)
    refine v_get (pc := 32) (v := .ref (ad E (49 + 3 * x5.toNatClampNeg + 2))) hC fl_X11_181 (kd_ck _ g1) rfl dX11_digestOfCakes_32 ?_
    refine v_iload (pc := 35) hC dX11_digestOfCakes_35 3 rfl ?_
    refine v_iald (pc := 37) (n := 7) hC (kd_c2 (kd_ck _ g1)) (by decide) dX11_digestOfCakes_37 h (fun h => ?_)
    refine v_i2l (pc := 38) hC dX11_digestOfCakes_38 ?_
    refine v_clp (pc := 39) (r_S (rest := []) hC ml_X11_288 ms_X11_mixed (c_X11_mixed l E h) ⟨rfl, rfl⟩ ⟨Nat.le_of_ble_eq_true rfl, Nat.le_of_ble_eq_true rfl⟩ rfl rfl (Nat.le_of_ble_eq_true rfl) ⟨Nat.zero_le _, Nat.zero_le _⟩ dX11_digestOfCakes_39) (fun r2 h => ?_)
    refine v_lstore_n (pc := 42) (lv' := [(3, .long r2), (0, .ref (ad E 0)), (5, .int x5), (6, .int x6)]) hC dX11_digestOfCakes_42 rfl (by decide) rfl ?_
    refine v_iinc (pc := 43) (v := 1) hC (fun z => [(6, .int z), (3, .long r2), (0, .ref (ad E 0)), (5, .int x5)]) dX11_digestOfCakes_43 3 rfl (by decide) (by decide) (fun _ => rfl) h (fun n3 h => ?_)
    refine v_goto (pc := 46) (tgt := 17) hC dX11_digestOfCakes_46 (by decide) ?_
    exact v_sub [2, 1, 3, 0] rfl (hK17 _ _ h)
set_option maxRecDepth 20000 in
set_option maxHeartbeats 4000000 in
theorem jl_X11_digestOfCakes_17 {p : Program} {l : Launch} {e : Env} {s : State} {m : MethodId} {args : Array Value} {below : List Frame} {meth : Method} {c : Code} {E : gE} (hC : CX p s m args meth c cX11_digestOfCakes RX11 (some .long) E 7) {Q : Int64 → Prop} {F : gS} {x3 : Int64} {x5 : Int32} {x6 : Int32} {K5 : Int64 → Int32 → Prop} (hK5 : ∀ (x3 : Int64) (x5 : Int32), K5 x3 x5 → VV p l e rm_X11_digestOfCakes s m args below meth c 0 0 (MQ below (va_Ql (fun r G => G = F ∧ Q r) (gB E) (gA E)) args s 0 0 (gA E)) E 7 F 5 [(0, .ref (ad E 0)), (3, .long x3), (5, .int x5)] []) (h : LP2 (wb_X11_digestOfCakes_17 K5 Q F x5) x3 x6) : VV p l e rm_X11_digestOfCakes s m args below meth c 0 0 (MQ below (va_Ql (fun r G => G = F ∧ Q r) (gB E) (gA E)) args s 0 0 (gA E)) E 7 F 17 [(0, .ref (ad E 0)), (3, .long x3), (5, .int x5), (6, .int x6)] [] :=
  LP2_go (V := fun (x3 : Int64) (x6 : Int32) => VV p l e rm_X11_digestOfCakes s m args below meth c 0 0 (MQ below (va_Ql (fun r G => G = F ∧ Q r) (gB E) (gA E)) args s 0 0 (gA E)) E 7 F 17 [(0, .ref (ad E 0)), (3, .long x3), (5, .int x5), (6, .int x6)] []) (fun K17 hK17 x3 x6 h => jb_X11_digestOfCakes_17 hC hK5 hK17 h) x3 x6 h
set_option maxRecDepth 20000 in
set_option maxHeartbeats 4000000 in
theorem jb_X11_digestOfCakes_5 {p : Program} {l : Launch} {e : Env} {s : State} {m : MethodId} {args : Array Value} {below : List Frame} {meth : Method} {c : Code} {E : gE} (hC : CX p s m args meth c cX11_digestOfCakes RX11 (some .long) E 7) {Q : Int64 → Prop} {F : gS} {x3 : Int64} {x5 : Int32} {K5 : Int64 → Int32 → Prop} (hK5 : ∀ (x3 : Int64) (x5 : Int32), K5 x3 x5 → VV p l e rm_X11_digestOfCakes s m args below meth c 0 0 (MQ below (va_Ql (fun r G => G = F ∧ Q r) (gB E) (gA E)) args s 0 0 (gA E)) E 7 F 5 [(0, .ref (ad E 0)), (3, .long x3), (5, .int x5)] []) (h : wb_X11_digestOfCakes_5 Q F K5 x3 x5) : VV p l e rm_X11_digestOfCakes s m args below meth c 0 0 (MQ below (va_Ql (fun r G => G = F ∧ Q r) (gB E) (gA E)) args s 0 0 (gA E)) E 7 F 5 [(0, .ref (ad E 0)), (3, .long x3), (5, .int x5)] [] := by
  unfold wb_X11_digestOfCakes_5 at h
  refine v_iload (pc := 5) hC dX11_digestOfCakes_5 2 rfl ?_
  refine v_aload_n (pc := 7) hC dX11_digestOfCakes_7 rfl 0 rfl ?_
  refine v_get (pc := 8) (v := .int (F 0 11)) hC fl_X11_106 kq_0 rfl dX11_digestOfCakes_8 ?_
  refine v_ic_ge (pc := 11) (tgt := 95) hC dX11_digestOfCakes_11 (by decide) h (fun h => ?_) (fun h => ?_)
  · skip
    refine v_lload_n (pc := 95) hC dX11_digestOfCakes_95 rfl 1 rfl ?_
    exact v_lret (pc := 96) hC dX11_digestOfCakes_96 ⟨rfl, h⟩
  · skip
    refine v_iconst (pc := 14) (v := 0) hC dX11_digestOfCakes_14 (by decide) ?_
    refine v_istore (pc := 15) (lv' := [(6, .int 0), (0, .ref (ad E 0)), (3, .long x3), (5, .int x5)]) hC dX11_digestOfCakes_15 (by decide) rfl ?_
    exact v_sub [1, 2, 3, 0] rfl (jl_X11_digestOfCakes_17 hC hK5 h)
set_option maxRecDepth 20000 in
set_option maxHeartbeats 4000000 in
theorem jl_X11_digestOfCakes_5 {p : Program} {l : Launch} {e : Env} {s : State} {m : MethodId} {args : Array Value} {below : List Frame} {meth : Method} {c : Code} {E : gE} (hC : CX p s m args meth c cX11_digestOfCakes RX11 (some .long) E 7) {Q : Int64 → Prop} {F : gS} {x3 : Int64} {x5 : Int32} (h : LP2 (wb_X11_digestOfCakes_5 Q F) x3 x5) : VV p l e rm_X11_digestOfCakes s m args below meth c 0 0 (MQ below (va_Ql (fun r G => G = F ∧ Q r) (gB E) (gA E)) args s 0 0 (gA E)) E 7 F 5 [(0, .ref (ad E 0)), (3, .long x3), (5, .int x5)] [] :=
  LP2_go (V := fun (x3 : Int64) (x5 : Int32) => VV p l e rm_X11_digestOfCakes s m args below meth c 0 0 (MQ below (va_Ql (fun r G => G = F ∧ Q r) (gB E) (gA E)) args s 0 0 (gA E)) E 7 F 5 [(0, .ref (ad E 0)), (3, .long x3), (5, .int x5)] []) (fun K5 hK5 x3 x5 h => jb_X11_digestOfCakes_5 hC hK5 h) x3 x5 h
set_option maxRecDepth 20000 in
set_option maxHeartbeats 4000000 in
theorem c_X11_digestOfCakes (l : Launch) (E : gE) {x1 : Int64} {F : gS} {Q : Int64 → Prop} (h : wp_X11_digestOfCakes x1 F Q) : CtL l E yX11_digestOfCakes cX11_digestOfCakes 7 (some .long) rm_X11_digestOfCakes [.ref (ad E 0), .long x1] F (fun r G => G = F ∧ Q r) := by
  refine ct_of (by decide) (Nat.le_of_ble_eq_true rfl) (fun p e s m below meth c hC => ?_)
  generalize ([.ref (ad E 0), .long x1] : List Value).toArray = args at hC ⊢
  refine v_sub (lv' := [(0, .ref (ad E 0)), (1, .long x1)]) [0, 1] rfl ?_
  unfold wp_X11_digestOfCakes at h
  refine v_lload_n (pc := 0) hC dX11_digestOfCakes_0 rfl 1 rfl ?_
  refine v_lstore_n (pc := 1) (lv' := [(3, .long x1), (0, .ref (ad E 0)), (1, .long x1)]) hC dX11_digestOfCakes_1 rfl (by decide) rfl ?_
  refine v_iconst (pc := 2) (v := 0) hC dX11_digestOfCakes_2 (by decide) ?_
  refine v_istore (pc := 3) (lv' := [(5, .int 0), (3, .long x1), (0, .ref (ad E 0)), (1, .long x1)]) hC dX11_digestOfCakes_3 (by decide) rfl ?_
  exact v_sub [2, 1, 0] rfl (jl_X11_digestOfCakes_5 hC h)
def rm_X11_digestOfTried : Room := { frames := 6, cells := 0, slots := 0, locals := 147 }
def wb_X11_digestOfTried_14 (Q : Int64 → gS → Prop) (K14 : gS → Int64 → Int32 → Prop) (F : gS) (x3 : Int64) (x5 : Int32) : Prop :=
  if (F 0 10) ≤ x5 then
    (Q x3 F)
  else
    (vp_in x5 6 ∧
    wp_X2_next 26 (37 + 2 * x5.toNatClampNeg) F fun F4 =>
    vp_in 0 7 ∧
    wp_X11_mixed x3 ((F4 23 (0 : Int32).toNatClampNeg).toInt64) F4 fun r5 =>
    vp_in 1 7 ∧
    wp_X11_mixed r5 ((F4 23 (1 : Int32).toNatClampNeg).toInt64) F4 fun r6 =>
    Nm (x5 + 1) fun n7 =>
    K14 F4 r6 n7)
def wp_X11_digestOfTried (x1 : Int64) (F : gS) (Q : Int64 → gS → Prop) : Prop :=
  wp_X11_hasPan F fun r1 =>
  if r1 = 0 then
    (Q x1 F)
  else
    (LP3 (wb_X11_digestOfTried_14 Q) F x1 0)
set_option maxRecDepth 20000 in
set_option maxHeartbeats 4000000 in
theorem jb_X11_digestOfTried_14 {p : Program} {l : Launch} {e : Env} {s : State} {m : MethodId} {args : Array Value} {below : List Frame} {meth : Method} {c : Code} {E : gE} (hC : CX p s m args meth c cX11_digestOfTried RX11 (some .long) E 7) {Q : Int64 → gS → Prop} {F : gS} {x3 : Int64} {x5 : Int32} {K14 : gS → Int64 → Int32 → Prop} (hK14 : ∀ (F : gS) (x3 : Int64) (x5 : Int32), K14 F x3 x5 → VV p l e rm_X11_digestOfTried s m args below meth c 0 0 (MQ below (va_Ql Q (gB E) (gA E)) args s 0 0 (gA E)) E 7 F 14 [(0, .ref (ad E 0)), (3, .long x3), (5, .int x5)] []) (h : wb_X11_digestOfTried_14 Q K14 F x3 x5) : VV p l e rm_X11_digestOfTried s m args below meth c 0 0 (MQ below (va_Ql Q (gB E) (gA E)) args s 0 0 (gA E)) E 7 F 14 [(0, .ref (ad E 0)), (3, .long x3), (5, .int x5)] [] := by
  unfold wb_X11_digestOfTried_14 at h
  refine v_iload (pc := 14) hC dX11_digestOfTried_14 2 rfl ?_
  refine v_aload_n (pc := 16) hC dX11_digestOfTried_16 rfl 0 rfl ?_
  refine v_get (pc := 17) (v := .int (F 0 10)) hC fl_X11_119 kq_0 rfl dX11_digestOfTried_17 ?_
  refine v_ic_ge (pc := 20) (tgt := 75) hC dX11_digestOfTried_20 (by decide) h (fun h => ?_) (fun h => ?_)
  · skip
    refine v_lload_n (pc := 75) hC dX11_digestOfTried_75 rfl 1 rfl ?_
    exact v_lret (pc := 76) hC dX11_digestOfTried_76 h
  · skip
    refine v_aload_n (pc := 23) hC dX11_digestOfTried_23 rfl 0 rfl ?_
    refine v_get (pc := 24) (v := .ref (ad E 14)) hC fl_X11_33 kq_0 rfl dX11_digestOfTried_24 ?_
    refine v_aload_n (pc := 27) hC dX11_digestOfTried_27 rfl 0 rfl ?_
    refine v_get (pc := 28) (v := .ref (ad E 26)) hC fl_X11_45 kq_0 rfl dX11_digestOfTried_28 ?_
    refine v_aload_n (pc := 31) hC dX11_digestOfTried_31 rfl 0 rfl ?_
    refine v_get (pc := 32) (v := .ref (ad E 32)) hC fl_X11_54 kq_0 rfl dX11_digestOfTried_32 ?_
    refine v_iload (pc := 35) hC dX11_digestOfTried_35 2 rfl ?_
    have g3 := in_lt h.1
    refine v_aaldP (pc := 37) hC dX11_digestOfTried_37 h (fun h => ?_)
    refine v_cr (pc := 38) (r_V (rest := []) hC ml_X11_192 mv_X2_next (c_X2_next l E kq_26 (kd_pl _ g3) h) ⟨rfl, rfl⟩ ⟨Nat.le_of_ble_eq_true rfl, Nat.le_of_ble_eq_true rfl⟩ kq_14 rfl (by decide) rfl rfl (Nat.le_of_ble_eq_true rfl) ⟨Nat.zero_le _, Nat.zero_le _⟩ dX11_digestOfTried_38) (fun F4 h => ?_)
    refine v_astore (pc := 41) (lv' := [(6, .ref (ad E 21)), (0, .ref (ad E 0)), (3, .long x3), (5, .int x5)]) hC dX11_digestOfTried_41 (by decide) rfl ?_
    refine v_lload_n (pc := 43) hC dX11_digestOfTried_43 rfl 2 rfl ?_
    refine v_aload (pc := 44) hC dX11_digestOfTried_44 0 rfl ?_
    refine v_get (pc := 46) (v := .ref (ad E 23)) hC fl_X11_181 kq_21 rfl dX11_digestOfTried_46 ?_
    refine v_iconst (pc := 49) (v := 0) hC dX11_digestOfTried_49 (by decide) ?_
    refine v_iald (pc := 50) (n := 7) hC kq_23 (by decide) dX11_digestOfTried_50 h (fun h => ?_)
    refine v_i2l (pc := 51) hC dX11_digestOfTried_51 ?_
    refine v_clp (pc := 52) (r_S (rest := []) hC ml_X11_288 ms_X11_mixed (c_X11_mixed l E h) ⟨rfl, rfl⟩ ⟨Nat.le_of_ble_eq_true rfl, Nat.le_of_ble_eq_true rfl⟩ rfl rfl (Nat.le_of_ble_eq_true rfl) ⟨Nat.zero_le _, Nat.zero_le _⟩ dX11_digestOfTried_52) (fun r5 h => ?_)
    refine v_lstore_n (pc := 55) (lv' := [(3, .long r5), (6, .ref (ad E 21)), (0, .ref (ad E 0)), (5, .int x5)]) hC dX11_digestOfTried_55 rfl (by decide) rfl ?_
    refine v_lload_n (pc := 56) hC dX11_digestOfTried_56 rfl 0 rfl ?_
    refine v_aload (pc := 57) hC dX11_digestOfTried_57 1 rfl ?_
    refine v_get (pc := 59) (v := .ref (ad E 23)) hC fl_X11_181 kq_21 rfl dX11_digestOfTried_59 ?_
    refine v_iconst (pc := 62) (v := 1) hC dX11_digestOfTried_62 (by decide) ?_
    refine v_iald (pc := 63) (n := 7) hC kq_23 (by decide) dX11_digestOfTried_63 h (fun h => ?_)
    refine v_i2l (pc := 64) hC dX11_digestOfTried_64 ?_
    refine v_clp (pc := 65) (r_S (rest := []) hC ml_X11_288 ms_X11_mixed (c_X11_mixed l E h) ⟨rfl, rfl⟩ ⟨Nat.le_of_ble_eq_true rfl, Nat.le_of_ble_eq_true rfl⟩ rfl rfl (Nat.le_of_ble_eq_true rfl) ⟨Nat.zero_le _, Nat.zero_le _⟩ dX11_digestOfTried_65) (fun r6 h => ?_)
    refine v_lstore_n (pc := 68) (lv' := [(3, .long r6), (6, .ref (ad E 21)), (0, .ref (ad E 0)), (5, .int x5)]) hC dX11_digestOfTried_68 rfl (by decide) rfl ?_
    refine v_iinc (pc := 69) (v := 1) hC (fun z => [(5, .int z), (3, .long r6), (6, .ref (ad E 21)), (0, .ref (ad E 0))]) dX11_digestOfTried_69 3 rfl (by decide) (by decide) (fun _ => rfl) h (fun n7 h => ?_)
    refine v_goto (pc := 72) (tgt := 14) hC dX11_digestOfTried_72 (by decide) ?_
    exact v_sub [3, 1, 0] rfl (hK14 _ _ _ h)
set_option maxRecDepth 20000 in
set_option maxHeartbeats 4000000 in
theorem jl_X11_digestOfTried_14 {p : Program} {l : Launch} {e : Env} {s : State} {m : MethodId} {args : Array Value} {below : List Frame} {meth : Method} {c : Code} {E : gE} (hC : CX p s m args meth c cX11_digestOfTried RX11 (some .long) E 7) {Q : Int64 → gS → Prop} {F : gS} {x3 : Int64} {x5 : Int32} (h : LP3 (wb_X11_digestOfTried_14 Q) F x3 x5) : VV p l e rm_X11_digestOfTried s m args below meth c 0 0 (MQ below (va_Ql Q (gB E) (gA E)) args s 0 0 (gA E)) E 7 F 14 [(0, .ref (ad E 0)), (3, .long x3), (5, .int x5)] [] :=
  LP3_go (V := fun (F : gS) (x3 : Int64) (x5 : Int32) => VV p l e rm_X11_digestOfTried s m args below meth c 0 0 (MQ below (va_Ql Q (gB E) (gA E)) args s 0 0 (gA E)) E 7 F 14 [(0, .ref (ad E 0)), (3, .long x3), (5, .int x5)] []) (fun K14 hK14 F x3 x5 h => jb_X11_digestOfTried_14 hC hK14 h) F x3 x5 h
set_option maxRecDepth 20000 in
set_option maxHeartbeats 4000000 in
theorem c_X11_digestOfTried (l : Launch) (E : gE) {x1 : Int64} {F : gS} {Q : Int64 → gS → Prop} (h : wp_X11_digestOfTried x1 F Q) : CtL l E yX11_digestOfTried cX11_digestOfTried 7 (some .long) rm_X11_digestOfTried [.ref (ad E 0), .long x1] F Q := by
  refine ct_of (by decide) (Nat.le_of_ble_eq_true rfl) (fun p e s m below meth c hC => ?_)
  generalize ([.ref (ad E 0), .long x1] : List Value).toArray = args at hC ⊢
  refine v_sub (lv' := [(0, .ref (ad E 0)), (1, .long x1)]) [0, 1] rfl ?_
  unfold wp_X11_digestOfTried at h
  refine v_lload_n (pc := 0) hC dX11_digestOfTried_0 rfl 1 rfl ?_
  refine v_lstore_n (pc := 1) (lv' := [(3, .long x1), (0, .ref (ad E 0)), (1, .long x1)]) hC dX11_digestOfTried_1 rfl (by decide) rfl ?_
  refine v_aload_n (pc := 2) hC dX11_digestOfTried_2 rfl 1 rfl ?_
  refine v_cyp (pc := 3) (r_V (rest := []) hC ml_X11_153 mv_X11_hasPan (c_X11_hasPan l E h) ⟨rfl, rfl⟩ ⟨Nat.le_of_ble_eq_true rfl, Nat.le_of_ble_eq_true rfl⟩ kq_0 rfl (by decide) rfl rfl (Nat.le_of_ble_eq_true rfl) ⟨Nat.zero_le _, Nat.zero_le _⟩ dX11_digestOfTried_3) (fun r1 b2 h => ?_)
  refine v_if_ne (pc := 6) (tgt := 11) hC dX11_digestOfTried_6 (by decide) h (fun h => ?_) (fun h => ?_)
  · skip
    refine v_iconst (pc := 11) (v := 0) hC dX11_digestOfTried_11 (by decide) ?_
    refine v_istore (pc := 12) (lv' := [(5, .int 0), (3, .long x1), (0, .ref (ad E 0)), (1, .long x1)]) hC dX11_digestOfTried_12 (by decide) rfl ?_
    exact v_sub [2, 1, 0] rfl (jl_X11_digestOfTried_14 hC h)
  · skip
    refine v_lload_n (pc := 9) hC dX11_digestOfTried_9 rfl 0 rfl ?_
    exact v_lret (pc := 10) hC dX11_digestOfTried_10 h
def rm_X11_digest : Room := { frames := 7, cells := 0, slots := 0, locals := 173 }
def wb_X11_digest_62 (Q : Int64 → gS → Prop) (F : gS) (K62 : Int64 → Int32 → Prop) (x1 : Int64) (x3 : Int32) : Prop :=
  if 8 < x3 then
    (Q x1 F)
  else
    (wp_X11_count x3 F fun r8 =>
    wp_X11_mixed x1 r8.toInt64 F fun r9 =>
    Nm (x3 + 1) fun n10 =>
    K62 r9 n10)
def wb_X11_digest_28 (Q : Int64 → gS → Prop) (F : gS) (K28 : Int64 → Int32 → Prop) (x1 : Int64) (x3 : Int32) : Prop :=
  if (F 1 1) ≤ x3 then
    (LP2 (wb_X11_digest_62 Q F) x1 0)
  else
    (vp_in x3 40 ∧
    wp_X11_mixed x1 ((F 2 x3.toNatClampNeg).toInt64) F fun r6 =>
    Nm (x3 + 1) fun n7 =>
    K28 r6 n7)
def wp_X11_digest (F : gS) (Q : Int64 → gS → Prop) : Prop :=
  wp_X11_digestOfCells (499 : Int64) F fun r1 =>
  wp_X11_digestOfPlans r1 F fun r2 =>
  wp_X11_digestOfCakes r2 F fun r3 =>
  wp_X11_digestOfTried r3 F fun r4 F5 =>
  LP2 (wb_X11_digest_28 Q F5) r4 0
set_option maxRecDepth 20000 in
set_option maxHeartbeats 4000000 in
theorem jb_X11_digest_62 {p : Program} {l : Launch} {e : Env} {s : State} {m : MethodId} {args : Array Value} {below : List Frame} {meth : Method} {c : Code} {E : gE} (hC : CX p s m args meth c cX11_digest RX11 (some .long) E 4) {Q : Int64 → gS → Prop} {F : gS} {x1 : Int64} {x3 : Int32} {K62 : Int64 → Int32 → Prop} (hK62 : ∀ (x1 : Int64) (x3 : Int32), K62 x1 x3 → VV p l e rm_X11_digest s m args below meth c 0 0 (MQ below (va_Ql Q (gB E) (gA E)) args s 0 0 (gA E)) E 4 F 62 [(0, .ref (ad E 0)), (1, .long x1), (3, .int x3)] []) (h : wb_X11_digest_62 Q F K62 x1 x3) : VV p l e rm_X11_digest s m args below meth c 0 0 (MQ below (va_Ql Q (gB E) (gA E)) args s 0 0 (gA E)) E 4 F 62 [(0, .ref (ad E 0)), (1, .long x1), (3, .int x3)] [] := by
  unfold wb_X11_digest_62 at h
  refine v_iload_n (pc := 62) hC dX11_digest_62 rfl 2 rfl ?_
  refine v_bipush (pc := 63) (v := 8) hC dX11_digest_63 (by decide) ?_
  refine v_ic_gt (pc := 65) (tgt := 85) hC dX11_digest_65 (by decide) h (fun h => ?_) (fun h => ?_)
  · skip
    refine v_lload_n (pc := 85) hC dX11_digest_85 rfl 1 rfl ?_
    exact v_lret (pc := 86) hC dX11_digest_86 h
  · skip
    refine v_lload_n (pc := 68) hC dX11_digest_68 rfl 1 rfl ?_
    refine v_aload_n (pc := 69) hC dX11_digest_69 rfl 0 rfl ?_
    refine v_iload_n (pc := 70) hC dX11_digest_70 rfl 2 rfl ?_
    refine v_cip (pc := 71) (r_V (rest := [.long x1]) hC ml_X11_292 mv_X11_count (c_X11_count l E h) ⟨rfl, rfl⟩ ⟨Nat.le_of_ble_eq_true rfl, Nat.le_of_ble_eq_true rfl⟩ kq_0 rfl (by decide) rfl rfl (Nat.le_of_ble_eq_true rfl) ⟨Nat.zero_le _, Nat.zero_le _⟩ dX11_digest_71) (fun r8 h => ?_)
    refine v_i2l (pc := 74) hC dX11_digest_74 ?_
    refine v_clp (pc := 75) (r_S (rest := []) hC ml_X11_288 ms_X11_mixed (c_X11_mixed l E h) ⟨rfl, rfl⟩ ⟨Nat.le_of_ble_eq_true rfl, Nat.le_of_ble_eq_true rfl⟩ rfl rfl (Nat.le_of_ble_eq_true rfl) ⟨Nat.zero_le _, Nat.zero_le _⟩ dX11_digest_75) (fun r9 h => ?_)
    refine v_lstore_n (pc := 78) (lv' := [(1, .long r9), (0, .ref (ad E 0)), (3, .int x3)]) hC dX11_digest_78 rfl (by decide) rfl ?_
    refine v_iinc (pc := 79) (v := 1) hC (fun z => [(3, .int z), (1, .long r9), (0, .ref (ad E 0))]) dX11_digest_79 2 rfl (by decide) (by decide) (fun _ => rfl) h (fun n10 h => ?_)
    refine v_goto (pc := 82) (tgt := 62) hC dX11_digest_82 (by decide) ?_
    exact v_sub [2, 1, 0] rfl (hK62 _ _ h)
set_option maxRecDepth 20000 in
set_option maxHeartbeats 4000000 in
theorem jl_X11_digest_62 {p : Program} {l : Launch} {e : Env} {s : State} {m : MethodId} {args : Array Value} {below : List Frame} {meth : Method} {c : Code} {E : gE} (hC : CX p s m args meth c cX11_digest RX11 (some .long) E 4) {Q : Int64 → gS → Prop} {F : gS} {x1 : Int64} {x3 : Int32} (h : LP2 (wb_X11_digest_62 Q F) x1 x3) : VV p l e rm_X11_digest s m args below meth c 0 0 (MQ below (va_Ql Q (gB E) (gA E)) args s 0 0 (gA E)) E 4 F 62 [(0, .ref (ad E 0)), (1, .long x1), (3, .int x3)] [] :=
  LP2_go (V := fun (x1 : Int64) (x3 : Int32) => VV p l e rm_X11_digest s m args below meth c 0 0 (MQ below (va_Ql Q (gB E) (gA E)) args s 0 0 (gA E)) E 4 F 62 [(0, .ref (ad E 0)), (1, .long x1), (3, .int x3)] []) (fun K62 hK62 x1 x3 h => jb_X11_digest_62 hC hK62 h) x1 x3 h
set_option maxRecDepth 20000 in
set_option maxHeartbeats 4000000 in
theorem jb_X11_digest_28 {p : Program} {l : Launch} {e : Env} {s : State} {m : MethodId} {args : Array Value} {below : List Frame} {meth : Method} {c : Code} {E : gE} (hC : CX p s m args meth c cX11_digest RX11 (some .long) E 4) {Q : Int64 → gS → Prop} {F : gS} {x1 : Int64} {x3 : Int32} {K28 : Int64 → Int32 → Prop} (hK28 : ∀ (x1 : Int64) (x3 : Int32), K28 x1 x3 → VV p l e rm_X11_digest s m args below meth c 0 0 (MQ below (va_Ql Q (gB E) (gA E)) args s 0 0 (gA E)) E 4 F 28 [(0, .ref (ad E 0)), (1, .long x1), (3, .int x3)] []) (h : wb_X11_digest_28 Q F K28 x1 x3) : VV p l e rm_X11_digest s m args below meth c 0 0 (MQ below (va_Ql Q (gB E) (gA E)) args s 0 0 (gA E)) E 4 F 28 [(0, .ref (ad E 0)), (1, .long x1), (3, .int x3)] [] := by
  unfold wb_X11_digest_28 at h
  refine v_iload_n (pc := 28) hC dX11_digest_28 rfl 2 rfl ?_
  refine v_aload_n (pc := 29) hC dX11_digest_29 rfl 0 rfl ?_
  refine v_get (pc := 30) (v := .ref (ad E 1)) hC fl_X11_10 kq_0 rfl dX11_digest_30 ?_
  refine v_get (pc := 33) (v := .int (F 1 1)) hC fl_X11_77 kq_1 rfl dX11_digest_33 ?_
  refine v_ic_ge (pc := 36) (tgt := 60) hC dX11_digest_36 (by decide) h (fun h => ?_) (fun h => ?_)
  · skip
    refine v_iconst (pc := 60) (v := 0) hC dX11_digest_60 (by decide) ?_
    refine v_istore_n (pc := 61) (lv' := [(3, .int 0), (0, .ref (ad E 0)), (1, .long x1)]) hC dX11_digest_61 rfl (by decide) rfl ?_
    exact v_sub [1, 2, 0] rfl (jl_X11_digest_62 hC h)
  · skip
    refine v_lload_n (pc := 39) hC dX11_digest_39 rfl 1 rfl ?_
    refine v_aload_n (pc := 40) hC dX11_digest_40 rfl 0 rfl ?_
    refine v_get (pc := 41) (v := .ref (ad E 1)) hC fl_X11_10 kq_0 rfl dX11_digest_41 ?_
    refine v_get (pc := 44) (v := .ref (ad E 2)) hC fl_X11_285 kq_1 rfl dX11_digest_44 ?_
    refine v_iload_n (pc := 47) hC dX11_digest_47 rfl 2 rfl ?_
    refine v_iald (pc := 48) (n := 40) hC kq_2 (by decide) dX11_digest_48 h (fun h => ?_)
    refine v_i2l (pc := 49) hC dX11_digest_49 ?_
    refine v_clp (pc := 50) (r_S (rest := []) hC ml_X11_288 ms_X11_mixed (c_X11_mixed l E h) ⟨rfl, rfl⟩ ⟨Nat.le_of_ble_eq_true rfl, Nat.le_of_ble_eq_true rfl⟩ rfl rfl (Nat.le_of_ble_eq_true rfl) ⟨Nat.zero_le _, Nat.zero_le _⟩ dX11_digest_50) (fun r6 h => ?_)
    refine v_lstore_n (pc := 53) (lv' := [(1, .long r6), (0, .ref (ad E 0)), (3, .int x3)]) hC dX11_digest_53 rfl (by decide) rfl ?_
    refine v_iinc (pc := 54) (v := 1) hC (fun z => [(3, .int z), (1, .long r6), (0, .ref (ad E 0))]) dX11_digest_54 2 rfl (by decide) (by decide) (fun _ => rfl) h (fun n7 h => ?_)
    refine v_goto (pc := 57) (tgt := 28) hC dX11_digest_57 (by decide) ?_
    exact v_sub [2, 1, 0] rfl (hK28 _ _ h)
set_option maxRecDepth 20000 in
set_option maxHeartbeats 4000000 in
theorem jl_X11_digest_28 {p : Program} {l : Launch} {e : Env} {s : State} {m : MethodId} {args : Array Value} {below : List Frame} {meth : Method} {c : Code} {E : gE} (hC : CX p s m args meth c cX11_digest RX11 (some .long) E 4) {Q : Int64 → gS → Prop} {F : gS} {x1 : Int64} {x3 : Int32} (h : LP2 (wb_X11_digest_28 Q F) x1 x3) : VV p l e rm_X11_digest s m args below meth c 0 0 (MQ below (va_Ql Q (gB E) (gA E)) args s 0 0 (gA E)) E 4 F 28 [(0, .ref (ad E 0)), (1, .long x1), (3, .int x3)] [] :=
  LP2_go (V := fun (x1 : Int64) (x3 : Int32) => VV p l e rm_X11_digest s m args below meth c 0 0 (MQ below (va_Ql Q (gB E) (gA E)) args s 0 0 (gA E)) E 4 F 28 [(0, .ref (ad E 0)), (1, .long x1), (3, .int x3)] []) (fun K28 hK28 x1 x3 h => jb_X11_digest_28 hC hK28 h) x1 x3 h
set_option maxRecDepth 20000 in
set_option maxHeartbeats 4000000 in
theorem c_X11_digest (l : Launch) (E : gE) {F : gS} {Q : Int64 → gS → Prop} (h : wp_X11_digest F Q) : CtL l E yX11_digest cX11_digest 4 (some .long) rm_X11_digest [.ref (ad E 0)] F Q := by
  refine ct_of (by decide) (Nat.le_of_ble_eq_true rfl) (fun p e s m below meth c hC => ?_)
  generalize ([.ref (ad E 0)] : List Value).toArray = args at hC ⊢
  refine v_sub (lv' := [(0, .ref (ad E 0))]) [0] rfl ?_
  unfold wp_X11_digest at h
  refine v_aload_n (pc := 0) hC dX11_digest_0 rfl 0 rfl ?_
  refine v_ldc2 (pc := 1) hC kc_X11_270 dX11_digest_1 ?_
  refine v_clp (pc := 4) (r_V (rest := []) hC ml_X11_272 mv_X11_digestOfCells (c_X11_digestOfCells l E h) ⟨rfl, rfl⟩ ⟨Nat.le_of_ble_eq_true rfl, Nat.le_of_ble_eq_true rfl⟩ kq_0 rfl (by decide) rfl rfl (Nat.le_of_ble_eq_true rfl) ⟨Nat.zero_le _, Nat.zero_le _⟩ dX11_digest_4) (fun r1 h => ?_)
  refine v_lstore_n (pc := 7) (lv' := [(1, .long r1), (0, .ref (ad E 0))]) hC dX11_digest_7 rfl (by decide) rfl ?_
  refine v_aload_n (pc := 8) hC dX11_digest_8 rfl 1 rfl ?_
  refine v_lload_n (pc := 9) hC dX11_digest_9 rfl 0 rfl ?_
  refine v_clp (pc := 10) (r_V (rest := []) hC ml_X11_276 mv_X11_digestOfPlans (c_X11_digestOfPlans l E h) ⟨rfl, rfl⟩ ⟨Nat.le_of_ble_eq_true rfl, Nat.le_of_ble_eq_true rfl⟩ kq_0 rfl (by decide) rfl rfl (Nat.le_of_ble_eq_true rfl) ⟨Nat.zero_le _, Nat.zero_le _⟩ dX11_digest_10) (fun r2 h => ?_)
  refine v_lstore_n (pc := 13) (lv' := [(1, .long r2), (0, .ref (ad E 0))]) hC dX11_digest_13 rfl (by decide) rfl ?_
  refine v_aload_n (pc := 14) hC dX11_digest_14 rfl 1 rfl ?_
  refine v_lload_n (pc := 15) hC dX11_digest_15 rfl 0 rfl ?_
  refine v_clp (pc := 16) (r_V (rest := []) hC ml_X11_279 mv_X11_digestOfCakes (c_X11_digestOfCakes l E h) ⟨rfl, rfl⟩ ⟨Nat.le_of_ble_eq_true rfl, Nat.le_of_ble_eq_true rfl⟩ kq_0 rfl (by decide) rfl rfl (Nat.le_of_ble_eq_true rfl) ⟨Nat.zero_le _, Nat.zero_le _⟩ dX11_digest_16) (fun r3 h => ?_)
  refine v_lstore_n (pc := 19) (lv' := [(1, .long r3), (0, .ref (ad E 0))]) hC dX11_digest_19 rfl (by decide) rfl ?_
  refine v_aload_n (pc := 20) hC dX11_digest_20 rfl 1 rfl ?_
  refine v_lload_n (pc := 21) hC dX11_digest_21 rfl 0 rfl ?_
  refine v_cl (pc := 22) (r_V (rest := []) hC ml_X11_282 mv_X11_digestOfTried (c_X11_digestOfTried l E h) ⟨rfl, rfl⟩ ⟨Nat.le_of_ble_eq_true rfl, Nat.le_of_ble_eq_true rfl⟩ kq_0 rfl (by decide) rfl rfl (Nat.le_of_ble_eq_true rfl) ⟨Nat.zero_le _, Nat.zero_le _⟩ dX11_digest_22) (fun r4 F5 h => ?_)
  refine v_lstore_n (pc := 25) (lv' := [(1, .long r4), (0, .ref (ad E 0))]) hC dX11_digest_25 rfl (by decide) rfl ?_
  refine v_iconst (pc := 26) (v := 0) hC dX11_digest_26 (by decide) ?_
  refine v_istore_n (pc := 27) (lv' := [(3, .int 0), (1, .long r4), (0, .ref (ad E 0))]) hC dX11_digest_27 rfl (by decide) rfl ?_
  exact v_sub [2, 1, 0] rfl (jl_X11_digest_28 hC h)
