theorem zq_some {C n d : String} {A : Nat → Prop} {U : State} {H : Heap} (h : va_Zq C n d A U H) : ∃ fv : Value, va_Z C n d fv A U H ∧ fv.category = 1 := by
  rcases h with h | ⟨t, h⟩
  · exact ⟨.null, h, rfl⟩
  · exact ⟨.ref t, h, rfl⟩
def rm_J0_isLatin1_aae02_0 : Room := { frames := 0, cells := 0, slots := 0, locals := 0 }
def wp_J0_isLatin1_aae02_0 (F : gS) (Q : Int32 → Prop) : Prop :=
  if (1 : Int32) = 0 then
    (Q 0)
  else
    (if (0 : Int32) = 0 then
      (Q 1)
    else
      (Q 0))
set_option maxRecDepth 20000 in
set_option maxHeartbeats 4000000 in
theorem c_J0_isLatin1_aae02_0 (l : Launch) (E : gE) {F : gS} {Q : Int32 → Prop} (h : wp_J0_isLatin1_aae02_0 F Q) : CtI l E yJ0_isLatin1_aae02 cJ0_isLatin1_aae02 1 (some .boolean) rm_J0_isLatin1_aae02_0 [.ref (E.2.2.2 4)] F (fun r G => (r = 0 ∨ r = 1) ∧ G = F ∧ Q r) := by
  refine ct_of (by decide) (Nat.le_of_ble_eq_true rfl) (fun p e s m below meth c hC => ?_)
  generalize ([.ref (E.2.2.2 4)] : List Value).toArray = args at hC ⊢
  refine v_sub (lv' := [(0, .ref (E.2.2.2 4))]) [0] rfl ?_
  unfold wp_J0_isLatin1_aae02_0 at h
  refine v_gets (pc := 0) (v := .int 1) hC hC.2.2.2.2.2.1.2.2.2.1.2.2.2.2.2.2.1 sl_J0_38 dJ0_isLatin1_aae02_0 ?_
  refine v_if_eq (pc := 3) (tgt := 17) hC dJ0_isLatin1_aae02_3 (by decide) h (fun h => ?_) (fun h => ?_)
  · skip
    refine v_iconst (pc := 17) (v := 0) hC dJ0_isLatin1_aae02_17 (by decide) ?_
    exact v_zret (pc := 18) hC dJ0_isLatin1_aae02_18 (Or.inl rfl) ⟨Or.inl rfl, rfl, h⟩
  · skip
    refine v_aload_n (pc := 6) hC dJ0_isLatin1_aae02_6 rfl 0 rfl ?_
    refine v_sgetf (pc := 7) (v := .int 0) hC (hC.2.2.2.2.2.1.2.2.2.1.2.2.2.2.2.2.2.2.1 0 (by decide)).2.1 sl_J0_15 dJ0_isLatin1_aae02_7 ?_
    refine v_if_ne (pc := 10) (tgt := 17) hC dJ0_isLatin1_aae02_10 (by decide) h (fun h => ?_) (fun h => ?_)
    · skip
      refine v_iconst (pc := 17) (v := 0) hC dJ0_isLatin1_aae02_17 (by decide) ?_
      exact v_zret (pc := 18) hC dJ0_isLatin1_aae02_18 (Or.inl rfl) ⟨Or.inl rfl, rfl, h⟩
    · skip
      refine v_iconst (pc := 13) (v := 1) hC dJ0_isLatin1_aae02_13 (by decide) ?_
      refine v_goto (pc := 14) (tgt := 18) hC dJ0_isLatin1_aae02_14 (by decide) ?_
      exact v_zret (pc := 18) hC dJ0_isLatin1_aae02_18 (Or.inr rfl) ⟨Or.inr rfl, rfl, h⟩
def rm_J0_isLatin1_aae02_1 : Room := { frames := 0, cells := 0, slots := 0, locals := 0 }
def wp_J0_isLatin1_aae02_1 (F : gS) (Q : Int32 → Prop) : Prop :=
  if (1 : Int32) = 0 then
    (Q 0)
  else
    (if (0 : Int32) = 0 then
      (Q 1)
    else
      (Q 0))
set_option maxRecDepth 20000 in
set_option maxHeartbeats 4000000 in
theorem c_J0_isLatin1_aae02_1 (l : Launch) (E : gE) {F : gS} {Q : Int32 → Prop} (h : wp_J0_isLatin1_aae02_1 F Q) : CtI l E yJ0_isLatin1_aae02 cJ0_isLatin1_aae02 1 (some .boolean) rm_J0_isLatin1_aae02_1 [.ref (E.2.2.2 5)] F (fun r G => (r = 0 ∨ r = 1) ∧ G = F ∧ Q r) := by
  refine ct_of (by decide) (Nat.le_of_ble_eq_true rfl) (fun p e s m below meth c hC => ?_)
  generalize ([.ref (E.2.2.2 5)] : List Value).toArray = args at hC ⊢
  refine v_sub (lv' := [(0, .ref (E.2.2.2 5))]) [0] rfl ?_
  unfold wp_J0_isLatin1_aae02_1 at h
  refine v_gets (pc := 0) (v := .int 1) hC hC.2.2.2.2.2.1.2.2.2.1.2.2.2.2.2.2.1 sl_J0_38 dJ0_isLatin1_aae02_0 ?_
  refine v_if_eq (pc := 3) (tgt := 17) hC dJ0_isLatin1_aae02_3 (by decide) h (fun h => ?_) (fun h => ?_)
  · skip
    refine v_iconst (pc := 17) (v := 0) hC dJ0_isLatin1_aae02_17 (by decide) ?_
    exact v_zret (pc := 18) hC dJ0_isLatin1_aae02_18 (Or.inl rfl) ⟨Or.inl rfl, rfl, h⟩
  · skip
    refine v_aload_n (pc := 6) hC dJ0_isLatin1_aae02_6 rfl 0 rfl ?_
    refine v_sgetf (pc := 7) (v := .int 0) hC (hC.2.2.2.2.2.1.2.2.2.1.2.2.2.2.2.2.2.2.1 1 (by decide)).2.1 sl_J0_15 dJ0_isLatin1_aae02_7 ?_
    refine v_if_ne (pc := 10) (tgt := 17) hC dJ0_isLatin1_aae02_10 (by decide) h (fun h => ?_) (fun h => ?_)
    · skip
      refine v_iconst (pc := 17) (v := 0) hC dJ0_isLatin1_aae02_17 (by decide) ?_
      exact v_zret (pc := 18) hC dJ0_isLatin1_aae02_18 (Or.inl rfl) ⟨Or.inl rfl, rfl, h⟩
    · skip
      refine v_iconst (pc := 13) (v := 1) hC dJ0_isLatin1_aae02_13 (by decide) ?_
      refine v_goto (pc := 14) (tgt := 18) hC dJ0_isLatin1_aae02_14 (by decide) ?_
      exact v_zret (pc := 18) hC dJ0_isLatin1_aae02_18 (Or.inr rfl) ⟨Or.inr rfl, rfl, h⟩
def rm_J0_coder_7d493_0 : Room := { frames := 0, cells := 0, slots := 0, locals := 0 }
def wp_J0_coder_7d493_0 (F : gS) (Q : Int32 → Prop) : Prop :=
  if (1 : Int32) = 0 then
    (Q 1)
  else
    (Q 0)
set_option maxRecDepth 20000 in
set_option maxHeartbeats 4000000 in
theorem c_J0_coder_7d493_0 (l : Launch) (E : gE) {F : gS} {Q : Int32 → Prop} (h : wp_J0_coder_7d493_0 F Q) : CtI l E yJ0_coder_7d493 cJ0_coder_7d493 1 (some .byte) rm_J0_coder_7d493_0 [.ref (E.2.2.2 4)] F (fun r G => narrow .byte (.int r) = .int r ∧ G = F ∧ Q r) := by
  refine ct_of (by decide) (Nat.le_of_ble_eq_true rfl) (fun p e s m below meth c hC => ?_)
  generalize ([.ref (E.2.2.2 4)] : List Value).toArray = args at hC ⊢
  refine v_sub (lv' := [(0, .ref (E.2.2.2 4))]) [0] rfl ?_
  unfold wp_J0_coder_7d493_0 at h
  refine v_gets (pc := 0) (v := .int 1) hC hC.2.2.2.2.2.1.2.2.2.1.2.2.2.2.2.2.1 sl_J0_38 dJ0_coder_7d493_0 ?_
  refine v_if_eq (pc := 3) (tgt := 13) hC dJ0_coder_7d493_3 (by decide) h (fun h => ?_) (fun h => ?_)
  · skip
    refine v_iconst (pc := 13) (v := 1) hC dJ0_coder_7d493_13 (by decide) ?_
    exact v_nret (pc := 14) hC dJ0_coder_7d493_14 rfl ⟨rfl, rfl, h⟩
  · skip
    refine v_aload_n (pc := 6) hC dJ0_coder_7d493_6 rfl 0 rfl ?_
    refine v_sgetf (pc := 7) (v := .int 0) hC (hC.2.2.2.2.2.1.2.2.2.1.2.2.2.2.2.2.2.2.1 0 (by decide)).2.1 sl_J0_15 dJ0_coder_7d493_7 ?_
    refine v_goto (pc := 10) (tgt := 14) hC dJ0_coder_7d493_10 (by decide) ?_
    exact v_nret (pc := 14) hC dJ0_coder_7d493_14 rfl ⟨rfl, rfl, h⟩
def rm_J0_length_8abf5_0 : Room := { frames := 1, cells := 0, slots := 0, locals := 20 }
def wp_J0_length_8abf5_0 (F : gS) (Q : Int32 → Prop) : Prop :=
  wp_J0_coder_7d493_0 F fun r1 =>
  Q (4 >>> (r1 &&& 31))
set_option maxRecDepth 20000 in
set_option maxHeartbeats 4000000 in
theorem c_J0_length_8abf5_0 (l : Launch) (E : gE) {F : gS} {Q : Int32 → Prop} (h : wp_J0_length_8abf5_0 F Q) : CtI l E yJ0_length_8abf5 cJ0_length_8abf5 1 (some .int) rm_J0_length_8abf5_0 [.ref (E.2.2.2 4)] F (fun r G => G = F ∧ Q r) := by
  refine ct_of (by decide) (Nat.le_of_ble_eq_true rfl) (fun p e s m below meth c hC => ?_)
  generalize ([.ref (E.2.2.2 4)] : List Value).toArray = args at hC ⊢
  refine v_sub (lv' := [(0, .ref (E.2.2.2 4))]) [0] rfl ?_
  unfold wp_J0_length_8abf5_0 at h
  refine v_aload_n (pc := 0) hC dJ0_length_8abf5_0 rfl 0 rfl ?_
  refine v_sgetf (pc := 1) (v := .ref (E.2.2.2 6)) hC (hC.2.2.2.2.2.1.2.2.2.1.2.2.2.2.2.2.2.2.1 0 (by decide)).2.2.1 sl_J0_9 dJ0_length_8abf5_1 ?_
  refine v_tlen (pc := 4) (N := 4) (v := 4) hC (hC.2.2.2.2.2.1.2.2.2.1.2.2.2.2.2.2.2.2.1 0 (by decide)).2.2.2 rfl dJ0_length_8abf5_4 ?_
  refine v_aload_n (pc := 5) hC dJ0_length_8abf5_5 rfl 0 rfl ?_
  refine v_cyp (pc := 6) (r_T (rest := [.int 4]) hC ml_J0_335 mv_J0_coder_7d493 0 (c_J0_coder_7d493_0 l E h) ⟨rfl, rfl⟩ ⟨Nat.le_of_ble_eq_true rfl, Nat.le_of_ble_eq_true rfl⟩ (by decide) rfl rfl rfl (Nat.le_of_ble_eq_true rfl) ⟨Nat.zero_le _, Nat.zero_le _⟩ dJ0_length_8abf5_6) (fun r1 b2 h => ?_)
  refine v_ishr (pc := 9) hC dJ0_length_8abf5_9 ?_
  exact v_iret (pc := 10) hC dJ0_length_8abf5_10 ⟨rfl, h⟩
def rm_J1_canEncode_9a6ad : Room := { frames := 0, cells := 0, slots := 0, locals := 0 }
def wp_J1_canEncode_9a6ad (x0 : Int32) (F : gS) (Q : Int32 → Prop) : Prop :=
  if x0 < 0 then
    (Q 0)
  else
    (if 255 < x0 then
      (Q 0)
    else
      (Q 1))
set_option maxRecDepth 20000 in
set_option maxHeartbeats 4000000 in
theorem c_J1_canEncode_9a6ad (l : Launch) (E : gE) {x0 : Int32} {F : gS} {Q : Int32 → Prop} (h : wp_J1_canEncode_9a6ad x0 F Q) : CtI l E yJ1_canEncode_9a6ad cJ1_canEncode_9a6ad 1 (some .boolean) rm_J1_canEncode_9a6ad [.int x0] F (fun r G => (r = 0 ∨ r = 1) ∧ G = F ∧ Q r) := by
  refine ct_of (by decide) (Nat.le_of_ble_eq_true rfl) (fun p e s m below meth c hC => ?_)
  generalize ([.int x0] : List Value).toArray = args at hC ⊢
  refine v_sub (lv' := [(0, .int x0)]) [0] rfl ?_
  unfold wp_J1_canEncode_9a6ad at h
  refine v_iload_n (pc := 0) hC dJ1_canEncode_9a6ad_0 rfl 0 rfl ?_
  refine v_if_lt (pc := 1) (tgt := 15) hC dJ1_canEncode_9a6ad_1 (by decide) h (fun h => ?_) (fun h => ?_)
  · skip
    refine v_iconst (pc := 15) (v := 0) hC dJ1_canEncode_9a6ad_15 (by decide) ?_
    exact v_zret (pc := 16) hC dJ1_canEncode_9a6ad_16 (Or.inl rfl) ⟨Or.inl rfl, rfl, h⟩
  · skip
    refine v_iload_n (pc := 4) hC dJ1_canEncode_9a6ad_4 rfl 0 rfl ?_
    refine v_sipush (pc := 5) (v := 255) hC dJ1_canEncode_9a6ad_5 (by decide) ?_
    refine v_ic_gt (pc := 8) (tgt := 15) hC dJ1_canEncode_9a6ad_8 (by decide) h (fun h => ?_) (fun h => ?_)
    · skip
      refine v_iconst (pc := 15) (v := 0) hC dJ1_canEncode_9a6ad_15 (by decide) ?_
      exact v_zret (pc := 16) hC dJ1_canEncode_9a6ad_16 (Or.inl rfl) ⟨Or.inl rfl, rfl, h⟩
    · skip
      refine v_iconst (pc := 11) (v := 1) hC dJ1_canEncode_9a6ad_11 (by decide) ?_
      refine v_goto (pc := 12) (tgt := 16) hC dJ1_canEncode_9a6ad_12 (by decide) ?_
      exact v_zret (pc := 16) hC dJ1_canEncode_9a6ad_16 (Or.inr rfl) ⟨Or.inr rfl, rfl, h⟩
def rm_J1_indexOfChar_4cfef_0 : Room := { frames := 0, cells := 0, slots := 0, locals := 0 }
def wb_J1_indexOfChar_4cfef_0_7 (Q : Int32 → Prop) (F : gS) (x3 : Int32) (x4 : Int32) (K7 : Int32 → Prop) (x5 : Int32) : Prop :=
  if x3 ≤ x5 then
    (Q (-1))
  else
    (vp_in x5 4 ∧
    if ((gText.getD 0 []).getD x5.toNatClampNeg 0) = x4 then
      (Q x5)
    else
      (Nm (x5 + 1) fun n1 =>
      K7 n1))
def wp_J1_indexOfChar_4cfef_0 (x1 : Int32) (x2 : Int32) (x3 : Int32) (F : gS) (Q : Int32 → Prop) : Prop :=
  LP1 (wb_J1_indexOfChar_4cfef_0_7 Q F x3 x1.toInt8.toInt32) x2
set_option maxRecDepth 20000 in
set_option maxHeartbeats 4000000 in
theorem jb_J1_indexOfChar_4cfef_0_7 {p : Program} {l : Launch} {e : Env} {s : State} {m : MethodId} {args : Array Value} {below : List Frame} {meth : Method} {c : Code} {E : gE} (hC : CX p s m args meth c cJ1_indexOfChar_4cfef RJ1 (some .int) E 6) {Q : Int32 → Prop} {F : gS} {x3 : Int32} {x4 : Int32} {x5 : Int32} {K7 : Int32 → Prop} (hK7 : ∀ (x5 : Int32), K7 x5 → VV p l e rm_J1_indexOfChar_4cfef_0 s m args below meth c 0 0 (MQ below (va_Qi (fun r G => G = F ∧ Q r) (gB E) (gA E)) args s 0 0 (gA E)) E 6 F 7 [(0, .ref (E.2.2.2 6)), (3, .int x3), (4, .int x4), (5, .int x5)] []) (h : wb_J1_indexOfChar_4cfef_0_7 Q F x3 x4 K7 x5) : VV p l e rm_J1_indexOfChar_4cfef_0 s m args below meth c 0 0 (MQ below (va_Qi (fun r G => G = F ∧ Q r) (gB E) (gA E)) args s 0 0 (gA E)) E 6 F 7 [(0, .ref (E.2.2.2 6)), (3, .int x3), (4, .int x4), (5, .int x5)] [] := by
  unfold wb_J1_indexOfChar_4cfef_0_7 at h
  refine v_iload (pc := 7) hC dJ1_indexOfChar_4cfef_7 3 rfl ?_
  refine v_iload_n (pc := 9) hC dJ1_indexOfChar_4cfef_9 rfl 1 rfl ?_
  refine v_ic_ge (pc := 10) (tgt := 31) hC dJ1_indexOfChar_4cfef_10 (by decide) h (fun h => ?_) (fun h => ?_)
  · skip
    refine v_iconst (pc := 31) (v := (-1)) hC dJ1_indexOfChar_4cfef_31 (by decide) ?_
    exact v_iret (pc := 32) hC dJ1_indexOfChar_4cfef_32 ⟨rfl, h⟩
  · skip
    refine v_aload_n (pc := 13) hC dJ1_indexOfChar_4cfef_13 rfl 0 rfl ?_
    refine v_iload (pc := 14) hC dJ1_indexOfChar_4cfef_14 3 rfl ?_
    refine v_tbald (pc := 16) (N := 4) (f := fun j => (gText.getD 0 []).getD j 0) hC (hC.2.2.2.2.2.1.2.2.2.1.2.2.2.2.2.2.2.2.1 0 (by decide)).2.2.2 dJ1_indexOfChar_4cfef_16 h (fun h => ?_)
    refine v_iload (pc := 17) hC dJ1_indexOfChar_4cfef_17 2 rfl ?_
    refine v_ic_ne (pc := 19) (tgt := 25) hC dJ1_indexOfChar_4cfef_19 (by decide) h (fun h => ?_) (fun h => ?_)
    · skip
      refine v_iinc (pc := 25) (v := 1) hC (fun z => [(5, .int z), (0, .ref (E.2.2.2 6)), (3, .int x3), (4, .int x4)]) dJ1_indexOfChar_4cfef_25 3 rfl (by decide) (by decide) (fun _ => rfl) h (fun n1 h => ?_)
      refine v_goto (pc := 28) (tgt := 7) hC dJ1_indexOfChar_4cfef_28 (by decide) ?_
      exact v_sub [1, 2, 3, 0] rfl (hK7 _ h)
    · skip
      refine v_iload (pc := 22) hC dJ1_indexOfChar_4cfef_22 3 rfl ?_
      exact v_iret (pc := 24) hC dJ1_indexOfChar_4cfef_24 ⟨rfl, h⟩
set_option maxRecDepth 20000 in
set_option maxHeartbeats 4000000 in
theorem jl_J1_indexOfChar_4cfef_0_7 {p : Program} {l : Launch} {e : Env} {s : State} {m : MethodId} {args : Array Value} {below : List Frame} {meth : Method} {c : Code} {E : gE} (hC : CX p s m args meth c cJ1_indexOfChar_4cfef RJ1 (some .int) E 6) {Q : Int32 → Prop} {F : gS} {x3 : Int32} {x4 : Int32} {x5 : Int32} (h : LP1 (wb_J1_indexOfChar_4cfef_0_7 Q F x3 x4) x5) : VV p l e rm_J1_indexOfChar_4cfef_0 s m args below meth c 0 0 (MQ below (va_Qi (fun r G => G = F ∧ Q r) (gB E) (gA E)) args s 0 0 (gA E)) E 6 F 7 [(0, .ref (E.2.2.2 6)), (3, .int x3), (4, .int x4), (5, .int x5)] [] :=
  LP1_go (V := fun (x5 : Int32) => VV p l e rm_J1_indexOfChar_4cfef_0 s m args below meth c 0 0 (MQ below (va_Qi (fun r G => G = F ∧ Q r) (gB E) (gA E)) args s 0 0 (gA E)) E 6 F 7 [(0, .ref (E.2.2.2 6)), (3, .int x3), (4, .int x4), (5, .int x5)] []) (fun K7 hK7 x5 h => jb_J1_indexOfChar_4cfef_0_7 hC hK7 h) x5 h
set_option maxRecDepth 20000 in
set_option maxHeartbeats 4000000 in
theorem c_J1_indexOfChar_4cfef_0 (l : Launch) (E : gE) {x1 : Int32} {x2 : Int32} {x3 : Int32} {F : gS} {Q : Int32 → Prop} (h : wp_J1_indexOfChar_4cfef_0 x1 x2 x3 F Q) : CtI l E yJ1_indexOfChar_4cfef cJ1_indexOfChar_4cfef 6 (some .int) rm_J1_indexOfChar_4cfef_0 [.ref (E.2.2.2 6), .int x1, .int x2, .int x3] F (fun r G => G = F ∧ Q r) := by
  refine ct_of (by decide) (Nat.le_of_ble_eq_true rfl) (fun p e s m below meth c hC => ?_)
  generalize ([.ref (E.2.2.2 6), .int x1, .int x2, .int x3] : List Value).toArray = args at hC ⊢
  refine v_sub (lv' := [(0, .ref (E.2.2.2 6)), (1, .int x1), (2, .int x2), (3, .int x3)]) [0, 1, 2, 3] rfl ?_
  unfold wp_J1_indexOfChar_4cfef_0 at h
  refine v_iload_n (pc := 0) hC dJ1_indexOfChar_4cfef_0 rfl 1 rfl ?_
  refine v_i2b (pc := 1) hC dJ1_indexOfChar_4cfef_1 ?_
  refine v_istore (pc := 2) (lv' := [(4, .int x1.toInt8.toInt32), (0, .ref (E.2.2.2 6)), (1, .int x1), (2, .int x2), (3, .int x3)]) hC dJ1_indexOfChar_4cfef_2 (by decide) rfl ?_
  refine v_iload_n (pc := 4) hC dJ1_indexOfChar_4cfef_4 rfl 3 rfl ?_
  refine v_istore (pc := 5) (lv' := [(5, .int x2), (4, .int x1.toInt8.toInt32), (0, .ref (E.2.2.2 6)), (1, .int x1), (2, .int x2), (3, .int x3)]) hC dJ1_indexOfChar_4cfef_5 (by decide) rfl ?_
  exact v_sub [2, 5, 1, 0] rfl (jl_J1_indexOfChar_4cfef_0_7 hC h)
def rm_J1_indexOf_4cfef_0 : Room := { frames := 1, cells := 0, slots := 0, locals := 25 }
def wp_J1_indexOf_4cfef_0 (x1 : Int32) (x2 : Int32) (x3 : Int32) (F : gS) (Q : Int32 → Prop) : Prop :=
  wp_J1_canEncode_9a6ad x1 F fun r1 =>
  if r1 = 0 then
    (Q (-1))
  else
    (Nm (if x2 < 0 then 0 else x2) fun n3 =>
    Nm (if 4 < x3 then 4 else x3) fun n4 =>
    if n3 < n4 then
      (wp_J1_indexOfChar_4cfef_0 x1 n3 n4 F fun r5 =>
      Q r5)
    else
      (Q (-1)))
set_option maxRecDepth 20000 in
set_option maxHeartbeats 4000000 in
theorem c_J1_indexOf_4cfef_0 (l : Launch) (E : gE) {x1 : Int32} {x2 : Int32} {x3 : Int32} {F : gS} {Q : Int32 → Prop} (h : wp_J1_indexOf_4cfef_0 x1 x2 x3 F Q) : CtI l E yJ1_indexOf_4cfef cJ1_indexOf_4cfef 4 (some .int) rm_J1_indexOf_4cfef_0 [.ref (E.2.2.2 6), .int x1, .int x2, .int x3] F (fun r G => G = F ∧ Q r) := by
  refine ct_of (by decide) (Nat.le_of_ble_eq_true rfl) (fun p e s m below meth c hC => ?_)
  generalize ([.ref (E.2.2.2 6), .int x1, .int x2, .int x3] : List Value).toArray = args at hC ⊢
  refine v_sub (lv' := [(0, .ref (E.2.2.2 6)), (1, .int x1), (2, .int x2), (3, .int x3)]) [0, 1, 2, 3] rfl ?_
  unfold wp_J1_indexOf_4cfef_0 at h
  refine v_iload_n (pc := 0) hC dJ1_indexOf_4cfef_0 rfl 1 rfl ?_
  refine v_cyp (pc := 1) (r_S (rest := []) hC ml_J1_88 ms_J1_canEncode_9a6ad (c_J1_canEncode_9a6ad l E h) ⟨rfl, rfl⟩ ⟨Nat.le_of_ble_eq_true rfl, Nat.le_of_ble_eq_true rfl⟩ rfl rfl (Nat.le_of_ble_eq_true rfl) ⟨Nat.zero_le _, Nat.zero_le _⟩ dJ1_indexOf_4cfef_1) (fun r1 b2 h => ?_)
  refine v_if_ne (pc := 4) (tgt := 9) hC dJ1_indexOf_4cfef_4 (by decide) h (fun h => ?_) (fun h => ?_)
  · skip
    refine v_iload_n (pc := 9) hC dJ1_indexOf_4cfef_9 rfl 2 rfl ?_
    refine v_iconst (pc := 10) (v := 0) hC dJ1_indexOf_4cfef_10 (by decide) ?_
    refine v_max (pc := 11) hC mmax_J1_92 mmax_s in_Math mmax_c ⟨Nat.le_of_ble_eq_true rfl, Nat.le_of_ble_eq_true rfl⟩ ⟨Nat.zero_le _, Nat.zero_le _⟩ dJ1_indexOf_4cfef_11 ?_
    refine v_nmi h (fun n3 h => ?_)
    refine v_istore_n (pc := 14) (lv' := [(2, .int n3), (0, .ref (E.2.2.2 6)), (1, .int x1), (3, .int x3)]) hC dJ1_indexOf_4cfef_14 rfl (by decide) rfl ?_
    refine v_iload_n (pc := 15) hC dJ1_indexOf_4cfef_15 rfl 3 rfl ?_
    refine v_aload_n (pc := 16) hC dJ1_indexOf_4cfef_16 rfl 1 rfl ?_
    refine v_tlen (pc := 17) (N := 4) (v := 4) hC (hC.2.2.2.2.2.1.2.2.2.1.2.2.2.2.2.2.2.2.1 0 (by decide)).2.2.2 rfl dJ1_indexOf_4cfef_17 ?_
    refine v_min (pc := 18) hC mmin_J1_38 mmin_s in_Math mmin_c ⟨Nat.le_of_ble_eq_true rfl, Nat.le_of_ble_eq_true rfl⟩ ⟨Nat.zero_le _, Nat.zero_le _⟩ dJ1_indexOf_4cfef_18 ?_
    refine v_nmi h (fun n4 h => ?_)
    refine v_istore_n (pc := 21) (lv' := [(3, .int n4), (2, .int n3), (0, .ref (E.2.2.2 6)), (1, .int x1)]) hC dJ1_indexOf_4cfef_21 rfl (by decide) rfl ?_
    refine v_iload_n (pc := 22) hC dJ1_indexOf_4cfef_22 rfl 1 rfl ?_
    refine v_iload_n (pc := 23) hC dJ1_indexOf_4cfef_23 rfl 0 rfl ?_
    refine v_ic_lt (pc := 24) (tgt := 29) hC dJ1_indexOf_4cfef_24 (by decide) h (fun h => ?_) (fun h => ?_)
    · skip
      refine v_aload_n (pc := 29) hC dJ1_indexOf_4cfef_29 rfl 2 rfl ?_
      refine v_iload_n (pc := 30) hC dJ1_indexOf_4cfef_30 rfl 3 rfl ?_
      refine v_iload_n (pc := 31) hC dJ1_indexOf_4cfef_31 rfl 1 rfl ?_
      refine v_iload_n (pc := 32) hC dJ1_indexOf_4cfef_32 rfl 0 rfl ?_
      refine v_cip (pc := 33) (r_S (rest := []) hC ml_J1_95 ms_J1_indexOfChar_4cfef (c_J1_indexOfChar_4cfef_0 l E h) ⟨rfl, rfl⟩ ⟨Nat.le_of_ble_eq_true rfl, Nat.le_of_ble_eq_true rfl⟩ rfl rfl (Nat.le_of_ble_eq_true rfl) ⟨Nat.zero_le _, Nat.zero_le _⟩ dJ1_indexOf_4cfef_33) (fun r5 h => ?_)
      exact v_iret (pc := 36) hC dJ1_indexOf_4cfef_36 ⟨rfl, h⟩
    · skip
      refine v_iconst (pc := 27) (v := (-1)) hC dJ1_indexOf_4cfef_27 (by decide) ?_
      exact v_iret (pc := 28) hC dJ1_indexOf_4cfef_28 ⟨rfl, h⟩
  · skip
    refine v_iconst (pc := 7) (v := (-1)) hC dJ1_indexOf_4cfef_7 (by decide) ?_
    exact v_iret (pc := 8) hC dJ1_indexOf_4cfef_8 ⟨rfl, h⟩
def rm_J0_indexOf_7cf53_0 : Room := { frames := 2, cells := 0, slots := 0, locals := 48 }
def wp_J0_indexOf_7cf53_0 (x1 : Int32) (x2 : Int32) (F : gS) (Q : Int32 → Prop) : Prop :=
  wp_J0_isLatin1_aae02_0 F fun r1 =>
  if r1 = 0 then
    (wp_J0_length_8abf5_0 F fun r3 =>
    False)
  else
    (wp_J0_length_8abf5_0 F fun r4 =>
    wp_J1_indexOf_4cfef_0 x1 x2 r4 F fun r5 =>
    Q r5)
set_option maxRecDepth 20000 in
set_option maxHeartbeats 4000000 in
theorem c_J0_indexOf_7cf53_0 (l : Launch) (E : gE) {x1 : Int32} {x2 : Int32} {F : gS} {Q : Int32 → Prop} (h : wp_J0_indexOf_7cf53_0 x1 x2 F Q) : CtI l E yJ0_indexOf_7cf53 cJ0_indexOf_7cf53 3 (some .int) rm_J0_indexOf_7cf53_0 [.ref (E.2.2.2 4), .int x1, .int x2] F (fun r G => G = F ∧ Q r) := by
  refine ct_of (by decide) (Nat.le_of_ble_eq_true rfl) (fun p e s m below meth c hC => ?_)
  generalize ([.ref (E.2.2.2 4), .int x1, .int x2] : List Value).toArray = args at hC ⊢
  refine v_sub (lv' := [(0, .ref (E.2.2.2 4)), (1, .int x1), (2, .int x2)]) [0, 1, 2] rfl ?_
  unfold wp_J0_indexOf_7cf53_0 at h
  refine v_aload_n (pc := 0) hC dJ0_indexOf_7cf53_0 rfl 0 rfl ?_
  refine v_cyp (pc := 1) (r_T (rest := []) hC ml_J0_492 mv_J0_isLatin1_aae02 0 (c_J0_isLatin1_aae02_0 l E h) ⟨rfl, rfl⟩ ⟨Nat.le_of_ble_eq_true rfl, Nat.le_of_ble_eq_true rfl⟩ (by decide) rfl rfl rfl (Nat.le_of_ble_eq_true rfl) ⟨Nat.zero_le _, Nat.zero_le _⟩ dJ0_indexOf_7cf53_1) (fun r1 b2 h => ?_)
  refine v_if_eq (pc := 4) (tgt := 23) hC dJ0_indexOf_7cf53_4 (by decide) h (fun h => ?_) (fun h => ?_)
  · skip
    refine v_aload_n (pc := 23) hC dJ0_indexOf_7cf53_23 rfl 0 rfl ?_
    refine v_sgetf (pc := 24) (v := .ref (E.2.2.2 6)) hC (hC.2.2.2.2.2.1.2.2.2.1.2.2.2.2.2.2.2.2.1 0 (by decide)).2.2.1 sl_J0_9 dJ0_indexOf_7cf53_24 ?_
    refine v_iload_n (pc := 27) hC dJ0_indexOf_7cf53_27 rfl 1 rfl ?_
    refine v_iload_n (pc := 28) hC dJ0_indexOf_7cf53_28 rfl 2 rfl ?_
    refine v_aload_n (pc := 29) hC dJ0_indexOf_7cf53_29 rfl 0 rfl ?_
    refine v_cip (pc := 30) (r_T (rest := [.int x2, .int x1, .ref (E.2.2.2 6)]) hC ml_J0_505 mv_J0_length_8abf5 0 (c_J0_length_8abf5_0 l E h) ⟨rfl, rfl⟩ ⟨Nat.le_of_ble_eq_true rfl, Nat.le_of_ble_eq_true rfl⟩ (by decide) rfl rfl rfl (Nat.le_of_ble_eq_true rfl) ⟨Nat.zero_le _, Nat.zero_le _⟩ dJ0_indexOf_7cf53_30) (fun r3 h => ?_)
    exact h.elim
  · skip
    refine v_aload_n (pc := 7) hC dJ0_indexOf_7cf53_7 rfl 0 rfl ?_
    refine v_sgetf (pc := 8) (v := .ref (E.2.2.2 6)) hC (hC.2.2.2.2.2.1.2.2.2.1.2.2.2.2.2.2.2.2.1 0 (by decide)).2.2.1 sl_J0_9 dJ0_indexOf_7cf53_8 ?_
    refine v_iload_n (pc := 11) hC dJ0_indexOf_7cf53_11 rfl 1 rfl ?_
    refine v_iload_n (pc := 12) hC dJ0_indexOf_7cf53_12 rfl 2 rfl ?_
    refine v_aload_n (pc := 13) hC dJ0_indexOf_7cf53_13 rfl 0 rfl ?_
    refine v_cip (pc := 14) (r_T (rest := [.int x2, .int x1, .ref (E.2.2.2 6)]) hC ml_J0_505 mv_J0_length_8abf5 0 (c_J0_length_8abf5_0 l E h) ⟨rfl, rfl⟩ ⟨Nat.le_of_ble_eq_true rfl, Nat.le_of_ble_eq_true rfl⟩ (by decide) rfl rfl rfl (Nat.le_of_ble_eq_true rfl) ⟨Nat.zero_le _, Nat.zero_le _⟩ dJ0_indexOf_7cf53_14) (fun r4 h => ?_)
    refine v_cip (pc := 17) (r_S (rest := []) hC ml_J0_637 ms_J1_indexOf_4cfef (c_J1_indexOf_4cfef_0 l E h) ⟨rfl, rfl⟩ ⟨Nat.le_of_ble_eq_true rfl, Nat.le_of_ble_eq_true rfl⟩ rfl rfl (Nat.le_of_ble_eq_true rfl) ⟨Nat.zero_le _, Nat.zero_le _⟩ dJ0_indexOf_7cf53_17) (fun r5 h => ?_)
    refine v_goto (pc := 20) (tgt := 36) hC dJ0_indexOf_7cf53_20 (by decide) ?_
    exact v_iret (pc := 36) hC dJ0_indexOf_7cf53_36 ⟨rfl, h⟩
def rm_J0_indexOf_0f7a4_0 : Room := { frames := 3, cells := 0, slots := 0, locals := 70 }
def wp_J0_indexOf_0f7a4_0 (x1 : Int32) (F : gS) (Q : Int32 → Prop) : Prop :=
  wp_J0_indexOf_7cf53_0 x1 0 F fun r1 =>
  Q r1
set_option maxRecDepth 20000 in
set_option maxHeartbeats 4000000 in
theorem c_J0_indexOf_0f7a4_0 (l : Launch) (E : gE) {x1 : Int32} {F : gS} {Q : Int32 → Prop} (h : wp_J0_indexOf_0f7a4_0 x1 F Q) : CtI l E yJ0_indexOf_0f7a4 cJ0_indexOf_0f7a4 2 (some .int) rm_J0_indexOf_0f7a4_0 [.ref (E.2.2.2 4), .int x1] F (fun r G => G = F ∧ Q r) := by
  refine ct_of (by decide) (Nat.le_of_ble_eq_true rfl) (fun p e s m below meth c hC => ?_)
  generalize ([.ref (E.2.2.2 4), .int x1] : List Value).toArray = args at hC ⊢
  refine v_sub (lv' := [(0, .ref (E.2.2.2 4)), (1, .int x1)]) [0, 1] rfl ?_
  unfold wp_J0_indexOf_0f7a4_0 at h
  refine v_aload_n (pc := 0) hC dJ0_indexOf_0f7a4_0 rfl 0 rfl ?_
  refine v_iload_n (pc := 1) hC dJ0_indexOf_0f7a4_1 rfl 1 rfl ?_
  refine v_iconst (pc := 2) (v := 0) hC dJ0_indexOf_0f7a4_2 (by decide) ?_
  refine v_cip (pc := 3) (r_T (rest := []) hC ml_J0_633 mv_J0_indexOf_7cf53 0 (c_J0_indexOf_7cf53_0 l E h) ⟨rfl, rfl⟩ ⟨Nat.le_of_ble_eq_true rfl, Nat.le_of_ble_eq_true rfl⟩ (by decide) rfl rfl rfl (Nat.le_of_ble_eq_true rfl) ⟨Nat.zero_le _, Nat.zero_le _⟩ dJ0_indexOf_0f7a4_3) (fun r1 h => ?_)
  exact v_iret (pc := 6) hC dJ0_indexOf_0f7a4_6 ⟨rfl, h⟩
def rm_J3_checkIndex_8e157 : Room := { frames := 0, cells := 0, slots := 0, locals := 0 }
def wp_J3_checkIndex_8e157 (x0 : Int32) (x1 : Int32) (F : gS) (Q : Int32 → Prop) : Prop :=
  if x0 < 0 then
    (False)
  else
    (if x0 < x1 then
      (Q x0)
    else
      (False))
set_option maxRecDepth 20000 in
set_option maxHeartbeats 4000000 in
theorem c_J3_checkIndex_8e157 (l : Launch) (E : gE) {fv : Value} (hfv : fv.category = 1) {x0 : Int32} {x1 : Int32} {F : gS} {Q : Int32 → Prop} (h : wp_J3_checkIndex_8e157 x0 x1 F Q) : CtI l E yJ3_checkIndex_8e157 cJ3_checkIndex_8e157 3 (some .int) rm_J3_checkIndex_8e157 [.int x0, .int x1, fv] F (fun r G => G = F ∧ Q r) := by
  refine ct_of (by decide) (by simp only [lg_sl, List.flatMap_cons, List.flatMap_nil, hfv]; exact Nat.le_of_ble_eq_true rfl) (fun p e s m below meth c hC => ?_)
  generalize ([.int x0, .int x1, fv] : List Value).toArray = args at hC ⊢
  refine v_sub (lv' := [(0, .int x0), (1, .int x1), (2, fv)]) [0, 1, 2] rfl ?_
  unfold wp_J3_checkIndex_8e157 at h
  refine v_iload_n (pc := 0) hC dJ3_checkIndex_8e157_0 rfl 0 rfl ?_
  refine v_if_lt (pc := 1) (tgt := 9) hC dJ3_checkIndex_8e157_1 (by decide) h (fun h => ?_) (fun h => ?_)
  · skip
    exact h.elim
  · skip
    refine v_iload_n (pc := 4) hC dJ3_checkIndex_8e157_4 rfl 0 rfl ?_
    refine v_iload_n (pc := 5) hC dJ3_checkIndex_8e157_5 rfl 1 rfl ?_
    refine v_ic_lt (pc := 6) (tgt := 16) hC dJ3_checkIndex_8e157_6 (by decide) h (fun h => ?_) (fun h => ?_)
    · skip
      refine v_iload_n (pc := 16) hC dJ3_checkIndex_8e157_16 rfl 0 rfl ?_
      exact v_iret (pc := 17) hC dJ3_checkIndex_8e157_17 ⟨rfl, h⟩
    · skip
      exact h.elim
def rm_J0_checkIndex_df160 : Room := { frames := 1, cells := 0, slots := 0, locals := 22 }
def wp_J0_checkIndex_df160 (x0 : Int32) (x1 : Int32) (F : gS) (Q : Prop) : Prop :=
  wp_J3_checkIndex_8e157 x0 x1 F fun r1 =>
  Q
set_option maxRecDepth 20000 in
set_option maxHeartbeats 4000000 in
theorem c_J0_checkIndex_df160 (l : Launch) (E : gE) {x0 : Int32} {x1 : Int32} {F : gS} {Q : Prop} (h : wp_J0_checkIndex_df160 x0 x1 F Q) : CtV l E yJ0_checkIndex_df160 cJ0_checkIndex_df160 2 none rm_J0_checkIndex_df160 [.int x0, .int x1] F (fun G => G = F ∧ Q) := by
  refine ct_of (by decide) (Nat.le_of_ble_eq_true rfl) (fun p e s m below meth c hC => ?_)
  generalize ([.int x0, .int x1] : List Value).toArray = args at hC ⊢
  refine v_sub (lv' := [(0, .int x0), (1, .int x1)]) [0, 1] rfl ?_
  unfold wp_J0_checkIndex_df160 at h
  refine v_iload_n (pc := 0) hC dJ0_checkIndex_df160_0 rfl 0 rfl ?_
  refine v_iload_n (pc := 1) hC dJ0_checkIndex_df160_1 rfl 1 rfl ?_
  obtain ⟨fv, hz, hfv⟩ := zq_some hC.2.2.2.2.2.1.2.2.2.1.2.2.2.2.2.2.2.1
  refine v_gets (pc := 2) (v := fv) hC hz sl_J0_1053 dJ0_checkIndex_df160_2 ?_
  refine v_cip (pc := 5) (r_S (rest := []) hC ml_J0_1059 ms_J3_checkIndex_8e157 (c_J3_checkIndex_8e157 l E hfv h) ⟨rfl, rfl⟩ ⟨Nat.le_of_ble_eq_true rfl, Nat.le_of_ble_eq_true rfl⟩ rfl rfl (Nat.le_of_ble_eq_true rfl) ⟨Nat.zero_le _, Nat.zero_le _⟩ dJ0_checkIndex_df160_5) (fun r1 h => ?_)
  refine v_pop (pc := 8) hC dJ0_checkIndex_df160_8 rfl ?_
  exact v_vret (pc := 9) hC dJ0_checkIndex_df160_9 ⟨rfl, h⟩
def rm_J1_charAt_3b067_1 : Room := { frames := 2, cells := 0, slots := 0, locals := 43 }
def wp_J1_charAt_3b067_1 (x1 : Int32) (F : gS) (Q : Int32 → Prop) : Prop :=
  wp_J0_checkIndex_df160 x1 4 F (vp_in x1 4 ∧
  narrow .char (.int (((((gText.getD 1 []).getD x1.toNatClampNeg 0) &&& 255).toUInt32 % 65536).toInt32)) = .int (((((gText.getD 1 []).getD x1.toNatClampNeg 0) &&& 255).toUInt32 % 65536).toInt32) ∧ Q (((((gText.getD 1 []).getD x1.toNatClampNeg 0) &&& 255).toUInt32 % 65536).toInt32))
set_option maxRecDepth 20000 in
set_option maxHeartbeats 4000000 in
theorem c_J1_charAt_3b067_1 (l : Launch) (E : gE) {x1 : Int32} {F : gS} {Q : Int32 → Prop} (h : wp_J1_charAt_3b067_1 x1 F Q) : CtI l E yJ1_charAt_3b067 cJ1_charAt_3b067 2 (some .char) rm_J1_charAt_3b067_1 [.ref (E.2.2.2 7), .int x1] F (fun r G => narrow .char (.int r) = .int r ∧ G = F ∧ Q r) := by
  refine ct_of (by decide) (Nat.le_of_ble_eq_true rfl) (fun p e s m below meth c hC => ?_)
  generalize ([.ref (E.2.2.2 7), .int x1] : List Value).toArray = args at hC ⊢
  refine v_sub (lv' := [(0, .ref (E.2.2.2 7)), (1, .int x1)]) [0, 1] rfl ?_
  unfold wp_J1_charAt_3b067_1 at h
  refine v_iload_n (pc := 0) hC dJ1_charAt_3b067_0 rfl 1 rfl ?_
  refine v_aload_n (pc := 1) hC dJ1_charAt_3b067_1 rfl 0 rfl ?_
  refine v_tlen (pc := 2) (N := 4) (v := 4) hC (hC.2.2.2.2.2.1.2.2.2.1.2.2.2.2.2.2.2.2.1 1 (by decide)).2.2.2 rfl dJ1_charAt_3b067_2 ?_
  refine v_cvp (pc := 3) (r_S (rest := []) hC ml_J1_9 ms_J0_checkIndex_df160 (c_J0_checkIndex_df160 l E h) ⟨rfl, rfl⟩ ⟨Nat.le_of_ble_eq_true rfl, Nat.le_of_ble_eq_true rfl⟩ rfl rfl (Nat.le_of_ble_eq_true rfl) ⟨Nat.zero_le _, Nat.zero_le _⟩ dJ1_charAt_3b067_3) (fun h => ?_)
  refine v_aload_n (pc := 6) hC dJ1_charAt_3b067_6 rfl 0 rfl ?_
  refine v_iload_n (pc := 7) hC dJ1_charAt_3b067_7 rfl 1 rfl ?_
  refine v_tbald (pc := 8) (N := 4) (f := fun j => (gText.getD 1 []).getD j 0) hC (hC.2.2.2.2.2.1.2.2.2.1.2.2.2.2.2.2.2.2.1 1 (by decide)).2.2.2 dJ1_charAt_3b067_8 h (fun h => ?_)
  refine v_sipush (pc := 9) (v := 255) hC dJ1_charAt_3b067_9 (by decide) ?_
  refine v_iand (pc := 12) hC dJ1_charAt_3b067_12 ?_
  refine v_i2c (pc := 13) hC dJ1_charAt_3b067_13 ?_
  exact v_nret (pc := 14) hC dJ1_charAt_3b067_14 h.1 ⟨h.1, rfl, h.2⟩
def rm_J0_charAt_5068e_1 : Room := { frames := 3, cells := 0, slots := 0, locals := 64 }
def wp_J0_charAt_5068e_1 (x1 : Int32) (F : gS) (Q : Int32 → Prop) : Prop :=
  wp_J0_isLatin1_aae02_1 F fun r1 =>
  if r1 = 0 then
    (False)
  else
    (wp_J1_charAt_3b067_1 x1 F fun r3 =>
    narrow .char (.int r3) = .int r3 ∧ Q r3)
set_option maxRecDepth 20000 in
set_option maxHeartbeats 4000000 in
theorem c_J0_charAt_5068e_1 (l : Launch) (E : gE) {x1 : Int32} {F : gS} {Q : Int32 → Prop} (h : wp_J0_charAt_5068e_1 x1 F Q) : CtI l E yJ0_charAt_5068e cJ0_charAt_5068e 2 (some .char) rm_J0_charAt_5068e_1 [.ref (E.2.2.2 5), .int x1] F (fun r G => narrow .char (.int r) = .int r ∧ G = F ∧ Q r) := by
  refine ct_of (by decide) (Nat.le_of_ble_eq_true rfl) (fun p e s m below meth c hC => ?_)
  generalize ([.ref (E.2.2.2 5), .int x1] : List Value).toArray = args at hC ⊢
  refine v_sub (lv' := [(0, .ref (E.2.2.2 5)), (1, .int x1)]) [0, 1] rfl ?_
  unfold wp_J0_charAt_5068e_1 at h
  refine v_aload_n (pc := 0) hC dJ0_charAt_5068e_0 rfl 0 rfl ?_
  refine v_cyp (pc := 1) (r_T (rest := []) hC ml_J0_492 mv_J0_isLatin1_aae02 1 (c_J0_isLatin1_aae02_1 l E h) ⟨rfl, rfl⟩ ⟨Nat.le_of_ble_eq_true rfl, Nat.le_of_ble_eq_true rfl⟩ (by decide) rfl rfl rfl (Nat.le_of_ble_eq_true rfl) ⟨Nat.zero_le _, Nat.zero_le _⟩ dJ0_charAt_5068e_1) (fun r1 b2 h => ?_)
  refine v_if_eq (pc := 4) (tgt := 16) hC dJ0_charAt_5068e_4 (by decide) h (fun h => ?_) (fun h => ?_)
  · skip
    refine v_aload_n (pc := 16) hC dJ0_charAt_5068e_16 rfl 0 rfl ?_
    refine v_sgetf (pc := 17) (v := .ref (E.2.2.2 7)) hC (hC.2.2.2.2.2.1.2.2.2.1.2.2.2.2.2.2.2.2.1 1 (by decide)).2.2.1 sl_J0_9 dJ0_charAt_5068e_17 ?_
    refine v_iload_n (pc := 20) hC dJ0_charAt_5068e_20 rfl 1 rfl ?_
    exact h.elim
  · skip
    refine v_aload_n (pc := 7) hC dJ0_charAt_5068e_7 rfl 0 rfl ?_
    refine v_sgetf (pc := 8) (v := .ref (E.2.2.2 7)) hC (hC.2.2.2.2.2.1.2.2.2.1.2.2.2.2.2.2.2.2.1 1 (by decide)).2.2.1 sl_J0_9 dJ0_charAt_5068e_8 ?_
    refine v_iload_n (pc := 11) hC dJ0_charAt_5068e_11 rfl 1 rfl ?_
    refine v_cyp (pc := 12) (r_S (rest := []) hC ml_J0_495 ms_J1_charAt_3b067 (c_J1_charAt_3b067_1 l E h) ⟨rfl, rfl⟩ ⟨Nat.le_of_ble_eq_true rfl, Nat.le_of_ble_eq_true rfl⟩ rfl rfl (Nat.le_of_ble_eq_true rfl) ⟨Nat.zero_le _, Nat.zero_le _⟩ dJ0_charAt_5068e_12) (fun r3 b4 h => ?_)
    exact v_nret (pc := 15) hC dJ0_charAt_5068e_15 h.1 ⟨h.1, rfl, h.2⟩
