def rm_X12_within : Room := { frames := 0, cells := 0, slots := 0, locals := 0 }
def wp_X12_within (x0 : Int32) (x1 : Int32) (x2 : Int32) (F : gS) (Q : Int32 → Prop) : Prop :=
  if x0 < x1 then
    (Q 0)
  else
    (if x2 < x0 then
      (Q 0)
    else
      (Q 1))
set_option maxRecDepth 20000 in
set_option maxHeartbeats 4000000 in
theorem c_X12_within (l : Launch) (E : gE) {x0 : Int32} {x1 : Int32} {x2 : Int32} {F : gS} {Q : Int32 → Prop} (h : wp_X12_within x0 x1 x2 F Q) : CtI l E yX12_within cX12_within 3 (some .boolean) rm_X12_within [.int x0, .int x1, .int x2] F (fun r G => (r = 0 ∨ r = 1) ∧ G = F ∧ Q r) := by
  refine ct_of (by decide) (Nat.le_of_ble_eq_true rfl) (fun p e s m below meth c hC => ?_)
  generalize ([.int x0, .int x1, .int x2] : List Value).toArray = args at hC ⊢
  refine v_sub (lv' := [(0, .int x0), (1, .int x1), (2, .int x2)]) [0, 1, 2] rfl ?_
  unfold wp_X12_within at h
  refine v_iload_n (pc := 0) hC dX12_within_0 rfl 0 rfl ?_
  refine v_iload_n (pc := 1) hC dX12_within_1 rfl 1 rfl ?_
  refine v_ic_lt (pc := 2) (tgt := 14) hC dX12_within_2 (by decide) h (fun h => ?_) (fun h => ?_)
  · skip
    refine v_iconst (pc := 14) (v := 0) hC dX12_within_14 (by decide) ?_
    exact v_zret (pc := 15) hC dX12_within_15 (Or.inl rfl) ⟨Or.inl rfl, rfl, h⟩
  · skip
    refine v_iload_n (pc := 5) hC dX12_within_5 rfl 0 rfl ?_
    refine v_iload_n (pc := 6) hC dX12_within_6 rfl 2 rfl ?_
    refine v_ic_gt (pc := 7) (tgt := 14) hC dX12_within_7 (by decide) h (fun h => ?_) (fun h => ?_)
    · skip
      refine v_iconst (pc := 14) (v := 0) hC dX12_within_14 (by decide) ?_
      exact v_zret (pc := 15) hC dX12_within_15 (Or.inl rfl) ⟨Or.inl rfl, rfl, h⟩
    · skip
      refine v_iconst (pc := 10) (v := 1) hC dX12_within_10 (by decide) ?_
      refine v_goto (pc := 11) (tgt := 15) hC dX12_within_11 (by decide) ?_
      exact v_zret (pc := 15) hC dX12_within_15 (Or.inr rfl) ⟨Or.inr rfl, rfl, h⟩
def rm_X12_atLeast : Room := { frames := 0, cells := 0, slots := 0, locals := 0 }
def wp_X12_atLeast (x0 : Int32) (F : gS) (Q : Int32 → Prop) : Prop :=
  if 0 ≤ x0 then
    (Q x0)
  else
    (Q 0)
set_option maxRecDepth 20000 in
set_option maxHeartbeats 4000000 in
theorem c_X12_atLeast (l : Launch) (E : gE) {x0 : Int32} {F : gS} {Q : Int32 → Prop} (h : wp_X12_atLeast x0 F Q) : CtI l E yX12_atLeast cX12_atLeast 1 (some .int) rm_X12_atLeast [.int x0] F (fun r G => G = F ∧ Q r) := by
  refine ct_of (by decide) (Nat.le_of_ble_eq_true rfl) (fun p e s m below meth c hC => ?_)
  generalize ([.int x0] : List Value).toArray = args at hC ⊢
  refine v_sub (lv' := [(0, .int x0)]) [0] rfl ?_
  unfold wp_X12_atLeast at h
  refine v_iload_n (pc := 0) hC dX12_atLeast_0 rfl 0 rfl ?_
  refine v_if_ge (pc := 1) (tgt := 8) hC dX12_atLeast_1 (by decide) h (fun h => ?_) (fun h => ?_)
  · skip
    refine v_iload_n (pc := 8) hC dX12_atLeast_8 rfl 0 rfl ?_
    exact v_iret (pc := 9) hC dX12_atLeast_9 ⟨rfl, h⟩
  · skip
    refine v_iconst (pc := 4) (v := 0) hC dX12_atLeast_4 (by decide) ?_
    refine v_goto (pc := 5) (tgt := 9) hC dX12_atLeast_5 (by decide) ?_
    exact v_iret (pc := 9) hC dX12_atLeast_9 ⟨rfl, h⟩
def rm_X12_letters : Room := { frames := 0, cells := 0, slots := 0, locals := 0 }
def wp_X12_letters_64 (K8 : Int32 → Int32 → Int32 → Prop) (Q : Int32 → gS → Prop) (F : gS) (x1 : Int64) (x3 : Int32) (x5 : Int32) (x6 : Int32) (t0 : Int32) : Prop :=
  if x6 = 0 then
    (Nm (x3 + 0) fun n7 =>
    Nm (x5 + 1) fun n8 =>
    K8 n7 t0 n8)
  else
    (Nm (x3 + 1) fun n5 =>
    Nm (x5 + 1) fun n6 =>
    K8 n5 t0 n6)
def wp_X12_letters_49 (K8 : Int32 → Int32 → Int32 → Prop) (Q : Int32 → gS → Prop) (F : gS) (x1 : Int64) (x3 : Int32) (x4 : Int32) (x5 : Int32) (x6 : Int32) : Prop :=
  if x4 = 0 then
    (if x6 = 0 then
      (wp_X12_letters_64 K8 Q F x1 x3 x5 x6 1)
    else
      (wp_X12_letters_64 K8 Q F x1 x3 x5 x6 0))
  else
    (wp_X12_letters_64 K8 Q F x1 x3 x5 x6 1)
def wb_X12_letters_102 (Q : Int32 → gS → Prop) (x1 : Int64) (x3 : Int32) (K102 : gS → Int32 → Prop) (F : gS) (x5 : Int32) : Prop :=
  if x3 ≤ x5 then
    (Nm (upF F 121 19 ((F 121 19) + x3)) fun F2 =>
    Q (F2 121 19) F2)
  else
    (vp_in ((F 121 19) + x5) 40 ∧ Nm (upF F 134 ((F 121 19) + x5).toNatClampNeg (vp_nar .byte (((x1 >>> ((8 * x5).toInt64 &&& 63)).toInt32).toInt8.toInt32))) fun F3 =>
    Nm (x5 + 1) fun n4 =>
    K102 F3 n4)
def wp_X12_letters_85 (Q : Int32 → gS → Prop) (F : gS) (x1 : Int64) (x3 : Int32) : Prop :=
  if ((F 121 19) + x3) ≤ 40 then
    (LP2 (wb_X12_letters_102 Q x1 x3) F 0)
  else
    (Q (-104) F)
def wb_X12_letters_8 (Q : Int32 → gS → Prop) (F : gS) (x1 : Int64) (K8 : Int32 → Int32 → Int32 → Prop) (x3 : Int32) (x4 : Int32) (x5 : Int32) : Prop :=
  if 8 ≤ x5 then
    (wp_X12_letters_85 Q F x1 x3)
  else
    (Nm (((x1 >>> ((8 * x5).toInt64 &&& 63)) &&& (255 : Int64)).toInt32) fun n1 =>
    if 126 < n1 then
      (Q (-102) F)
    else
      (if x4 = 0 then
        (wp_X12_letters_49 K8 Q F x1 x3 x4 x5 n1)
      else
        (if n1 = 0 then
          (wp_X12_letters_49 K8 Q F x1 x3 x4 x5 n1)
        else
          (Q (-102) F))))
def wp_X12_letters (x1 : Int64) (F : gS) (Q : Int32 → gS → Prop) : Prop :=
  LP3 (wb_X12_letters_8 Q F x1) 0 0 0
set_option maxRecDepth 20000 in
set_option maxHeartbeats 4000000 in
theorem j_X12_letters_64 {p : Program} {l : Launch} {e : Env} {s : State} {m : MethodId} {args : Array Value} {below : List Frame} {meth : Method} {c : Code} {E : gE} (hC : CX p s m args meth c cX12_letters RX12 (some .int) E 7) {Q : Int32 → gS → Prop} {F : gS} {x1 : Int64} {x3 : Int32} {x5 : Int32} {x6 : Int32} {t0 : Int32} {K8 : Int32 → Int32 → Int32 → Prop} (hK8 : ∀ (x3 : Int32) (x4 : Int32) (x5 : Int32), K8 x3 x4 x5 → VV p l e rm_X12_letters s m args below meth c 0 0 (MQ below (va_Qi Q (gB E) (gA E)) args s 0 0 (gA E)) E 7 F 8 [(0, .ref (ad E 121)), (1, .long x1), (3, .int x3), (4, .int x4), (5, .int x5)] []) (h : wp_X12_letters_64 K8 Q F x1 x3 x5 x6 t0) : VV p l e rm_X12_letters s m args below meth c 0 0 (MQ below (va_Qi Q (gB E) (gA E)) args s 0 0 (gA E)) E 7 F 64 [(0, .ref (ad E 121)), (1, .long x1), (3, .int x3), (5, .int x5), (6, .int x6)] [.int t0] := by
  unfold wp_X12_letters_64 at h
  refine v_istore (pc := 64) (lv' := [(4, .int t0), (0, .ref (ad E 121)), (1, .long x1), (3, .int x3), (5, .int x5), (6, .int x6)]) hC dX12_letters_64 (by decide) rfl ?_
  refine v_iload_n (pc := 66) hC dX12_letters_66 rfl 3 rfl ?_
  refine v_iload (pc := 67) hC dX12_letters_67 5 rfl ?_
  refine v_if_ne (pc := 69) (tgt := 76) hC dX12_letters_69 (by decide) h (fun h => ?_) (fun h => ?_)
  · skip
    refine v_iconst (pc := 76) (v := 1) hC dX12_letters_76 (by decide) ?_
    refine v_iadd (pc := 77) hC dX12_letters_77 ?_
    refine v_nmi h (fun n5 h => ?_)
    refine v_istore_n (pc := 78) (lv' := [(3, .int n5), (4, .int t0), (0, .ref (ad E 121)), (1, .long x1), (5, .int x5), (6, .int x6)]) hC dX12_letters_78 rfl (by decide) rfl ?_
    refine v_iinc (pc := 79) (v := 1) hC (fun z => [(5, .int z), (3, .int n5), (4, .int t0), (0, .ref (ad E 121)), (1, .long x1), (6, .int x6)]) dX12_letters_79 4 rfl (by decide) (by decide) (fun _ => rfl) h (fun n6 h => ?_)
    refine v_goto (pc := 82) (tgt := 8) hC dX12_letters_82 (by decide) ?_
    exact v_sub [3, 4, 1, 2, 0] rfl (hK8 _ _ _ h)
  · skip
    refine v_iconst (pc := 72) (v := 0) hC dX12_letters_72 (by decide) ?_
    refine v_goto (pc := 73) (tgt := 77) hC dX12_letters_73 (by decide) ?_
    refine v_iadd (pc := 77) hC dX12_letters_77 ?_
    refine v_nmi h (fun n7 h => ?_)
    refine v_istore_n (pc := 78) (lv' := [(3, .int n7), (4, .int t0), (0, .ref (ad E 121)), (1, .long x1), (5, .int x5), (6, .int x6)]) hC dX12_letters_78 rfl (by decide) rfl ?_
    refine v_iinc (pc := 79) (v := 1) hC (fun z => [(5, .int z), (3, .int n7), (4, .int t0), (0, .ref (ad E 121)), (1, .long x1), (6, .int x6)]) dX12_letters_79 4 rfl (by decide) (by decide) (fun _ => rfl) h (fun n8 h => ?_)
    refine v_goto (pc := 82) (tgt := 8) hC dX12_letters_82 (by decide) ?_
    exact v_sub [3, 4, 1, 2, 0] rfl (hK8 _ _ _ h)
set_option maxRecDepth 20000 in
set_option maxHeartbeats 4000000 in
theorem j_X12_letters_49 {p : Program} {l : Launch} {e : Env} {s : State} {m : MethodId} {args : Array Value} {below : List Frame} {meth : Method} {c : Code} {E : gE} (hC : CX p s m args meth c cX12_letters RX12 (some .int) E 7) {Q : Int32 → gS → Prop} {F : gS} {x1 : Int64} {x3 : Int32} {x4 : Int32} {x5 : Int32} {x6 : Int32} {K8 : Int32 → Int32 → Int32 → Prop} (hK8 : ∀ (x3 : Int32) (x4 : Int32) (x5 : Int32), K8 x3 x4 x5 → VV p l e rm_X12_letters s m args below meth c 0 0 (MQ below (va_Qi Q (gB E) (gA E)) args s 0 0 (gA E)) E 7 F 8 [(0, .ref (ad E 121)), (1, .long x1), (3, .int x3), (4, .int x4), (5, .int x5)] []) (h : wp_X12_letters_49 K8 Q F x1 x3 x4 x5 x6) : VV p l e rm_X12_letters s m args below meth c 0 0 (MQ below (va_Qi Q (gB E) (gA E)) args s 0 0 (gA E)) E 7 F 49 [(0, .ref (ad E 121)), (1, .long x1), (3, .int x3), (4, .int x4), (5, .int x5), (6, .int x6)] [] := by
  unfold wp_X12_letters_49 at h
  refine v_iload (pc := 49) hC dX12_letters_49 3 rfl ?_
  refine v_if_ne (pc := 51) (tgt := 59) hC dX12_letters_51 (by decide) h (fun h => ?_) (fun h => ?_)
  · skip
    refine v_iconst (pc := 59) (v := 1) hC dX12_letters_59 (by decide) ?_
    refine v_goto (pc := 60) (tgt := 64) hC dX12_letters_60 (by decide) ?_
    exact v_sub [0, 1, 2, 4, 5] rfl (j_X12_letters_64 hC hK8 h)
  · skip
    refine v_iload (pc := 54) hC dX12_letters_54 5 rfl ?_
    refine v_if_ne (pc := 56) (tgt := 63) hC dX12_letters_56 (by decide) h (fun h => ?_) (fun h => ?_)
    · skip
      refine v_iconst (pc := 63) (v := 0) hC dX12_letters_63 (by decide) ?_
      exact v_sub [0, 1, 2, 4, 5] rfl (j_X12_letters_64 hC hK8 h)
    · skip
      refine v_iconst (pc := 59) (v := 1) hC dX12_letters_59 (by decide) ?_
      refine v_goto (pc := 60) (tgt := 64) hC dX12_letters_60 (by decide) ?_
      exact v_sub [0, 1, 2, 4, 5] rfl (j_X12_letters_64 hC hK8 h)
set_option maxRecDepth 20000 in
set_option maxHeartbeats 4000000 in
theorem jb_X12_letters_102 {p : Program} {l : Launch} {e : Env} {s : State} {m : MethodId} {args : Array Value} {below : List Frame} {meth : Method} {c : Code} {E : gE} (hC : CX p s m args meth c cX12_letters RX12 (some .int) E 7) {Q : Int32 → gS → Prop} {F : gS} {x1 : Int64} {x3 : Int32} {x5 : Int32} {K102 : gS → Int32 → Prop} (hK102 : ∀ (F : gS) (x5 : Int32), K102 F x5 → VV p l e rm_X12_letters s m args below meth c 0 0 (MQ below (va_Qi Q (gB E) (gA E)) args s 0 0 (gA E)) E 7 F 102 [(0, .ref (ad E 121)), (1, .long x1), (3, .int x3), (5, .int x5)] []) (h : wb_X12_letters_102 Q x1 x3 K102 F x5) : VV p l e rm_X12_letters s m args below meth c 0 0 (MQ below (va_Qi Q (gB E) (gA E)) args s 0 0 (gA E)) E 7 F 102 [(0, .ref (ad E 121)), (1, .long x1), (3, .int x3), (5, .int x5)] [] := by
  unfold wb_X12_letters_102 at h
  refine v_iload (pc := 102) hC dX12_letters_102 3 rfl ?_
  refine v_iload_n (pc := 104) hC dX12_letters_104 rfl 2 rfl ?_
  refine v_ic_ge (pc := 105) (tgt := 135) hC dX12_letters_105 (by decide) h (fun h => ?_) (fun h => ?_)
  · skip
    refine v_aload_n (pc := 135) hC dX12_letters_135 rfl 0 rfl ?_
    refine v_dup (pc := 136) hC dX12_letters_136 rfl ?_
    refine v_get (pc := 137) (v := .int (F 121 19)) hC fl_X12_98 kq_121 rfl dX12_letters_137 ?_
    refine v_iload_n (pc := 140) hC dX12_letters_140 rfl 2 rfl ?_
    refine v_iadd (pc := 141) hC dX12_letters_141 ?_
    refine v_puti (pc := 142) hC fp_X12_98 kq_121 (fs_10_19 E _ _ _) (fn_10_19 E _ _) dX12_letters_142 h (fun F2 h => ?_)
    refine v_aload_n (pc := 145) hC dX12_letters_145 rfl 0 rfl ?_
    refine v_get (pc := 146) (v := .int (F2 121 19)) hC fl_X12_98 kq_121 rfl dX12_letters_146 ?_
    exact v_iret (pc := 149) hC dX12_letters_149 h
  · skip
    refine v_aload_n (pc := 108) hC dX12_letters_108 rfl 0 rfl ?_
    refine v_get (pc := 109) (v := .ref (ad E 134)) hC fl_X12_47 kq_121 rfl dX12_letters_109 ?_
    refine v_aload_n (pc := 112) hC dX12_letters_112 rfl 0 rfl ?_
    refine v_get (pc := 113) (v := .int (F 121 19)) hC fl_X12_98 kq_121 rfl dX12_letters_113 ?_
    refine v_iload (pc := 116) hC dX12_letters_116 3 rfl ?_
    refine v_iadd (pc := 118) hC dX12_letters_118 ?_
    refine v_lload_n (pc := 119) hC dX12_letters_119 rfl 1 rfl ?_
    refine v_bipush (pc := 120) (v := 8) hC dX12_letters_120 (by decide) ?_
    refine v_iload (pc := 122) hC dX12_letters_122 3 rfl ?_
    refine v_imul (pc := 124) hC dX12_letters_124 ?_
    refine v_lshr (pc := 125) hC dX12_letters_125 ?_
    refine v_l2i (pc := 126) hC dX12_letters_126 ?_
    refine v_i2b (pc := 127) hC dX12_letters_127 ?_
    refine v_bast (pc := 128) (n := 40) hC kq_134 (by decide) dX12_letters_128 h (fun F3 h => ?_)
    refine v_iinc (pc := 129) (v := 1) hC (fun z => [(5, .int z), (0, .ref (ad E 121)), (1, .long x1), (3, .int x3)]) dX12_letters_129 3 rfl (by decide) (by decide) (fun _ => rfl) h (fun n4 h => ?_)
    refine v_goto (pc := 132) (tgt := 102) hC dX12_letters_132 (by decide) ?_
    exact v_sub [1, 2, 3, 0] rfl (hK102 _ _ h)
set_option maxRecDepth 20000 in
set_option maxHeartbeats 4000000 in
theorem jl_X12_letters_102 {p : Program} {l : Launch} {e : Env} {s : State} {m : MethodId} {args : Array Value} {below : List Frame} {meth : Method} {c : Code} {E : gE} (hC : CX p s m args meth c cX12_letters RX12 (some .int) E 7) {Q : Int32 → gS → Prop} {F : gS} {x1 : Int64} {x3 : Int32} {x5 : Int32} (h : LP2 (wb_X12_letters_102 Q x1 x3) F x5) : VV p l e rm_X12_letters s m args below meth c 0 0 (MQ below (va_Qi Q (gB E) (gA E)) args s 0 0 (gA E)) E 7 F 102 [(0, .ref (ad E 121)), (1, .long x1), (3, .int x3), (5, .int x5)] [] :=
  LP2_go (V := fun (F : gS) (x5 : Int32) => VV p l e rm_X12_letters s m args below meth c 0 0 (MQ below (va_Qi Q (gB E) (gA E)) args s 0 0 (gA E)) E 7 F 102 [(0, .ref (ad E 121)), (1, .long x1), (3, .int x3), (5, .int x5)] []) (fun K102 hK102 F x5 h => jb_X12_letters_102 hC hK102 h) F x5 h
set_option maxRecDepth 20000 in
set_option maxHeartbeats 4000000 in
theorem j_X12_letters_85 {p : Program} {l : Launch} {e : Env} {s : State} {m : MethodId} {args : Array Value} {below : List Frame} {meth : Method} {c : Code} {E : gE} (hC : CX p s m args meth c cX12_letters RX12 (some .int) E 7) {Q : Int32 → gS → Prop} {F : gS} {x1 : Int64} {x3 : Int32} (h : wp_X12_letters_85 Q F x1 x3) : VV p l e rm_X12_letters s m args below meth c 0 0 (MQ below (va_Qi Q (gB E) (gA E)) args s 0 0 (gA E)) E 7 F 85 [(0, .ref (ad E 121)), (1, .long x1), (3, .int x3)] [] := by
  unfold wp_X12_letters_85 at h
  refine v_aload_n (pc := 85) hC dX12_letters_85 rfl 0 rfl ?_
  refine v_get (pc := 86) (v := .int (F 121 19)) hC fl_X12_98 kq_121 rfl dX12_letters_86 ?_
  refine v_iload_n (pc := 89) hC dX12_letters_89 rfl 2 rfl ?_
  refine v_iadd (pc := 90) hC dX12_letters_90 ?_
  refine v_bipush (pc := 91) (v := 40) hC dX12_letters_91 (by decide) ?_
  refine v_ic_le (pc := 93) (tgt := 99) hC dX12_letters_93 (by decide) h (fun h => ?_) (fun h => ?_)
  · skip
    refine v_iconst (pc := 99) (v := 0) hC dX12_letters_99 (by decide) ?_
    refine v_istore (pc := 100) (lv' := [(5, .int 0), (0, .ref (ad E 121)), (1, .long x1), (3, .int x3)]) hC dX12_letters_100 (by decide) rfl ?_
    exact v_sub [1, 2, 3, 0] rfl (jl_X12_letters_102 hC h)
  · skip
    refine v_bipush (pc := 96) (v := (-104)) hC dX12_letters_96 (by decide) ?_
    exact v_iret (pc := 98) hC dX12_letters_98 h
set_option maxRecDepth 20000 in
set_option maxHeartbeats 4000000 in
theorem jb_X12_letters_8 {p : Program} {l : Launch} {e : Env} {s : State} {m : MethodId} {args : Array Value} {below : List Frame} {meth : Method} {c : Code} {E : gE} (hC : CX p s m args meth c cX12_letters RX12 (some .int) E 7) {Q : Int32 → gS → Prop} {F : gS} {x1 : Int64} {x3 : Int32} {x4 : Int32} {x5 : Int32} {K8 : Int32 → Int32 → Int32 → Prop} (hK8 : ∀ (x3 : Int32) (x4 : Int32) (x5 : Int32), K8 x3 x4 x5 → VV p l e rm_X12_letters s m args below meth c 0 0 (MQ below (va_Qi Q (gB E) (gA E)) args s 0 0 (gA E)) E 7 F 8 [(0, .ref (ad E 121)), (1, .long x1), (3, .int x3), (4, .int x4), (5, .int x5)] []) (h : wb_X12_letters_8 Q F x1 K8 x3 x4 x5) : VV p l e rm_X12_letters s m args below meth c 0 0 (MQ below (va_Qi Q (gB E) (gA E)) args s 0 0 (gA E)) E 7 F 8 [(0, .ref (ad E 121)), (1, .long x1), (3, .int x3), (4, .int x4), (5, .int x5)] [] := by
  unfold wb_X12_letters_8 at h
  refine v_iload (pc := 8) hC dX12_letters_8 4 rfl ?_
  refine v_bipush (pc := 10) (v := 8) hC dX12_letters_10 (by decide) ?_
  refine v_ic_ge (pc := 12) (tgt := 85) hC dX12_letters_12 (by decide) h (fun h => ?_) (fun h => ?_)
  · skip
    exact v_sub [0, 1, 2] rfl (j_X12_letters_85 hC h)
  · skip
    refine v_lload_n (pc := 15) hC dX12_letters_15 rfl 1 rfl ?_
    refine v_bipush (pc := 16) (v := 8) hC dX12_letters_16 (by decide) ?_
    refine v_iload (pc := 18) hC dX12_letters_18 4 rfl ?_
    refine v_imul (pc := 20) hC dX12_letters_20 ?_
    refine v_lshr (pc := 21) hC dX12_letters_21 ?_
    refine v_ldc2 (pc := 22) hC kc_X12_96 dX12_letters_22 ?_
    refine v_land (pc := 25) hC dX12_letters_25 ?_
    refine v_l2i (pc := 26) hC dX12_letters_26 ?_
    refine v_nmi h (fun n1 h => ?_)
    refine v_istore (pc := 27) (lv' := [(6, .int n1), (0, .ref (ad E 121)), (1, .long x1), (3, .int x3), (4, .int x4), (5, .int x5)]) hC dX12_letters_27 (by decide) rfl ?_
    refine v_iload (pc := 29) hC dX12_letters_29 0 rfl ?_
    refine v_bipush (pc := 31) (v := 126) hC dX12_letters_31 (by decide) ?_
    refine v_ic_gt (pc := 33) (tgt := 46) hC dX12_letters_33 (by decide) h (fun h => ?_) (fun h => ?_)
    · skip
      refine v_bipush (pc := 46) (v := (-102)) hC dX12_letters_46 (by decide) ?_
      exact v_iret (pc := 48) hC dX12_letters_48 h
    · skip
      refine v_iload (pc := 36) hC dX12_letters_36 4 rfl ?_
      refine v_if_eq (pc := 38) (tgt := 49) hC dX12_letters_38 (by decide) h (fun h => ?_) (fun h => ?_)
      · skip
        exact v_sub [1, 2, 3, 4, 5, 0] rfl (j_X12_letters_49 hC hK8 h)
      · skip
        refine v_iload (pc := 41) hC dX12_letters_41 0 rfl ?_
        refine v_if_eq (pc := 43) (tgt := 49) hC dX12_letters_43 (by decide) h (fun h => ?_) (fun h => ?_)
        · skip
          exact v_sub [1, 2, 3, 4, 5, 0] rfl (j_X12_letters_49 hC hK8 h)
        · skip
          refine v_bipush (pc := 46) (v := (-102)) hC dX12_letters_46 (by decide) ?_
          exact v_iret (pc := 48) hC dX12_letters_48 h
set_option maxRecDepth 20000 in
set_option maxHeartbeats 4000000 in
theorem jl_X12_letters_8 {p : Program} {l : Launch} {e : Env} {s : State} {m : MethodId} {args : Array Value} {below : List Frame} {meth : Method} {c : Code} {E : gE} (hC : CX p s m args meth c cX12_letters RX12 (some .int) E 7) {Q : Int32 → gS → Prop} {F : gS} {x1 : Int64} {x3 : Int32} {x4 : Int32} {x5 : Int32} (h : LP3 (wb_X12_letters_8 Q F x1) x3 x4 x5) : VV p l e rm_X12_letters s m args below meth c 0 0 (MQ below (va_Qi Q (gB E) (gA E)) args s 0 0 (gA E)) E 7 F 8 [(0, .ref (ad E 121)), (1, .long x1), (3, .int x3), (4, .int x4), (5, .int x5)] [] :=
  LP3_go (V := fun (x3 : Int32) (x4 : Int32) (x5 : Int32) => VV p l e rm_X12_letters s m args below meth c 0 0 (MQ below (va_Qi Q (gB E) (gA E)) args s 0 0 (gA E)) E 7 F 8 [(0, .ref (ad E 121)), (1, .long x1), (3, .int x3), (4, .int x4), (5, .int x5)] []) (fun K8 hK8 x3 x4 x5 h => jb_X12_letters_8 hC hK8 h) x3 x4 x5 h
set_option maxRecDepth 20000 in
set_option maxHeartbeats 4000000 in
theorem c_X12_letters (l : Launch) (E : gE) {x1 : Int64} {F : gS} {Q : Int32 → gS → Prop} (h : wp_X12_letters x1 F Q) : CtI l E yX12_letters cX12_letters 7 (some .int) rm_X12_letters [.ref (ad E 121), .long x1] F Q := by
  refine ct_of (by decide) (Nat.le_of_ble_eq_true rfl) (fun p e s m below meth c hC => ?_)
  generalize ([.ref (ad E 121), .long x1] : List Value).toArray = args at hC ⊢
  refine v_sub (lv' := [(0, .ref (ad E 121)), (1, .long x1)]) [0, 1] rfl ?_
  unfold wp_X12_letters at h
  refine v_iconst (pc := 0) (v := 0) hC dX12_letters_0 (by decide) ?_
  refine v_istore_n (pc := 1) (lv' := [(3, .int 0), (0, .ref (ad E 121)), (1, .long x1)]) hC dX12_letters_1 rfl (by decide) rfl ?_
  refine v_iconst (pc := 2) (v := 0) hC dX12_letters_2 (by decide) ?_
  refine v_istore (pc := 3) (lv' := [(4, .int 0), (3, .int 0), (0, .ref (ad E 121)), (1, .long x1)]) hC dX12_letters_3 (by decide) rfl ?_
  refine v_iconst (pc := 5) (v := 0) hC dX12_letters_5 (by decide) ?_
  refine v_istore (pc := 6) (lv' := [(5, .int 0), (4, .int 0), (3, .int 0), (0, .ref (ad E 121)), (1, .long x1)]) hC dX12_letters_6 (by decide) rfl ?_
  exact v_sub [3, 4, 2, 1, 0] rfl (jl_X12_letters_8 hC h)
def rm_X12_blank : Room := { frames := 0, cells := 0, slots := 0, locals := 0 }
def wp_X12_blank (F : gS) (Q : Int32 → gS → Prop) : Prop :=
  Nm (F 121 19) fun n1 =>
  Nm (upF F 121 19 0) fun F2 =>
  Q n1 F2
set_option maxRecDepth 20000 in
set_option maxHeartbeats 4000000 in
theorem c_X12_blank (l : Launch) (E : gE) {F : gS} {Q : Int32 → gS → Prop} (h : wp_X12_blank F Q) : CtI l E yX12_blank cX12_blank 2 (some .int) rm_X12_blank [.ref (ad E 121)] F Q := by
  refine ct_of (by decide) (Nat.le_of_ble_eq_true rfl) (fun p e s m below meth c hC => ?_)
  generalize ([.ref (ad E 121)] : List Value).toArray = args at hC ⊢
  refine v_sub (lv' := [(0, .ref (ad E 121))]) [0] rfl ?_
  unfold wp_X12_blank at h
  refine v_aload_n (pc := 0) hC dX12_blank_0 rfl 0 rfl ?_
  refine v_get (pc := 1) (v := .int (F 121 19)) hC fl_X12_98 kq_121 rfl dX12_blank_1 ?_
  refine v_nmi h (fun n1 h => ?_)
  refine v_istore_n (pc := 4) (lv' := [(1, .int n1), (0, .ref (ad E 121))]) hC dX12_blank_4 rfl (by decide) rfl ?_
  refine v_aload_n (pc := 5) hC dX12_blank_5 rfl 1 rfl ?_
  refine v_iconst (pc := 6) (v := 0) hC dX12_blank_6 (by decide) ?_
  refine v_puti (pc := 7) hC fp_X12_98 kq_121 (fs_10_19 E _ _ _) (fn_10_19 E _ _) dX12_blank_7 h (fun F2 h => ?_)
  refine v_iload_n (pc := 10) hC dX12_blank_10 rfl 0 rfl ?_
  exact v_iret (pc := 11) hC dX12_blank_11 h
def rm_X12_isDigit : Room := { frames := 1, cells := 0, slots := 0, locals := 22 }
def wp_X12_isDigit (x0 : Int32) (F : gS) (Q : Int32 → Prop) : Prop :=
  wp_X12_within x0 48 57 F fun r1 =>
  Q r1
set_option maxRecDepth 20000 in
set_option maxHeartbeats 4000000 in
theorem c_X12_isDigit (l : Launch) (E : gE) {x0 : Int32} {F : gS} {Q : Int32 → Prop} (h : wp_X12_isDigit x0 F Q) : CtI l E yX12_isDigit cX12_isDigit 1 (some .boolean) rm_X12_isDigit [.int x0] F (fun r G => (r = 0 ∨ r = 1) ∧ G = F ∧ Q r) := by
  refine ct_of (by decide) (Nat.le_of_ble_eq_true rfl) (fun p e s m below meth c hC => ?_)
  generalize ([.int x0] : List Value).toArray = args at hC ⊢
  refine v_sub (lv' := [(0, .int x0)]) [0] rfl ?_
  unfold wp_X12_isDigit at h
  refine v_iload_n (pc := 0) hC dX12_isDigit_0 rfl 0 rfl ?_
  refine v_bipush (pc := 1) (v := 48) hC dX12_isDigit_1 (by decide) ?_
  refine v_bipush (pc := 3) (v := 57) hC dX12_isDigit_3 (by decide) ?_
  refine v_cyp (pc := 5) (r_S (rest := []) hC ml_X12_102 ms_X12_within (c_X12_within l E h) ⟨rfl, rfl⟩ ⟨Nat.le_of_ble_eq_true rfl, Nat.le_of_ble_eq_true rfl⟩ rfl rfl (Nat.le_of_ble_eq_true rfl) ⟨Nat.zero_le _, Nat.zero_le _⟩ dX12_isDigit_5) (fun r1 b2 h => ?_)
  exact v_zret (pc := 8) hC dX12_isDigit_8 b2 ⟨b2, rfl, h⟩
def rm_X12_takePan : Room := { frames := 2, cells := 0, slots := 0, locals := 42 }
def wp_X12_takePan_157 (Q : Int32 → gS → Prop) (F : gS) (t0 : Int32) : Prop :=
  if t0 = 0 then
    ((t0 = 0 ∨ t0 = 1) ∧ Q t0 F)
  else
    (Nm (upF F 121 30 (F 121 31)) fun F10 =>
    Nm (upF F10 121 29 ((F10 121 29) + 1)) fun F11 =>
    Nm (upF F11 121 31 0) fun F12 =>
    Nm (upF F12 121 32 0) fun F13 =>
    (t0 = 0 ∨ t0 = 1) ∧ Q t0 F13)
def wp_X12_takePan_109 (Q : Int32 → gS → Prop) (F : gS) (x1 : Int32) : Prop :=
  if x1 = 47 then
    (if 3 ≤ (F 121 29) then
      (wp_X12_takePan_157 Q F 0)
    else
      (if (F 121 29) = 0 then
        (if (F 121 31) ≤ 1 then
          (wp_X12_takePan_157 Q F 0)
        else
          (wp_X12_takePan_157 Q F 1))
      else
        (if (F 121 31) = (F 121 30) then
          (wp_X12_takePan_157 Q F 1)
        else
          (wp_X12_takePan_157 Q F 0))))
  else
    (wp_X12_takePan_157 Q F 0)
def wp_X12_takePan_41 (Q : Int32 → gS → Prop) (F : gS) (x1 : Int32) (x2 : Int32) (t0 : Int32) (t1 : Int32) : Prop :=
  if t1 = t0 then
    (Q 0 F)
  else
    (vp_in x2 16 ∧ Nm (upF F 137 x2.toNatClampNeg (x1 - 48)) fun F6 =>
    vp_in x2 16 ∧ Nm (upF F6 138 x2.toNatClampNeg (vp_nar .boolean 0)) fun F7 =>
    Nm (upF F7 121 32 1) fun F8 =>
    Nm (upF F8 121 31 ((F8 121 31) + 1)) fun F9 =>
    Q 1 F9)
def wp_X12_takePan (x1 : Int32) (F : gS) (Q : Int32 → gS → Prop) : Prop :=
  Nm (((F 121 29) * (F 121 30)) + (F 121 31)) fun n1 =>
  wp_X12_isDigit x1 F fun r2 =>
  if r2 = 0 then
    (if x1 = 115 then
      (if (F 121 32) = 0 then
        (wp_X12_takePan_109 Q F x1)
      else
        (vp_in (n1 - 1) 16 ∧ Nm (upF F 138 (n1 - 1).toNatClampNeg (vp_nar .boolean 1)) fun F4 =>
        Nm (upF F4 121 32 0) fun F5 =>
        Q 1 F5))
    else
      (wp_X12_takePan_109 Q F x1))
  else
    (if (F 121 29) = 0 then
      (wp_X12_takePan_41 Q F x1 n1 4 (F 121 31))
    else
      (wp_X12_takePan_41 Q F x1 n1 (F 121 30) (F 121 31)))
set_option maxRecDepth 20000 in
set_option maxHeartbeats 4000000 in
theorem j_X12_takePan_157 {p : Program} {l : Launch} {e : Env} {s : State} {m : MethodId} {args : Array Value} {below : List Frame} {meth : Method} {c : Code} {E : gE} (hC : CX p s m args meth c cX12_takePan RX12 (some .boolean) E 4) {Q : Int32 → gS → Prop} {F : gS} {t0 : Int32} (h : wp_X12_takePan_157 Q F t0) : VV p l e rm_X12_takePan s m args below meth c 0 0 (MQ below (va_Qi (fun r G => (r = 0 ∨ r = 1) ∧ Q r G) (gB E) (gA E)) args s 0 0 (gA E)) E 4 F 157 [(0, .ref (ad E 121))] [.int t0] := by
  unfold wp_X12_takePan_157 at h
  refine v_istore_n (pc := 157) (lv' := [(3, .int t0), (0, .ref (ad E 121))]) hC dX12_takePan_157 rfl (by decide) rfl ?_
  refine v_iload_n (pc := 158) hC dX12_takePan_158 rfl 0 rfl ?_
  refine v_if_eq (pc := 159) (tgt := 190) hC dX12_takePan_159 (by decide) h (fun h => ?_) (fun h => ?_)
  · skip
    refine v_iload_n (pc := 190) hC dX12_takePan_190 rfl 0 rfl ?_
    exact v_zret (pc := 191) hC dX12_takePan_191 h.1 h
  · skip
    refine v_aload_n (pc := 162) hC dX12_takePan_162 rfl 1 rfl ?_
    refine v_aload_n (pc := 163) hC dX12_takePan_163 rfl 1 rfl ?_
    refine v_get (pc := 164) (v := .int (F 121 31)) hC fl_X12_112 kq_121 rfl dX12_takePan_164 ?_
    refine v_puti (pc := 167) hC fp_X12_109 kq_121 (fs_10_30 E _ _ _) (fn_10_30 E _ _) dX12_takePan_167 h (fun F10 h => ?_)
    refine v_aload_n (pc := 170) hC dX12_takePan_170 rfl 1 rfl ?_
    refine v_dup (pc := 171) hC dX12_takePan_171 rfl ?_
    refine v_get (pc := 172) (v := .int (F10 121 29)) hC fl_X12_106 kq_121 rfl dX12_takePan_172 ?_
    refine v_iconst (pc := 175) (v := 1) hC dX12_takePan_175 (by decide) ?_
    refine v_iadd (pc := 176) hC dX12_takePan_176 ?_
    refine v_puti (pc := 177) hC fp_X12_106 kq_121 (fs_10_29 E _ _ _) (fn_10_29 E _ _) dX12_takePan_177 h (fun F11 h => ?_)
    refine v_aload_n (pc := 180) hC dX12_takePan_180 rfl 1 rfl ?_
    refine v_iconst (pc := 181) (v := 0) hC dX12_takePan_181 (by decide) ?_
    refine v_puti (pc := 182) hC fp_X12_112 kq_121 (fs_10_31 E _ _ _) (fn_10_31 E _ _) dX12_takePan_182 h (fun F12 h => ?_)
    refine v_aload_n (pc := 185) hC dX12_takePan_185 rfl 1 rfl ?_
    refine v_iconst (pc := 186) (v := 0) hC dX12_takePan_186 (by decide) ?_
    refine v_putz (pc := 187) hC fp_X12_119 kq_121 (fs_10_32 E _ _ _) (fn_10_32 E _ _) dX12_takePan_187 (Or.inl rfl) h (fun F13 h => ?_)
    refine v_iload_n (pc := 190) hC dX12_takePan_190 rfl 0 rfl ?_
    exact v_zret (pc := 191) hC dX12_takePan_191 h.1 h
set_option maxRecDepth 20000 in
set_option maxHeartbeats 4000000 in
theorem j_X12_takePan_109 {p : Program} {l : Launch} {e : Env} {s : State} {m : MethodId} {args : Array Value} {below : List Frame} {meth : Method} {c : Code} {E : gE} (hC : CX p s m args meth c cX12_takePan RX12 (some .boolean) E 4) {Q : Int32 → gS → Prop} {F : gS} {x1 : Int32} (h : wp_X12_takePan_109 Q F x1) : VV p l e rm_X12_takePan s m args below meth c 0 0 (MQ below (va_Qi (fun r G => (r = 0 ∨ r = 1) ∧ Q r G) (gB E) (gA E)) args s 0 0 (gA E)) E 4 F 109 [(0, .ref (ad E 121)), (1, .int x1)] [] := by
  unfold wp_X12_takePan_109 at h
  refine v_iload_n (pc := 109) hC dX12_takePan_109 rfl 1 rfl ?_
  refine v_bipush (pc := 110) (v := 47) hC dX12_takePan_110 (by decide) ?_
  refine v_ic_ne (pc := 112) (tgt := 156) hC dX12_takePan_112 (by decide) h (fun h => ?_) (fun h => ?_)
  · skip
    refine v_iconst (pc := 156) (v := 0) hC dX12_takePan_156 (by decide) ?_
    exact v_sub [0] rfl (j_X12_takePan_157 hC h)
  · skip
    refine v_aload_n (pc := 115) hC dX12_takePan_115 rfl 0 rfl ?_
    refine v_get (pc := 116) (v := .int (F 121 29)) hC fl_X12_106 kq_121 rfl dX12_takePan_116 ?_
    refine v_iconst (pc := 119) (v := 3) hC dX12_takePan_119 (by decide) ?_
    refine v_ic_ge (pc := 120) (tgt := 156) hC dX12_takePan_120 (by decide) h (fun h => ?_) (fun h => ?_)
    · skip
      refine v_iconst (pc := 156) (v := 0) hC dX12_takePan_156 (by decide) ?_
      exact v_sub [0] rfl (j_X12_takePan_157 hC h)
    · skip
      refine v_aload_n (pc := 123) hC dX12_takePan_123 rfl 0 rfl ?_
      refine v_get (pc := 124) (v := .int (F 121 29)) hC fl_X12_106 kq_121 rfl dX12_takePan_124 ?_
      refine v_if_ne (pc := 127) (tgt := 141) hC dX12_takePan_127 (by decide) h (fun h => ?_) (fun h => ?_)
      · skip
        refine v_aload_n (pc := 141) hC dX12_takePan_141 rfl 0 rfl ?_
        refine v_get (pc := 142) (v := .int (F 121 31)) hC fl_X12_112 kq_121 rfl dX12_takePan_142 ?_
        refine v_aload_n (pc := 145) hC dX12_takePan_145 rfl 0 rfl ?_
        refine v_get (pc := 146) (v := .int (F 121 30)) hC fl_X12_109 kq_121 rfl dX12_takePan_146 ?_
        refine v_ic_ne (pc := 149) (tgt := 156) hC dX12_takePan_149 (by decide) h (fun h => ?_) (fun h => ?_)
        · skip
          refine v_iconst (pc := 156) (v := 0) hC dX12_takePan_156 (by decide) ?_
          exact v_sub [0] rfl (j_X12_takePan_157 hC h)
        · skip
          refine v_iconst (pc := 152) (v := 1) hC dX12_takePan_152 (by decide) ?_
          refine v_goto (pc := 153) (tgt := 157) hC dX12_takePan_153 (by decide) ?_
          exact v_sub [0] rfl (j_X12_takePan_157 hC h)
      · skip
        refine v_aload_n (pc := 130) hC dX12_takePan_130 rfl 0 rfl ?_
        refine v_get (pc := 131) (v := .int (F 121 31)) hC fl_X12_112 kq_121 rfl dX12_takePan_131 ?_
        refine v_iconst (pc := 134) (v := 1) hC dX12_takePan_134 (by decide) ?_
        refine v_ic_le (pc := 135) (tgt := 156) hC dX12_takePan_135 (by decide) h (fun h => ?_) (fun h => ?_)
        · skip
          refine v_iconst (pc := 156) (v := 0) hC dX12_takePan_156 (by decide) ?_
          exact v_sub [0] rfl (j_X12_takePan_157 hC h)
        · skip
          refine v_goto (pc := 138) (tgt := 152) hC dX12_takePan_138 (by decide) ?_
          refine v_iconst (pc := 152) (v := 1) hC dX12_takePan_152 (by decide) ?_
          refine v_goto (pc := 153) (tgt := 157) hC dX12_takePan_153 (by decide) ?_
          exact v_sub [0] rfl (j_X12_takePan_157 hC h)
set_option maxRecDepth 20000 in
set_option maxHeartbeats 4000000 in
theorem j_X12_takePan_41 {p : Program} {l : Launch} {e : Env} {s : State} {m : MethodId} {args : Array Value} {below : List Frame} {meth : Method} {c : Code} {E : gE} (hC : CX p s m args meth c cX12_takePan RX12 (some .boolean) E 4) {Q : Int32 → gS → Prop} {F : gS} {x1 : Int32} {x2 : Int32} {t0 : Int32} {t1 : Int32} (h : wp_X12_takePan_41 Q F x1 x2 t0 t1) : VV p l e rm_X12_takePan s m args below meth c 0 0 (MQ below (va_Qi (fun r G => (r = 0 ∨ r = 1) ∧ Q r G) (gB E) (gA E)) args s 0 0 (gA E)) E 4 F 41 [(0, .ref (ad E 121)), (1, .int x1), (2, .int x2)] [.int t0, .int t1] := by
  unfold wp_X12_takePan_41 at h
  refine v_ic_ne (pc := 41) (tgt := 46) hC dX12_takePan_41 (by decide) h (fun h => ?_) (fun h => ?_)
  · skip
    refine v_aload_n (pc := 46) hC dX12_takePan_46 rfl 0 rfl ?_
    refine v_get (pc := 47) (v := .ref (ad E 137)) hC fl_X12_57 kq_121 rfl dX12_takePan_47 ?_
    refine v_iload_n (pc := 50) hC dX12_takePan_50 rfl 2 rfl ?_
    refine v_iload_n (pc := 51) hC dX12_takePan_51 rfl 1 rfl ?_
    refine v_bipush (pc := 52) (v := 48) hC dX12_takePan_52 (by decide) ?_
    refine v_isub (pc := 54) hC dX12_takePan_54 ?_
    refine v_iast (pc := 55) (n := 16) hC kq_137 (by decide) dX12_takePan_55 h (fun F6 h => ?_)
    refine v_aload_n (pc := 56) hC dX12_takePan_56 rfl 0 rfl ?_
    refine v_get (pc := 57) (v := .ref (ad E 138)) hC fl_X12_60 kq_121 rfl dX12_takePan_57 ?_
    refine v_iload_n (pc := 60) hC dX12_takePan_60 rfl 2 rfl ?_
    refine v_iconst (pc := 61) (v := 0) hC dX12_takePan_61 (by decide) ?_
    refine v_zast (pc := 62) (n := 16) hC kq_138 (by decide) dX12_takePan_62 h (fun F7 h => ?_)
    refine v_aload_n (pc := 63) hC dX12_takePan_63 rfl 0 rfl ?_
    refine v_iconst (pc := 64) (v := 1) hC dX12_takePan_64 (by decide) ?_
    refine v_putz (pc := 65) hC fp_X12_119 kq_121 (fs_10_32 E _ _ _) (fn_10_32 E _ _) dX12_takePan_65 (Or.inr rfl) h (fun F8 h => ?_)
    refine v_aload_n (pc := 68) hC dX12_takePan_68 rfl 0 rfl ?_
    refine v_dup (pc := 69) hC dX12_takePan_69 rfl ?_
    refine v_get (pc := 70) (v := .int (F8 121 31)) hC fl_X12_112 kq_121 rfl dX12_takePan_70 ?_
    refine v_iconst (pc := 73) (v := 1) hC dX12_takePan_73 (by decide) ?_
    refine v_iadd (pc := 74) hC dX12_takePan_74 ?_
    refine v_puti (pc := 75) hC fp_X12_112 kq_121 (fs_10_31 E _ _ _) (fn_10_31 E _ _) dX12_takePan_75 h (fun F9 h => ?_)
    refine v_iconst (pc := 78) (v := 1) hC dX12_takePan_78 (by decide) ?_
    exact v_zret (pc := 79) hC dX12_takePan_79 (Or.inr rfl) ⟨Or.inr rfl, h⟩
  · skip
    refine v_iconst (pc := 44) (v := 0) hC dX12_takePan_44 (by decide) ?_
    exact v_zret (pc := 45) hC dX12_takePan_45 (Or.inl rfl) ⟨Or.inl rfl, h⟩
set_option maxRecDepth 20000 in
set_option maxHeartbeats 4000000 in
theorem c_X12_takePan (l : Launch) (E : gE) {x1 : Int32} {F : gS} {Q : Int32 → gS → Prop} (h : wp_X12_takePan x1 F Q) : CtI l E yX12_takePan cX12_takePan 4 (some .boolean) rm_X12_takePan [.ref (ad E 121), .int x1] F (fun r G => (r = 0 ∨ r = 1) ∧ Q r G) := by
  refine ct_of (by decide) (Nat.le_of_ble_eq_true rfl) (fun p e s m below meth c hC => ?_)
  generalize ([.ref (ad E 121), .int x1] : List Value).toArray = args at hC ⊢
  refine v_sub (lv' := [(0, .ref (ad E 121)), (1, .int x1)]) [0, 1] rfl ?_
  unfold wp_X12_takePan at h
  refine v_aload_n (pc := 0) hC dX12_takePan_0 rfl 0 rfl ?_
  refine v_get (pc := 1) (v := .int (F 121 29)) hC fl_X12_106 kq_121 rfl dX12_takePan_1 ?_
  refine v_aload_n (pc := 4) hC dX12_takePan_4 rfl 0 rfl ?_
  refine v_get (pc := 5) (v := .int (F 121 30)) hC fl_X12_109 kq_121 rfl dX12_takePan_5 ?_
  refine v_imul (pc := 8) hC dX12_takePan_8 ?_
  refine v_aload_n (pc := 9) hC dX12_takePan_9 rfl 0 rfl ?_
  refine v_get (pc := 10) (v := .int (F 121 31)) hC fl_X12_112 kq_121 rfl dX12_takePan_10 ?_
  refine v_iadd (pc := 13) hC dX12_takePan_13 ?_
  refine v_nmi h (fun n1 h => ?_)
  refine v_istore_n (pc := 14) (lv' := [(2, .int n1), (0, .ref (ad E 121)), (1, .int x1)]) hC dX12_takePan_14 rfl (by decide) rfl ?_
  refine v_iload_n (pc := 15) hC dX12_takePan_15 rfl 2 rfl ?_
  refine v_cyp (pc := 16) (r_S (rest := []) hC ml_X12_115 ms_X12_isDigit (c_X12_isDigit l E h) ⟨rfl, rfl⟩ ⟨Nat.le_of_ble_eq_true rfl, Nat.le_of_ble_eq_true rfl⟩ rfl rfl (Nat.le_of_ble_eq_true rfl) ⟨Nat.zero_le _, Nat.zero_le _⟩ dX12_takePan_16) (fun r2 b3 h => ?_)
  refine v_if_eq (pc := 19) (tgt := 80) hC dX12_takePan_19 (by decide) h (fun h => ?_) (fun h => ?_)
  · skip
    refine v_iload_n (pc := 80) hC dX12_takePan_80 rfl 2 rfl ?_
    refine v_bipush (pc := 81) (v := 115) hC dX12_takePan_81 (by decide) ?_
    refine v_ic_ne (pc := 83) (tgt := 109) hC dX12_takePan_83 (by decide) h (fun h => ?_) (fun h => ?_)
    · skip
      exact v_sub [1, 2] rfl (j_X12_takePan_109 hC h)
    · skip
      refine v_aload_n (pc := 86) hC dX12_takePan_86 rfl 1 rfl ?_
      refine v_get (pc := 87) (v := .int (F 121 32)) hC fl_X12_119 kq_121 rfl dX12_takePan_87 ?_
      refine v_if_eq (pc := 90) (tgt := 109) hC dX12_takePan_90 (by decide) h (fun h => ?_) (fun h => ?_)
      · skip
        exact v_sub [1, 2] rfl (j_X12_takePan_109 hC h)
      · skip
        refine v_aload_n (pc := 93) hC dX12_takePan_93 rfl 1 rfl ?_
        refine v_get (pc := 94) (v := .ref (ad E 138)) hC fl_X12_60 kq_121 rfl dX12_takePan_94 ?_
        refine v_iload_n (pc := 97) hC dX12_takePan_97 rfl 0 rfl ?_
        refine v_iconst (pc := 98) (v := 1) hC dX12_takePan_98 (by decide) ?_
        refine v_isub (pc := 99) hC dX12_takePan_99 ?_
        refine v_iconst (pc := 100) (v := 1) hC dX12_takePan_100 (by decide) ?_
        refine v_zast (pc := 101) (n := 16) hC kq_138 (by decide) dX12_takePan_101 h (fun F4 h => ?_)
        refine v_aload_n (pc := 102) hC dX12_takePan_102 rfl 1 rfl ?_
        refine v_iconst (pc := 103) (v := 0) hC dX12_takePan_103 (by decide) ?_
        refine v_putz (pc := 104) hC fp_X12_119 kq_121 (fs_10_32 E _ _ _) (fn_10_32 E _ _) dX12_takePan_104 (Or.inl rfl) h (fun F5 h => ?_)
        refine v_iconst (pc := 107) (v := 1) hC dX12_takePan_107 (by decide) ?_
        exact v_zret (pc := 108) hC dX12_takePan_108 (Or.inr rfl) ⟨Or.inr rfl, h⟩
  · skip
    refine v_aload_n (pc := 22) hC dX12_takePan_22 rfl 1 rfl ?_
    refine v_get (pc := 23) (v := .int (F 121 31)) hC fl_X12_112 kq_121 rfl dX12_takePan_23 ?_
    refine v_aload_n (pc := 26) hC dX12_takePan_26 rfl 1 rfl ?_
    refine v_get (pc := 27) (v := .int (F 121 29)) hC fl_X12_106 kq_121 rfl dX12_takePan_27 ?_
    refine v_if_ne (pc := 30) (tgt := 37) hC dX12_takePan_30 (by decide) h (fun h => ?_) (fun h => ?_)
    · skip
      refine v_aload_n (pc := 37) hC dX12_takePan_37 rfl 1 rfl ?_
      refine v_get (pc := 38) (v := .int (F 121 30)) hC fl_X12_109 kq_121 rfl dX12_takePan_38 ?_
      exact v_sub [1, 2, 0] rfl (j_X12_takePan_41 hC h)
    · skip
      refine v_iconst (pc := 33) (v := 4) hC dX12_takePan_33 (by decide) ?_
      refine v_goto (pc := 34) (tgt := 41) hC dX12_takePan_34 (by decide) ?_
      exact v_sub [1, 2, 0] rfl (j_X12_takePan_41 hC h)
def rm_X12_readPan : Room := { frames := 3, cells := 0, slots := 0, locals := 65 }
def wp_X12_readPan_49 (Q : gS → Prop) (F : gS) (x1 : Int32) : Prop :=
  Nm (upF F 121 27 x1) fun F9 =>
  if x1 = (F9 121 19) then
    (if (F9 121 29) ≤ 0 then
      (Nm (upF F9 121 28 0) fun F11 =>
      Q F11)
    else
      (if (F9 121 31) = (F9 121 30) then
        (Nm (upF F9 121 28 1) fun F13 =>
        Q F13)
      else
        (Nm (upF F9 121 28 0) fun F12 =>
        Q F12)))
  else
    (Nm (upF F9 121 28 0) fun F10 =>
    Q F10)
def wb_X12_readPan_22 (Q : gS → Prop) (K22 : gS → Int32 → Prop) (F : gS) (x1 : Int32) : Prop :=
  if (F 121 19) ≤ x1 then
    (wp_X12_readPan_49 Q F x1)
  else
    (vp_in x1 40 ∧
    wp_X12_takePan (F 134 x1.toNatClampNeg) F fun r5 F6 =>
    if r5 = 0 then
      (wp_X12_readPan_49 Q F6 x1)
    else
      (Nm (x1 + 1) fun n8 =>
      K22 F6 n8))
def wp_X12_readPan (F : gS) (Q : gS → Prop) : Prop :=
  Nm (upF F 121 29 0) fun F1 =>
  Nm (upF F1 121 30 0) fun F2 =>
  Nm (upF F2 121 31 0) fun F3 =>
  Nm (upF F3 121 32 0) fun F4 =>
  LP2 (wb_X12_readPan_22 Q) F4 0
set_option maxRecDepth 20000 in
set_option maxHeartbeats 4000000 in
theorem j_X12_readPan_49 {p : Program} {l : Launch} {e : Env} {s : State} {m : MethodId} {args : Array Value} {below : List Frame} {meth : Method} {c : Code} {E : gE} (hC : CX p s m args meth c cX12_readPan RX12 none E 2) {Q : gS → Prop} {F : gS} {x1 : Int32} (h : wp_X12_readPan_49 Q F x1) : VV p l e rm_X12_readPan s m args below meth c 0 0 (MQ below (va_Qv Q (gB E) (gA E)) args s 0 0 (gA E)) E 2 F 49 [(0, .ref (ad E 121)), (1, .int x1)] [] := by
  unfold wp_X12_readPan_49 at h
  refine v_aload_n (pc := 49) hC dX12_readPan_49 rfl 0 rfl ?_
  refine v_iload_n (pc := 50) hC dX12_readPan_50 rfl 1 rfl ?_
  refine v_puti (pc := 51) hC fp_X12_126 kq_121 (fs_10_27 E _ _ _) (fn_10_27 E _ _) dX12_readPan_51 h (fun F9 h => ?_)
  refine v_aload_n (pc := 54) hC dX12_readPan_54 rfl 0 rfl ?_
  refine v_iload_n (pc := 55) hC dX12_readPan_55 rfl 1 rfl ?_
  refine v_aload_n (pc := 56) hC dX12_readPan_56 rfl 0 rfl ?_
  refine v_get (pc := 57) (v := .int (F9 121 19)) hC fl_X12_98 kq_121 rfl dX12_readPan_57 ?_
  refine v_ic_ne (pc := 60) (tgt := 85) hC dX12_readPan_60 (by decide) h (fun h => ?_) (fun h => ?_)
  · skip
    refine v_iconst (pc := 85) (v := 0) hC dX12_readPan_85 (by decide) ?_
    refine v_putz (pc := 86) hC fp_X12_129 kq_121 (fs_10_28 E _ _ _) (fn_10_28 E _ _) dX12_readPan_86 (Or.inl rfl) h (fun F10 h => ?_)
    exact v_vret (pc := 89) hC dX12_readPan_89 h
  · skip
    refine v_aload_n (pc := 63) hC dX12_readPan_63 rfl 0 rfl ?_
    refine v_get (pc := 64) (v := .int (F9 121 29)) hC fl_X12_106 kq_121 rfl dX12_readPan_64 ?_
    refine v_if_le (pc := 67) (tgt := 85) hC dX12_readPan_67 (by decide) h (fun h => ?_) (fun h => ?_)
    · skip
      refine v_iconst (pc := 85) (v := 0) hC dX12_readPan_85 (by decide) ?_
      refine v_putz (pc := 86) hC fp_X12_129 kq_121 (fs_10_28 E _ _ _) (fn_10_28 E _ _) dX12_readPan_86 (Or.inl rfl) h (fun F11 h => ?_)
      exact v_vret (pc := 89) hC dX12_readPan_89 h
    · skip
      refine v_aload_n (pc := 70) hC dX12_readPan_70 rfl 0 rfl ?_
      refine v_get (pc := 71) (v := .int (F9 121 31)) hC fl_X12_112 kq_121 rfl dX12_readPan_71 ?_
      refine v_aload_n (pc := 74) hC dX12_readPan_74 rfl 0 rfl ?_
      refine v_get (pc := 75) (v := .int (F9 121 30)) hC fl_X12_109 kq_121 rfl dX12_readPan_75 ?_
      refine v_ic_ne (pc := 78) (tgt := 85) hC dX12_readPan_78 (by decide) h (fun h => ?_) (fun h => ?_)
      · skip
        refine v_iconst (pc := 85) (v := 0) hC dX12_readPan_85 (by decide) ?_
        refine v_putz (pc := 86) hC fp_X12_129 kq_121 (fs_10_28 E _ _ _) (fn_10_28 E _ _) dX12_readPan_86 (Or.inl rfl) h (fun F12 h => ?_)
        exact v_vret (pc := 89) hC dX12_readPan_89 h
      · skip
        refine v_iconst (pc := 81) (v := 1) hC dX12_readPan_81 (by decide) ?_
        refine v_goto (pc := 82) (tgt := 86) hC dX12_readPan_82 (by decide) ?_
        refine v_putz (pc := 86) hC fp_X12_129 kq_121 (fs_10_28 E _ _ _) (fn_10_28 E _ _) dX12_readPan_86 (Or.inr rfl) h (fun F13 h => ?_)
        exact v_vret (pc := 89) hC dX12_readPan_89 h
set_option maxRecDepth 20000 in
set_option maxHeartbeats 4000000 in
theorem jb_X12_readPan_22 {p : Program} {l : Launch} {e : Env} {s : State} {m : MethodId} {args : Array Value} {below : List Frame} {meth : Method} {c : Code} {E : gE} (hC : CX p s m args meth c cX12_readPan RX12 none E 2) {Q : gS → Prop} {F : gS} {x1 : Int32} {K22 : gS → Int32 → Prop} (hK22 : ∀ (F : gS) (x1 : Int32), K22 F x1 → VV p l e rm_X12_readPan s m args below meth c 0 0 (MQ below (va_Qv Q (gB E) (gA E)) args s 0 0 (gA E)) E 2 F 22 [(0, .ref (ad E 121)), (1, .int x1)] []) (h : wb_X12_readPan_22 Q K22 F x1) : VV p l e rm_X12_readPan s m args below meth c 0 0 (MQ below (va_Qv Q (gB E) (gA E)) args s 0 0 (gA E)) E 2 F 22 [(0, .ref (ad E 121)), (1, .int x1)] [] := by
  unfold wb_X12_readPan_22 at h
  refine v_iload_n (pc := 22) hC dX12_readPan_22 rfl 1 rfl ?_
  refine v_aload_n (pc := 23) hC dX12_readPan_23 rfl 0 rfl ?_
  refine v_get (pc := 24) (v := .int (F 121 19)) hC fl_X12_98 kq_121 rfl dX12_readPan_24 ?_
  refine v_ic_ge (pc := 27) (tgt := 49) hC dX12_readPan_27 (by decide) h (fun h => ?_) (fun h => ?_)
  · skip
    exact v_sub [0, 1] rfl (j_X12_readPan_49 hC h)
  · skip
    refine v_aload_n (pc := 30) hC dX12_readPan_30 rfl 0 rfl ?_
    refine v_aload_n (pc := 31) hC dX12_readPan_31 rfl 0 rfl ?_
    refine v_get (pc := 32) (v := .ref (ad E 134)) hC fl_X12_47 kq_121 rfl dX12_readPan_32 ?_
    refine v_iload_n (pc := 35) hC dX12_readPan_35 rfl 1 rfl ?_
    refine v_bald (pc := 36) (n := 40) hC kq_134 (by decide) dX12_readPan_36 h (fun h => ?_)
    refine v_ci (pc := 37) (r_V (rest := []) hC ml_X12_123 mv_X12_takePan (c_X12_takePan l E h) ⟨rfl, rfl⟩ ⟨Nat.le_of_ble_eq_true rfl, Nat.le_of_ble_eq_true rfl⟩ kq_121 rfl (by decide) rfl rfl (Nat.le_of_ble_eq_true rfl) ⟨Nat.zero_le _, Nat.zero_le _⟩ dX12_readPan_37) (fun r5 F6 h => ?_)
    obtain ⟨b7, h⟩ := h
    refine v_if_eq (pc := 40) (tgt := 49) hC dX12_readPan_40 (by decide) h (fun h => ?_) (fun h => ?_)
    · skip
      exact v_sub [0, 1] rfl (j_X12_readPan_49 hC h)
    · skip
      refine v_iinc (pc := 43) (v := 1) hC (fun z => [(1, .int z), (0, .ref (ad E 121))]) dX12_readPan_43 1 rfl (by decide) (by decide) (fun _ => rfl) h (fun n8 h => ?_)
      refine v_goto (pc := 46) (tgt := 22) hC dX12_readPan_46 (by decide) ?_
      exact v_sub [1, 0] rfl (hK22 _ _ h)
set_option maxRecDepth 20000 in
set_option maxHeartbeats 4000000 in
theorem jl_X12_readPan_22 {p : Program} {l : Launch} {e : Env} {s : State} {m : MethodId} {args : Array Value} {below : List Frame} {meth : Method} {c : Code} {E : gE} (hC : CX p s m args meth c cX12_readPan RX12 none E 2) {Q : gS → Prop} {F : gS} {x1 : Int32} (h : LP2 (wb_X12_readPan_22 Q) F x1) : VV p l e rm_X12_readPan s m args below meth c 0 0 (MQ below (va_Qv Q (gB E) (gA E)) args s 0 0 (gA E)) E 2 F 22 [(0, .ref (ad E 121)), (1, .int x1)] [] :=
  LP2_go (V := fun (F : gS) (x1 : Int32) => VV p l e rm_X12_readPan s m args below meth c 0 0 (MQ below (va_Qv Q (gB E) (gA E)) args s 0 0 (gA E)) E 2 F 22 [(0, .ref (ad E 121)), (1, .int x1)] []) (fun K22 hK22 F x1 h => jb_X12_readPan_22 hC hK22 h) F x1 h
set_option maxRecDepth 20000 in
set_option maxHeartbeats 4000000 in
theorem c_X12_readPan (l : Launch) (E : gE) {F : gS} {Q : gS → Prop} (h : wp_X12_readPan F Q) : CtV l E yX12_readPan cX12_readPan 2 none rm_X12_readPan [.ref (ad E 121)] F Q := by
  refine ct_of (by decide) (Nat.le_of_ble_eq_true rfl) (fun p e s m below meth c hC => ?_)
  generalize ([.ref (ad E 121)] : List Value).toArray = args at hC ⊢
  refine v_sub (lv' := [(0, .ref (ad E 121))]) [0] rfl ?_
  unfold wp_X12_readPan at h
  refine v_aload_n (pc := 0) hC dX12_readPan_0 rfl 0 rfl ?_
  refine v_iconst (pc := 1) (v := 0) hC dX12_readPan_1 (by decide) ?_
  refine v_puti (pc := 2) hC fp_X12_106 kq_121 (fs_10_29 E _ _ _) (fn_10_29 E _ _) dX12_readPan_2 h (fun F1 h => ?_)
  refine v_aload_n (pc := 5) hC dX12_readPan_5 rfl 0 rfl ?_
  refine v_iconst (pc := 6) (v := 0) hC dX12_readPan_6 (by decide) ?_
  refine v_puti (pc := 7) hC fp_X12_109 kq_121 (fs_10_30 E _ _ _) (fn_10_30 E _ _) dX12_readPan_7 h (fun F2 h => ?_)
  refine v_aload_n (pc := 10) hC dX12_readPan_10 rfl 0 rfl ?_
  refine v_iconst (pc := 11) (v := 0) hC dX12_readPan_11 (by decide) ?_
  refine v_puti (pc := 12) hC fp_X12_112 kq_121 (fs_10_31 E _ _ _) (fn_10_31 E _ _) dX12_readPan_12 h (fun F3 h => ?_)
  refine v_aload_n (pc := 15) hC dX12_readPan_15 rfl 0 rfl ?_
  refine v_iconst (pc := 16) (v := 0) hC dX12_readPan_16 (by decide) ?_
  refine v_putz (pc := 17) hC fp_X12_119 kq_121 (fs_10_32 E _ _ _) (fn_10_32 E _ _) dX12_readPan_17 (Or.inl rfl) h (fun F4 h => ?_)
  refine v_iconst (pc := 20) (v := 0) hC dX12_readPan_20 (by decide) ?_
  refine v_istore_n (pc := 21) (lv' := [(1, .int 0), (0, .ref (ad E 121))]) hC dX12_readPan_21 rfl (by decide) rfl ?_
  exact v_sub [1, 0] rfl (jl_X12_readPan_22 hC h)
def rm_X12_swingBy : Room := { frames := 0, cells := 0, slots := 0, locals := 0 }
def wp_X12_swingBy (x0 : Int32) (F : gS) (Q : Int32 → Prop) : Prop :=
  if x0 = 110 then
    (Q 0)
  else
    (if x0 = 101 then
      (Q 1)
    else
      (if x0 = 115 then
        (Q 2)
      else
        (if x0 = 119 then
          (Q 3)
        else
          (Q (-1)))))
set_option maxRecDepth 20000 in
set_option maxHeartbeats 4000000 in
theorem c_X12_swingBy (l : Launch) (E : gE) {x0 : Int32} {F : gS} {Q : Int32 → Prop} (h : wp_X12_swingBy x0 F Q) : CtI l E yX12_swingBy cX12_swingBy 1 (some .int) rm_X12_swingBy [.int x0] F (fun r G => G = F ∧ Q r) := by
  refine ct_of (by decide) (Nat.le_of_ble_eq_true rfl) (fun p e s m below meth c hC => ?_)
  generalize ([.int x0] : List Value).toArray = args at hC ⊢
  refine v_sub (lv' := [(0, .int x0)]) [0] rfl ?_
  unfold wp_X12_swingBy at h
  refine v_iload_n (pc := 0) hC dX12_swingBy_0 rfl 0 rfl ?_
  refine v_bipush (pc := 1) (v := 110) hC dX12_swingBy_1 (by decide) ?_
  refine v_ic_ne (pc := 3) (tgt := 10) hC dX12_swingBy_3 (by decide) h (fun h => ?_) (fun h => ?_)
  · skip
    refine v_iload_n (pc := 10) hC dX12_swingBy_10 rfl 0 rfl ?_
    refine v_bipush (pc := 11) (v := 101) hC dX12_swingBy_11 (by decide) ?_
    refine v_ic_ne (pc := 13) (tgt := 20) hC dX12_swingBy_13 (by decide) h (fun h => ?_) (fun h => ?_)
    · skip
      refine v_iload_n (pc := 20) hC dX12_swingBy_20 rfl 0 rfl ?_
      refine v_bipush (pc := 21) (v := 115) hC dX12_swingBy_21 (by decide) ?_
      refine v_ic_ne (pc := 23) (tgt := 30) hC dX12_swingBy_23 (by decide) h (fun h => ?_) (fun h => ?_)
      · skip
        refine v_iload_n (pc := 30) hC dX12_swingBy_30 rfl 0 rfl ?_
        refine v_bipush (pc := 31) (v := 119) hC dX12_swingBy_31 (by decide) ?_
        refine v_ic_ne (pc := 33) (tgt := 40) hC dX12_swingBy_33 (by decide) h (fun h => ?_) (fun h => ?_)
        · skip
          refine v_iconst (pc := 40) (v := (-1)) hC dX12_swingBy_40 (by decide) ?_
          exact v_iret (pc := 41) hC dX12_swingBy_41 ⟨rfl, h⟩
        · skip
          refine v_iconst (pc := 36) (v := 3) hC dX12_swingBy_36 (by decide) ?_
          refine v_goto (pc := 37) (tgt := 41) hC dX12_swingBy_37 (by decide) ?_
          exact v_iret (pc := 41) hC dX12_swingBy_41 ⟨rfl, h⟩
      · skip
        refine v_iconst (pc := 26) (v := 2) hC dX12_swingBy_26 (by decide) ?_
        refine v_goto (pc := 27) (tgt := 41) hC dX12_swingBy_27 (by decide) ?_
        exact v_iret (pc := 41) hC dX12_swingBy_41 ⟨rfl, h⟩
    · skip
      refine v_iconst (pc := 16) (v := 1) hC dX12_swingBy_16 (by decide) ?_
      refine v_goto (pc := 17) (tgt := 41) hC dX12_swingBy_17 (by decide) ?_
      exact v_iret (pc := 41) hC dX12_swingBy_41 ⟨rfl, h⟩
  · skip
    refine v_iconst (pc := 6) (v := 0) hC dX12_swingBy_6 (by decide) ?_
    refine v_goto (pc := 7) (tgt := 41) hC dX12_swingBy_7 (by decide) ?_
    exact v_iret (pc := 41) hC dX12_swingBy_41 ⟨rfl, h⟩
def rm_X12_number : Room := { frames := 0, cells := 0, slots := 0, locals := 0 }
def wp_X12_number (x1 : Int32) (F : gS) (Q : Int32 → Prop) : Prop :=
  if x1 = 0 then
    (Q (F 121 36))
  else
    (if x1 = 1 then
      (Q (F 121 37))
    else
      (Q (F 121 38)))
set_option maxRecDepth 20000 in
set_option maxHeartbeats 4000000 in
theorem c_X12_number (l : Launch) (E : gE) {x1 : Int32} {F : gS} {Q : Int32 → Prop} (h : wp_X12_number x1 F Q) : CtI l E yX12_number cX12_number 2 (some .int) rm_X12_number [.ref (ad E 121), .int x1] F (fun r G => G = F ∧ Q r) := by
  refine ct_of (by decide) (Nat.le_of_ble_eq_true rfl) (fun p e s m below meth c hC => ?_)
  generalize ([.ref (ad E 121), .int x1] : List Value).toArray = args at hC ⊢
  refine v_sub (lv' := [(0, .ref (ad E 121)), (1, .int x1)]) [0, 1] rfl ?_
  unfold wp_X12_number at h
  refine v_iload_n (pc := 0) hC dX12_number_0 rfl 1 rfl ?_
  refine v_if_ne (pc := 1) (tgt := 11) hC dX12_number_1 (by decide) h (fun h => ?_) (fun h => ?_)
  · skip
    refine v_iload_n (pc := 11) hC dX12_number_11 rfl 1 rfl ?_
    refine v_iconst (pc := 12) (v := 1) hC dX12_number_12 (by decide) ?_
    refine v_ic_ne (pc := 13) (tgt := 23) hC dX12_number_13 (by decide) h (fun h => ?_) (fun h => ?_)
    · skip
      refine v_aload_n (pc := 23) hC dX12_number_23 rfl 0 rfl ?_
      refine v_get (pc := 24) (v := .int (F 121 38)) hC fl_X12_138 kq_121 rfl dX12_number_24 ?_
      exact v_iret (pc := 27) hC dX12_number_27 ⟨rfl, h⟩
    · skip
      refine v_aload_n (pc := 16) hC dX12_number_16 rfl 0 rfl ?_
      refine v_get (pc := 17) (v := .int (F 121 37)) hC fl_X12_135 kq_121 rfl dX12_number_17 ?_
      refine v_goto (pc := 20) (tgt := 27) hC dX12_number_20 (by decide) ?_
      exact v_iret (pc := 27) hC dX12_number_27 ⟨rfl, h⟩
  · skip
    refine v_aload_n (pc := 4) hC dX12_number_4 rfl 0 rfl ?_
    refine v_get (pc := 5) (v := .int (F 121 36)) hC fl_X12_132 kq_121 rfl dX12_number_5 ?_
    refine v_goto (pc := 8) (tgt := 27) hC dX12_number_8 (by decide) ?_
    exact v_iret (pc := 27) hC dX12_number_27 ⟨rfl, h⟩
def rm_X12_setNumber : Room := { frames := 0, cells := 0, slots := 0, locals := 0 }
def wp_X12_setNumber (x1 : Int32) (x2 : Int32) (F : gS) (Q : gS → Prop) : Prop :=
  if x1 = 0 then
    (Nm (upF F 121 36 x2) fun F3 =>
    Q F3)
  else
    (if x1 = 1 then
      (Nm (upF F 121 37 x2) fun F2 =>
      Q F2)
    else
      (Nm (upF F 121 38 x2) fun F1 =>
      Q F1))
set_option maxRecDepth 20000 in
set_option maxHeartbeats 4000000 in
theorem c_X12_setNumber (l : Launch) (E : gE) {x1 : Int32} {x2 : Int32} {F : gS} {Q : gS → Prop} (h : wp_X12_setNumber x1 x2 F Q) : CtV l E yX12_setNumber cX12_setNumber 3 none rm_X12_setNumber [.ref (ad E 121), .int x1, .int x2] F Q := by
  refine ct_of (by decide) (Nat.le_of_ble_eq_true rfl) (fun p e s m below meth c hC => ?_)
  generalize ([.ref (ad E 121), .int x1, .int x2] : List Value).toArray = args at hC ⊢
  refine v_sub (lv' := [(0, .ref (ad E 121)), (1, .int x1), (2, .int x2)]) [0, 1, 2] rfl ?_
  unfold wp_X12_setNumber at h
  refine v_iload_n (pc := 0) hC dX12_setNumber_0 rfl 1 rfl ?_
  refine v_if_ne (pc := 1) (tgt := 12) hC dX12_setNumber_1 (by decide) h (fun h => ?_) (fun h => ?_)
  · skip
    refine v_iload_n (pc := 12) hC dX12_setNumber_12 rfl 1 rfl ?_
    refine v_iconst (pc := 13) (v := 1) hC dX12_setNumber_13 (by decide) ?_
    refine v_ic_ne (pc := 14) (tgt := 25) hC dX12_setNumber_14 (by decide) h (fun h => ?_) (fun h => ?_)
    · skip
      refine v_aload_n (pc := 25) hC dX12_setNumber_25 rfl 0 rfl ?_
      refine v_iload_n (pc := 26) hC dX12_setNumber_26 rfl 2 rfl ?_
      refine v_puti (pc := 27) hC fp_X12_138 kq_121 (fs_10_38 E _ _ _) (fn_10_38 E _ _) dX12_setNumber_27 h (fun F1 h => ?_)
      exact v_vret (pc := 30) hC dX12_setNumber_30 h
    · skip
      refine v_aload_n (pc := 17) hC dX12_setNumber_17 rfl 0 rfl ?_
      refine v_iload_n (pc := 18) hC dX12_setNumber_18 rfl 2 rfl ?_
      refine v_puti (pc := 19) hC fp_X12_135 kq_121 (fs_10_37 E _ _ _) (fn_10_37 E _ _) dX12_setNumber_19 h (fun F2 h => ?_)
      refine v_goto (pc := 22) (tgt := 30) hC dX12_setNumber_22 (by decide) ?_
      exact v_vret (pc := 30) hC dX12_setNumber_30 h
  · skip
    refine v_aload_n (pc := 4) hC dX12_setNumber_4 rfl 0 rfl ?_
    refine v_iload_n (pc := 5) hC dX12_setNumber_5 rfl 2 rfl ?_
    refine v_puti (pc := 6) hC fp_X12_132 kq_121 (fs_10_36 E _ _ _) (fn_10_36 E _ _) dX12_setNumber_6 h (fun F3 h => ?_)
    refine v_goto (pc := 9) (tgt := 30) hC dX12_setNumber_9 (by decide) ?_
    exact v_vret (pc := 30) hC dX12_setNumber_30 h
def rm_X12_beginNumber : Room := { frames := 1, cells := 0, slots := 0, locals := 22 }
def wp_X12_beginNumber (x1 : Int32) (x2 : Int32) (F : gS) (Q : Int32 → gS → Prop) : Prop :=
  wp_X12_setNumber x1 (x2 - 48) F fun F1 =>
  wp_X12_within x2 49 57 F1 fun r2 =>
  Q r2 F1
set_option maxRecDepth 20000 in
set_option maxHeartbeats 4000000 in
theorem c_X12_beginNumber (l : Launch) (E : gE) {x1 : Int32} {x2 : Int32} {F : gS} {Q : Int32 → gS → Prop} (h : wp_X12_beginNumber x1 x2 F Q) : CtI l E yX12_beginNumber cX12_beginNumber 3 (some .boolean) rm_X12_beginNumber [.ref (ad E 121), .int x1, .int x2] F (fun r G => (r = 0 ∨ r = 1) ∧ Q r G) := by
  refine ct_of (by decide) (Nat.le_of_ble_eq_true rfl) (fun p e s m below meth c hC => ?_)
  generalize ([.ref (ad E 121), .int x1, .int x2] : List Value).toArray = args at hC ⊢
  refine v_sub (lv' := [(0, .ref (ad E 121)), (1, .int x1), (2, .int x2)]) [0, 1, 2] rfl ?_
  unfold wp_X12_beginNumber at h
  refine v_aload_n (pc := 0) hC dX12_beginNumber_0 rfl 0 rfl ?_
  refine v_iload_n (pc := 1) hC dX12_beginNumber_1 rfl 1 rfl ?_
  refine v_iload_n (pc := 2) hC dX12_beginNumber_2 rfl 2 rfl ?_
  refine v_bipush (pc := 3) (v := 48) hC dX12_beginNumber_3 (by decide) ?_
  refine v_isub (pc := 5) hC dX12_beginNumber_5 ?_
  refine v_cv (pc := 6) (r_V (rest := []) hC ml_X12_141 mv_X12_setNumber (c_X12_setNumber l E h) ⟨rfl, rfl⟩ ⟨Nat.le_of_ble_eq_true rfl, Nat.le_of_ble_eq_true rfl⟩ kq_121 rfl (by decide) rfl rfl (Nat.le_of_ble_eq_true rfl) ⟨Nat.zero_le _, Nat.zero_le _⟩ dX12_beginNumber_6) (fun F1 h => ?_)
  refine v_iload_n (pc := 9) hC dX12_beginNumber_9 rfl 2 rfl ?_
  refine v_bipush (pc := 10) (v := 49) hC dX12_beginNumber_10 (by decide) ?_
  refine v_bipush (pc := 12) (v := 57) hC dX12_beginNumber_12 (by decide) ?_
  refine v_cyp (pc := 14) (r_S (rest := []) hC ml_X12_102 ms_X12_within (c_X12_within l E h) ⟨rfl, rfl⟩ ⟨Nat.le_of_ble_eq_true rfl, Nat.le_of_ble_eq_true rfl⟩ rfl rfl (Nat.le_of_ble_eq_true rfl) ⟨Nat.zero_le _, Nat.zero_le _⟩ dX12_beginNumber_14) (fun r2 b3 h => ?_)
  exact v_zret (pc := 17) hC dX12_beginNumber_17 b3 ⟨b3, h⟩
def rm_X12_goOnNumber : Room := { frames := 2, cells := 0, slots := 0, locals := 42 }
def wp_X12_goOnNumber_30 (Q : Int32 → gS → Prop) (F : gS) (x1 : Int32) (x2 : Int32) (t0 : Int32) : Prop :=
  if t0 = 0 then
    (wp_X12_number x1 F fun r4 =>
    wp_X12_setNumber x1 r4 F fun F5 =>
    (t0 = 0 ∨ t0 = 1) ∧ Q t0 F5)
  else
    (wp_X12_number x1 F fun r6 =>
    wp_X12_setNumber x1 (((10 * r6) + x2) - 48) F fun F7 =>
    (t0 = 0 ∨ t0 = 1) ∧ Q t0 F7)
def wp_X12_goOnNumber (x1 : Int32) (x2 : Int32) (F : gS) (Q : Int32 → gS → Prop) : Prop :=
  wp_X12_isDigit x2 F fun r1 =>
  if r1 = 0 then
    (wp_X12_goOnNumber_30 Q F x1 x2 0)
  else
    (wp_X12_number x1 F fun r3 =>
    if 60 < (((10 * r3) + x2) - 48) then
      (wp_X12_goOnNumber_30 Q F x1 x2 0)
    else
      (wp_X12_goOnNumber_30 Q F x1 x2 1))
set_option maxRecDepth 20000 in
set_option maxHeartbeats 4000000 in
theorem j_X12_goOnNumber_30 {p : Program} {l : Launch} {e : Env} {s : State} {m : MethodId} {args : Array Value} {below : List Frame} {meth : Method} {c : Code} {E : gE} (hC : CX p s m args meth c cX12_goOnNumber RX12 (some .boolean) E 4) {Q : Int32 → gS → Prop} {F : gS} {x1 : Int32} {x2 : Int32} {t0 : Int32} (h : wp_X12_goOnNumber_30 Q F x1 x2 t0) : VV p l e rm_X12_goOnNumber s m args below meth c 0 0 (MQ below (va_Qi (fun r G => (r = 0 ∨ r = 1) ∧ Q r G) (gB E) (gA E)) args s 0 0 (gA E)) E 4 F 30 [(0, .ref (ad E 121)), (1, .int x1), (2, .int x2)] [.int t0] := by
  unfold wp_X12_goOnNumber_30 at h
  refine v_istore_n (pc := 30) (lv' := [(3, .int t0), (0, .ref (ad E 121)), (1, .int x1), (2, .int x2)]) hC dX12_goOnNumber_30 rfl (by decide) rfl ?_
  refine v_aload_n (pc := 31) hC dX12_goOnNumber_31 rfl 1 rfl ?_
  refine v_iload_n (pc := 32) hC dX12_goOnNumber_32 rfl 2 rfl ?_
  refine v_iload_n (pc := 33) hC dX12_goOnNumber_33 rfl 0 rfl ?_
  refine v_if_eq (pc := 34) (tgt := 53) hC dX12_goOnNumber_34 (by decide) h (fun h => ?_) (fun h => ?_)
  · skip
    refine v_aload_n (pc := 53) hC dX12_goOnNumber_53 rfl 1 rfl ?_
    refine v_iload_n (pc := 54) hC dX12_goOnNumber_54 rfl 2 rfl ?_
    refine v_cip (pc := 55) (r_V (rest := [.int x1, .ref (ad E 121)]) hC ml_X12_145 mv_X12_number (c_X12_number l E h) ⟨rfl, rfl⟩ ⟨Nat.le_of_ble_eq_true rfl, Nat.le_of_ble_eq_true rfl⟩ kq_121 rfl (by decide) rfl rfl (Nat.le_of_ble_eq_true rfl) ⟨Nat.zero_le _, Nat.zero_le _⟩ dX12_goOnNumber_55) (fun r4 h => ?_)
    refine v_cv (pc := 58) (r_V (rest := []) hC ml_X12_141 mv_X12_setNumber (c_X12_setNumber l E h) ⟨rfl, rfl⟩ ⟨Nat.le_of_ble_eq_true rfl, Nat.le_of_ble_eq_true rfl⟩ kq_121 rfl (by decide) rfl rfl (Nat.le_of_ble_eq_true rfl) ⟨Nat.zero_le _, Nat.zero_le _⟩ dX12_goOnNumber_58) (fun F5 h => ?_)
    refine v_iload_n (pc := 61) hC dX12_goOnNumber_61 rfl 0 rfl ?_
    exact v_zret (pc := 62) hC dX12_goOnNumber_62 h.1 h
  · skip
    refine v_bipush (pc := 37) (v := 10) hC dX12_goOnNumber_37 (by decide) ?_
    refine v_aload_n (pc := 39) hC dX12_goOnNumber_39 rfl 1 rfl ?_
    refine v_iload_n (pc := 40) hC dX12_goOnNumber_40 rfl 2 rfl ?_
    refine v_cip (pc := 41) (r_V (rest := [.int 10, .int x1, .ref (ad E 121)]) hC ml_X12_145 mv_X12_number (c_X12_number l E h) ⟨rfl, rfl⟩ ⟨Nat.le_of_ble_eq_true rfl, Nat.le_of_ble_eq_true rfl⟩ kq_121 rfl (by decide) rfl rfl (Nat.le_of_ble_eq_true rfl) ⟨Nat.zero_le _, Nat.zero_le _⟩ dX12_goOnNumber_41) (fun r6 h => ?_)
    refine v_imul (pc := 44) hC dX12_goOnNumber_44 ?_
    refine v_iload_n (pc := 45) hC dX12_goOnNumber_45 rfl 3 rfl ?_
    refine v_iadd (pc := 46) hC dX12_goOnNumber_46 ?_
    refine v_bipush (pc := 47) (v := 48) hC dX12_goOnNumber_47 (by decide) ?_
    refine v_isub (pc := 49) hC dX12_goOnNumber_49 ?_
    refine v_goto (pc := 50) (tgt := 58) hC dX12_goOnNumber_50 (by decide) ?_
    refine v_cv (pc := 58) (r_V (rest := []) hC ml_X12_141 mv_X12_setNumber (c_X12_setNumber l E h) ⟨rfl, rfl⟩ ⟨Nat.le_of_ble_eq_true rfl, Nat.le_of_ble_eq_true rfl⟩ kq_121 rfl (by decide) rfl rfl (Nat.le_of_ble_eq_true rfl) ⟨Nat.zero_le _, Nat.zero_le _⟩ dX12_goOnNumber_58) (fun F7 h => ?_)
    refine v_iload_n (pc := 61) hC dX12_goOnNumber_61 rfl 0 rfl ?_
    exact v_zret (pc := 62) hC dX12_goOnNumber_62 h.1 h
set_option maxRecDepth 20000 in
set_option maxHeartbeats 4000000 in
theorem c_X12_goOnNumber (l : Launch) (E : gE) {x1 : Int32} {x2 : Int32} {F : gS} {Q : Int32 → gS → Prop} (h : wp_X12_goOnNumber x1 x2 F Q) : CtI l E yX12_goOnNumber cX12_goOnNumber 4 (some .boolean) rm_X12_goOnNumber [.ref (ad E 121), .int x1, .int x2] F (fun r G => (r = 0 ∨ r = 1) ∧ Q r G) := by
  refine ct_of (by decide) (Nat.le_of_ble_eq_true rfl) (fun p e s m below meth c hC => ?_)
  generalize ([.ref (ad E 121), .int x1, .int x2] : List Value).toArray = args at hC ⊢
  refine v_sub (lv' := [(0, .ref (ad E 121)), (1, .int x1), (2, .int x2)]) [0, 1, 2] rfl ?_
  unfold wp_X12_goOnNumber at h
  refine v_iload_n (pc := 0) hC dX12_goOnNumber_0 rfl 2 rfl ?_
  refine v_cyp (pc := 1) (r_S (rest := []) hC ml_X12_115 ms_X12_isDigit (c_X12_isDigit l E h) ⟨rfl, rfl⟩ ⟨Nat.le_of_ble_eq_true rfl, Nat.le_of_ble_eq_true rfl⟩ rfl rfl (Nat.le_of_ble_eq_true rfl) ⟨Nat.zero_le _, Nat.zero_le _⟩ dX12_goOnNumber_1) (fun r1 b2 h => ?_)
  refine v_if_eq (pc := 4) (tgt := 29) hC dX12_goOnNumber_4 (by decide) h (fun h => ?_) (fun h => ?_)
  · skip
    refine v_iconst (pc := 29) (v := 0) hC dX12_goOnNumber_29 (by decide) ?_
    exact v_sub [0, 1, 2] rfl (j_X12_goOnNumber_30 hC h)
  · skip
    refine v_bipush (pc := 7) (v := 10) hC dX12_goOnNumber_7 (by decide) ?_
    refine v_aload_n (pc := 9) hC dX12_goOnNumber_9 rfl 0 rfl ?_
    refine v_iload_n (pc := 10) hC dX12_goOnNumber_10 rfl 1 rfl ?_
    refine v_cip (pc := 11) (r_V (rest := [.int 10]) hC ml_X12_145 mv_X12_number (c_X12_number l E h) ⟨rfl, rfl⟩ ⟨Nat.le_of_ble_eq_true rfl, Nat.le_of_ble_eq_true rfl⟩ kq_121 rfl (by decide) rfl rfl (Nat.le_of_ble_eq_true rfl) ⟨Nat.zero_le _, Nat.zero_le _⟩ dX12_goOnNumber_11) (fun r3 h => ?_)
    refine v_imul (pc := 14) hC dX12_goOnNumber_14 ?_
    refine v_iload_n (pc := 15) hC dX12_goOnNumber_15 rfl 2 rfl ?_
    refine v_iadd (pc := 16) hC dX12_goOnNumber_16 ?_
    refine v_bipush (pc := 17) (v := 48) hC dX12_goOnNumber_17 (by decide) ?_
    refine v_isub (pc := 19) hC dX12_goOnNumber_19 ?_
    refine v_bipush (pc := 20) (v := 60) hC dX12_goOnNumber_20 (by decide) ?_
    refine v_ic_gt (pc := 22) (tgt := 29) hC dX12_goOnNumber_22 (by decide) h (fun h => ?_) (fun h => ?_)
    · skip
      refine v_iconst (pc := 29) (v := 0) hC dX12_goOnNumber_29 (by decide) ?_
      exact v_sub [0, 1, 2] rfl (j_X12_goOnNumber_30 hC h)
    · skip
      refine v_iconst (pc := 25) (v := 1) hC dX12_goOnNumber_25 (by decide) ?_
      refine v_goto (pc := 26) (tgt := 30) hC dX12_goOnNumber_26 (by decide) ?_
      exact v_sub [0, 1, 2] rfl (j_X12_goOnNumber_30 hC h)
def rm_X12_afterAmount : Room := { frames := 1, cells := 0, slots := 0, locals := 20 }
def wp_X12_afterAmount (x1 : Int32) (F : gS) (Q : Int32 → gS → Prop) : Prop :=
  wp_X12_swingBy x1 F fun r1 =>
  if r1 = (-1) then
    (if x1 = 116 then
      (Q 6 F)
    else
      (Q (-1) F))
  else
    (if 6 ≤ (F 121 39) then
      (if x1 = 116 then
        (Q 6 F)
      else
        (Q (-1) F))
    else
      (wp_X12_swingBy x1 F fun r2 =>
      vp_in (F 121 39) 6 ∧ Nm (upF F 139 (F 121 39).toNatClampNeg r2) fun F3 =>
      Nm (upF F3 121 39 ((F3 121 39) + 1)) fun F4 =>
      Q 5 F4))
set_option maxRecDepth 20000 in
set_option maxHeartbeats 4000000 in
theorem c_X12_afterAmount (l : Launch) (E : gE) {x1 : Int32} {F : gS} {Q : Int32 → gS → Prop} (h : wp_X12_afterAmount x1 F Q) : CtI l E yX12_afterAmount cX12_afterAmount 2 (some .int) rm_X12_afterAmount [.ref (ad E 121), .int x1] F Q := by
  refine ct_of (by decide) (Nat.le_of_ble_eq_true rfl) (fun p e s m below meth c hC => ?_)
  generalize ([.ref (ad E 121), .int x1] : List Value).toArray = args at hC ⊢
  refine v_sub (lv' := [(0, .ref (ad E 121)), (1, .int x1)]) [0, 1] rfl ?_
  unfold wp_X12_afterAmount at h
  refine v_iload_n (pc := 0) hC dX12_afterAmount_0 rfl 1 rfl ?_
  refine v_cip (pc := 1) (r_S (rest := []) hC ml_X12_162 ms_X12_swingBy (c_X12_swingBy l E h) ⟨rfl, rfl⟩ ⟨Nat.le_of_ble_eq_true rfl, Nat.le_of_ble_eq_true rfl⟩ rfl rfl (Nat.le_of_ble_eq_true rfl) ⟨Nat.zero_le _, Nat.zero_le _⟩ dX12_afterAmount_1) (fun r1 h => ?_)
  refine v_iconst (pc := 4) (v := (-1)) hC dX12_afterAmount_4 (by decide) ?_
  refine v_ic_eq (pc := 5) (tgt := 42) hC dX12_afterAmount_5 (by decide) h (fun h => ?_) (fun h => ?_)
  · skip
    refine v_iload_n (pc := 42) hC dX12_afterAmount_42 rfl 1 rfl ?_
    refine v_bipush (pc := 43) (v := 116) hC dX12_afterAmount_43 (by decide) ?_
    refine v_ic_ne (pc := 45) (tgt := 53) hC dX12_afterAmount_45 (by decide) h (fun h => ?_) (fun h => ?_)
    · skip
      refine v_iconst (pc := 53) (v := (-1)) hC dX12_afterAmount_53 (by decide) ?_
      exact v_iret (pc := 54) hC dX12_afterAmount_54 h
    · skip
      refine v_bipush (pc := 48) (v := 6) hC dX12_afterAmount_48 (by decide) ?_
      refine v_goto (pc := 50) (tgt := 54) hC dX12_afterAmount_50 (by decide) ?_
      exact v_iret (pc := 54) hC dX12_afterAmount_54 h
  · skip
    refine v_aload_n (pc := 8) hC dX12_afterAmount_8 rfl 0 rfl ?_
    refine v_get (pc := 9) (v := .int (F 121 39)) hC fl_X12_165 kq_121 rfl dX12_afterAmount_9 ?_
    refine v_bipush (pc := 12) (v := 6) hC dX12_afterAmount_12 (by decide) ?_
    refine v_ic_ge (pc := 14) (tgt := 42) hC dX12_afterAmount_14 (by decide) h (fun h => ?_) (fun h => ?_)
    · skip
      refine v_iload_n (pc := 42) hC dX12_afterAmount_42 rfl 1 rfl ?_
      refine v_bipush (pc := 43) (v := 116) hC dX12_afterAmount_43 (by decide) ?_
      refine v_ic_ne (pc := 45) (tgt := 53) hC dX12_afterAmount_45 (by decide) h (fun h => ?_) (fun h => ?_)
      · skip
        refine v_iconst (pc := 53) (v := (-1)) hC dX12_afterAmount_53 (by decide) ?_
        exact v_iret (pc := 54) hC dX12_afterAmount_54 h
      · skip
        refine v_bipush (pc := 48) (v := 6) hC dX12_afterAmount_48 (by decide) ?_
        refine v_goto (pc := 50) (tgt := 54) hC dX12_afterAmount_50 (by decide) ?_
        exact v_iret (pc := 54) hC dX12_afterAmount_54 h
    · skip
      refine v_aload_n (pc := 17) hC dX12_afterAmount_17 rfl 0 rfl ?_
      refine v_get (pc := 18) (v := .ref (ad E 139)) hC fl_X12_63 kq_121 rfl dX12_afterAmount_18 ?_
      refine v_aload_n (pc := 21) hC dX12_afterAmount_21 rfl 0 rfl ?_
      refine v_get (pc := 22) (v := .int (F 121 39)) hC fl_X12_165 kq_121 rfl dX12_afterAmount_22 ?_
      refine v_iload_n (pc := 25) hC dX12_afterAmount_25 rfl 1 rfl ?_
      refine v_cip (pc := 26) (r_S (rest := [.int (F 121 39), .ref (ad E 139)]) hC ml_X12_162 ms_X12_swingBy (c_X12_swingBy l E h) ⟨rfl, rfl⟩ ⟨Nat.le_of_ble_eq_true rfl, Nat.le_of_ble_eq_true rfl⟩ rfl rfl (Nat.le_of_ble_eq_true rfl) ⟨Nat.zero_le _, Nat.zero_le _⟩ dX12_afterAmount_26) (fun r2 h => ?_)
      refine v_iast (pc := 29) (n := 6) hC kq_139 (by decide) dX12_afterAmount_29 h (fun F3 h => ?_)
      refine v_aload_n (pc := 30) hC dX12_afterAmount_30 rfl 0 rfl ?_
      refine v_dup (pc := 31) hC dX12_afterAmount_31 rfl ?_
      refine v_get (pc := 32) (v := .int (F3 121 39)) hC fl_X12_165 kq_121 rfl dX12_afterAmount_32 ?_
      refine v_iconst (pc := 35) (v := 1) hC dX12_afterAmount_35 (by decide) ?_
      refine v_iadd (pc := 36) hC dX12_afterAmount_36 ?_
      refine v_puti (pc := 37) hC fp_X12_165 kq_121 (fs_10_39 E _ _ _) (fn_10_39 E _ _) dX12_afterAmount_37 h (fun F4 h => ?_)
      refine v_iconst (pc := 40) (v := 5) hC dX12_afterAmount_40 (by decide) ?_
      exact v_iret (pc := 41) hC dX12_afterAmount_41 h
def rm_X12_nextPlan : Room := { frames := 3, cells := 0, slots := 0, locals := 65 }
def wp_X12_nextPlan (x1 : Int32) (x2 : Int32) (F : gS) (Q : Int32 → gS → Prop) : Prop :=
  if x1 = 0 then
    (if x2 = 102 then
      (Q 1 F)
    else
      (Q (-1) F))
  else (if x1 = 1 then
    (Nm (upF F 121 35 (x2 - 48)) fun F3 =>
      wp_X12_within x2 49 57 F3 fun r4 =>
      if r4 = 0 then
        (Q (-1) F3)
      else
        (Q 2 F3))
  else (if x1 = 2 then
    (if x2 = 97 then
          (Q 3 F)
        else
          (Q (-1) F))
  else (if x1 = 3 then
    (wp_X12_beginNumber 0 x2 F fun r8 F9 =>
          if r8 = 0 then
            (Q (-1) F9)
          else
            (Q 4 F9))
  else (if x1 = 4 then
    (wp_X12_goOnNumber 0 x2 F fun r12 F13 =>
            if r12 = 0 then
              (wp_X12_afterAmount x2 F13 fun r15 F16 =>
              Q r15 F16)
            else
              (Q 5 F13))
  else (if x1 = 5 then
    (wp_X12_afterAmount x2 F fun r18 F19 =>
              Q r18 F19)
  else (if x1 = 6 then
    (wp_X12_beginNumber 1 x2 F fun r21 F22 =>
                if r21 = 0 then
                  (Q (-1) F22)
                else
                  (Q 7 F22))
  else (if x1 = 7 then
    (wp_X12_goOnNumber 1 x2 F fun r25 F26 =>
                  if r25 = 0 then
                    (if x2 = 117 then
                      (Q 9 F26)
                    else
                      (Q (-1) F26))
                  else
                    (Q 8 F26))
  else (if x1 = 8 then
    (if x2 = 117 then
                      (Q 9 F)
                    else
                      (Q (-1) F))
  else (if x1 = 9 then
    (wp_X12_beginNumber 2 x2 F fun r30 F31 =>
                      if r30 = 0 then
                        (Q (-1) F31)
                      else
                        (Q 10 F31))
  else (if x1 = 10 then
    (wp_X12_goOnNumber 2 x2 F fun r34 F35 =>
                        if r34 = 0 then
                          (Q (-1) F35)
                        else
                          (Q 11 F35))
  else (Q (-1) F)))))))))))
set_option maxRecDepth 20000 in
set_option maxHeartbeats 4000000 in
theorem c_X12_nextPlan (l : Launch) (E : gE) {x1 : Int32} {x2 : Int32} {F : gS} {Q : Int32 → gS → Prop} (h : wp_X12_nextPlan x1 x2 F Q) : CtI l E yX12_nextPlan cX12_nextPlan 3 (some .int) rm_X12_nextPlan [.ref (ad E 121), .int x1, .int x2] F Q := by
  refine ct_of (by decide) (Nat.le_of_ble_eq_true rfl) (fun p e s m below meth c hC => ?_)
  generalize ([.ref (ad E 121), .int x1, .int x2] : List Value).toArray = args at hC ⊢
  refine v_sub (lv' := [(0, .ref (ad E 121)), (1, .int x1), (2, .int x2)]) [0, 1, 2] rfl ?_
  unfold wp_X12_nextPlan at h
  refine v_iload_n (pc := 0) hC dX12_nextPlan_0 rfl 1 rfl ?_
  by_cases c1 : x1 = 0
  · skip
    rw [if_pos c1] at h
    refine v_tin (pc := 1) (tgt := 60) hC dX12_nextPlan_1 0 (by rw [c1]; rfl) (by decide) (by decide) rfl (by decide) ?_
    refine v_iload_n (pc := 60) hC dX12_nextPlan_60 rfl 2 rfl ?_
    refine v_bipush (pc := 61) (v := 102) hC dX12_nextPlan_61 (by decide) ?_
    refine v_ic_ne (pc := 63) (tgt := 70) hC dX12_nextPlan_63 (by decide) h (fun h => ?_) (fun h => ?_)
    · skip
      refine v_iconst (pc := 70) (v := (-1)) hC dX12_nextPlan_70 (by decide) ?_
      exact v_iret (pc := 71) hC dX12_nextPlan_71 h
    · skip
      refine v_iconst (pc := 66) (v := 1) hC dX12_nextPlan_66 (by decide) ?_
      refine v_goto (pc := 67) (tgt := 71) hC dX12_nextPlan_67 (by decide) ?_
      exact v_iret (pc := 71) hC dX12_nextPlan_71 h
  · skip
    rw [if_neg c1] at h
    by_cases c2 : x1 = 1
    · skip
      rw [if_pos c2] at h
      refine v_tin (pc := 1) (tgt := 72) hC dX12_nextPlan_1 1 (by rw [c2]; rfl) (by decide) (by decide) rfl (by decide) ?_
      refine v_aload_n (pc := 72) hC dX12_nextPlan_72 rfl 0 rfl ?_
      refine v_iload_n (pc := 73) hC dX12_nextPlan_73 rfl 2 rfl ?_
      refine v_bipush (pc := 74) (v := 48) hC dX12_nextPlan_74 (by decide) ?_
      refine v_isub (pc := 76) hC dX12_nextPlan_76 ?_
      refine v_puti (pc := 77) hC fp_X12_149 kq_121 (fs_10_35 E _ _ _) (fn_10_35 E _ _) dX12_nextPlan_77 h (fun F3 h => ?_)
      refine v_iload_n (pc := 80) hC dX12_nextPlan_80 rfl 2 rfl ?_
      refine v_bipush (pc := 81) (v := 49) hC dX12_nextPlan_81 (by decide) ?_
      refine v_bipush (pc := 83) (v := 57) hC dX12_nextPlan_83 (by decide) ?_
      refine v_cyp (pc := 85) (r_S (rest := []) hC ml_X12_102 ms_X12_within (c_X12_within l E h) ⟨rfl, rfl⟩ ⟨Nat.le_of_ble_eq_true rfl, Nat.le_of_ble_eq_true rfl⟩ rfl rfl (Nat.le_of_ble_eq_true rfl) ⟨Nat.zero_le _, Nat.zero_le _⟩ dX12_nextPlan_85) (fun r4 b5 h => ?_)
      refine v_if_eq (pc := 88) (tgt := 95) hC dX12_nextPlan_88 (by decide) h (fun h => ?_) (fun h => ?_)
      · skip
        refine v_iconst (pc := 95) (v := (-1)) hC dX12_nextPlan_95 (by decide) ?_
        exact v_iret (pc := 96) hC dX12_nextPlan_96 h
      · skip
        refine v_iconst (pc := 91) (v := 2) hC dX12_nextPlan_91 (by decide) ?_
        refine v_goto (pc := 92) (tgt := 96) hC dX12_nextPlan_92 (by decide) ?_
        exact v_iret (pc := 96) hC dX12_nextPlan_96 h
    · skip
      rw [if_neg c2] at h
      by_cases c6 : x1 = 2
      · skip
        rw [if_pos c6] at h
        refine v_tin (pc := 1) (tgt := 97) hC dX12_nextPlan_1 2 (by rw [c6]; rfl) (by decide) (by decide) rfl (by decide) ?_
        refine v_iload_n (pc := 97) hC dX12_nextPlan_97 rfl 2 rfl ?_
        refine v_bipush (pc := 98) (v := 97) hC dX12_nextPlan_98 (by decide) ?_
        refine v_ic_ne (pc := 100) (tgt := 107) hC dX12_nextPlan_100 (by decide) h (fun h => ?_) (fun h => ?_)
        · skip
          refine v_iconst (pc := 107) (v := (-1)) hC dX12_nextPlan_107 (by decide) ?_
          exact v_iret (pc := 108) hC dX12_nextPlan_108 h
        · skip
          refine v_iconst (pc := 103) (v := 3) hC dX12_nextPlan_103 (by decide) ?_
          refine v_goto (pc := 104) (tgt := 108) hC dX12_nextPlan_104 (by decide) ?_
          exact v_iret (pc := 108) hC dX12_nextPlan_108 h
      · skip
        rw [if_neg c6] at h
        by_cases c7 : x1 = 3
        · skip
          rw [if_pos c7] at h
          refine v_tin (pc := 1) (tgt := 109) hC dX12_nextPlan_1 3 (by rw [c7]; rfl) (by decide) (by decide) rfl (by decide) ?_
          refine v_aload_n (pc := 109) hC dX12_nextPlan_109 rfl 0 rfl ?_
          refine v_iconst (pc := 110) (v := 0) hC dX12_nextPlan_110 (by decide) ?_
          refine v_iload_n (pc := 111) hC dX12_nextPlan_111 rfl 2 rfl ?_
          refine v_ci (pc := 112) (r_V (rest := []) hC ml_X12_152 mv_X12_beginNumber (c_X12_beginNumber l E h) ⟨rfl, rfl⟩ ⟨Nat.le_of_ble_eq_true rfl, Nat.le_of_ble_eq_true rfl⟩ kq_121 rfl (by decide) rfl rfl (Nat.le_of_ble_eq_true rfl) ⟨Nat.zero_le _, Nat.zero_le _⟩ dX12_nextPlan_112) (fun r8 F9 h => ?_)
          obtain ⟨b10, h⟩ := h
          refine v_if_eq (pc := 115) (tgt := 122) hC dX12_nextPlan_115 (by decide) h (fun h => ?_) (fun h => ?_)
          · skip
            refine v_iconst (pc := 122) (v := (-1)) hC dX12_nextPlan_122 (by decide) ?_
            exact v_iret (pc := 123) hC dX12_nextPlan_123 h
          · skip
            refine v_iconst (pc := 118) (v := 4) hC dX12_nextPlan_118 (by decide) ?_
            refine v_goto (pc := 119) (tgt := 123) hC dX12_nextPlan_119 (by decide) ?_
            exact v_iret (pc := 123) hC dX12_nextPlan_123 h
        · skip
          rw [if_neg c7] at h
          by_cases c11 : x1 = 4
          · skip
            rw [if_pos c11] at h
            refine v_tin (pc := 1) (tgt := 124) hC dX12_nextPlan_1 4 (by rw [c11]; rfl) (by decide) (by decide) rfl (by decide) ?_
            refine v_aload_n (pc := 124) hC dX12_nextPlan_124 rfl 0 rfl ?_
            refine v_iconst (pc := 125) (v := 0) hC dX12_nextPlan_125 (by decide) ?_
            refine v_iload_n (pc := 126) hC dX12_nextPlan_126 rfl 2 rfl ?_
            refine v_ci (pc := 127) (r_V (rest := []) hC ml_X12_156 mv_X12_goOnNumber (c_X12_goOnNumber l E h) ⟨rfl, rfl⟩ ⟨Nat.le_of_ble_eq_true rfl, Nat.le_of_ble_eq_true rfl⟩ kq_121 rfl (by decide) rfl rfl (Nat.le_of_ble_eq_true rfl) ⟨Nat.zero_le _, Nat.zero_le _⟩ dX12_nextPlan_127) (fun r12 F13 h => ?_)
            obtain ⟨b14, h⟩ := h
            refine v_if_eq (pc := 130) (tgt := 137) hC dX12_nextPlan_130 (by decide) h (fun h => ?_) (fun h => ?_)
            · skip
              refine v_aload_n (pc := 137) hC dX12_nextPlan_137 rfl 0 rfl ?_
              refine v_iload_n (pc := 138) hC dX12_nextPlan_138 rfl 2 rfl ?_
              refine v_ci (pc := 139) (r_V (rest := []) hC ml_X12_159 mv_X12_afterAmount (c_X12_afterAmount l E h) ⟨rfl, rfl⟩ ⟨Nat.le_of_ble_eq_true rfl, Nat.le_of_ble_eq_true rfl⟩ kq_121 rfl (by decide) rfl rfl (Nat.le_of_ble_eq_true rfl) ⟨Nat.zero_le _, Nat.zero_le _⟩ dX12_nextPlan_139) (fun r15 F16 h => ?_)
              exact v_iret (pc := 142) hC dX12_nextPlan_142 h
            · skip
              refine v_iconst (pc := 133) (v := 5) hC dX12_nextPlan_133 (by decide) ?_
              refine v_goto (pc := 134) (tgt := 142) hC dX12_nextPlan_134 (by decide) ?_
              exact v_iret (pc := 142) hC dX12_nextPlan_142 h
          · skip
            rw [if_neg c11] at h
            by_cases c17 : x1 = 5
            · skip
              rw [if_pos c17] at h
              refine v_tin (pc := 1) (tgt := 143) hC dX12_nextPlan_1 5 (by rw [c17]; rfl) (by decide) (by decide) rfl (by decide) ?_
              refine v_aload_n (pc := 143) hC dX12_nextPlan_143 rfl 0 rfl ?_
              refine v_iload_n (pc := 144) hC dX12_nextPlan_144 rfl 2 rfl ?_
              refine v_ci (pc := 145) (r_V (rest := []) hC ml_X12_159 mv_X12_afterAmount (c_X12_afterAmount l E h) ⟨rfl, rfl⟩ ⟨Nat.le_of_ble_eq_true rfl, Nat.le_of_ble_eq_true rfl⟩ kq_121 rfl (by decide) rfl rfl (Nat.le_of_ble_eq_true rfl) ⟨Nat.zero_le _, Nat.zero_le _⟩ dX12_nextPlan_145) (fun r18 F19 h => ?_)
              exact v_iret (pc := 148) hC dX12_nextPlan_148 h
            · skip
              rw [if_neg c17] at h
              by_cases c20 : x1 = 6
              · skip
                rw [if_pos c20] at h
                refine v_tin (pc := 1) (tgt := 149) hC dX12_nextPlan_1 6 (by rw [c20]; rfl) (by decide) (by decide) rfl (by decide) ?_
                refine v_aload_n (pc := 149) hC dX12_nextPlan_149 rfl 0 rfl ?_
                refine v_iconst (pc := 150) (v := 1) hC dX12_nextPlan_150 (by decide) ?_
                refine v_iload_n (pc := 151) hC dX12_nextPlan_151 rfl 2 rfl ?_
                refine v_ci (pc := 152) (r_V (rest := []) hC ml_X12_152 mv_X12_beginNumber (c_X12_beginNumber l E h) ⟨rfl, rfl⟩ ⟨Nat.le_of_ble_eq_true rfl, Nat.le_of_ble_eq_true rfl⟩ kq_121 rfl (by decide) rfl rfl (Nat.le_of_ble_eq_true rfl) ⟨Nat.zero_le _, Nat.zero_le _⟩ dX12_nextPlan_152) (fun r21 F22 h => ?_)
                obtain ⟨b23, h⟩ := h
                refine v_if_eq (pc := 155) (tgt := 163) hC dX12_nextPlan_155 (by decide) h (fun h => ?_) (fun h => ?_)
                · skip
                  refine v_iconst (pc := 163) (v := (-1)) hC dX12_nextPlan_163 (by decide) ?_
                  exact v_iret (pc := 164) hC dX12_nextPlan_164 h
                · skip
                  refine v_bipush (pc := 158) (v := 7) hC dX12_nextPlan_158 (by decide) ?_
                  refine v_goto (pc := 160) (tgt := 164) hC dX12_nextPlan_160 (by decide) ?_
                  exact v_iret (pc := 164) hC dX12_nextPlan_164 h
              · skip
                rw [if_neg c20] at h
                by_cases c24 : x1 = 7
                · skip
                  rw [if_pos c24] at h
                  refine v_tin (pc := 1) (tgt := 165) hC dX12_nextPlan_1 7 (by rw [c24]; rfl) (by decide) (by decide) rfl (by decide) ?_
                  refine v_aload_n (pc := 165) hC dX12_nextPlan_165 rfl 0 rfl ?_
                  refine v_iconst (pc := 166) (v := 1) hC dX12_nextPlan_166 (by decide) ?_
                  refine v_iload_n (pc := 167) hC dX12_nextPlan_167 rfl 2 rfl ?_
                  refine v_ci (pc := 168) (r_V (rest := []) hC ml_X12_156 mv_X12_goOnNumber (c_X12_goOnNumber l E h) ⟨rfl, rfl⟩ ⟨Nat.le_of_ble_eq_true rfl, Nat.le_of_ble_eq_true rfl⟩ kq_121 rfl (by decide) rfl rfl (Nat.le_of_ble_eq_true rfl) ⟨Nat.zero_le _, Nat.zero_le _⟩ dX12_nextPlan_168) (fun r25 F26 h => ?_)
                  obtain ⟨b27, h⟩ := h
                  refine v_if_eq (pc := 171) (tgt := 179) hC dX12_nextPlan_171 (by decide) h (fun h => ?_) (fun h => ?_)
                  · skip
                    refine v_iload_n (pc := 179) hC dX12_nextPlan_179 rfl 2 rfl ?_
                    refine v_bipush (pc := 180) (v := 117) hC dX12_nextPlan_180 (by decide) ?_
                    refine v_ic_ne (pc := 182) (tgt := 190) hC dX12_nextPlan_182 (by decide) h (fun h => ?_) (fun h => ?_)
                    · skip
                      refine v_iconst (pc := 190) (v := (-1)) hC dX12_nextPlan_190 (by decide) ?_
                      exact v_iret (pc := 191) hC dX12_nextPlan_191 h
                    · skip
                      refine v_bipush (pc := 185) (v := 9) hC dX12_nextPlan_185 (by decide) ?_
                      refine v_goto (pc := 187) (tgt := 191) hC dX12_nextPlan_187 (by decide) ?_
                      exact v_iret (pc := 191) hC dX12_nextPlan_191 h
                  · skip
                    refine v_bipush (pc := 174) (v := 8) hC dX12_nextPlan_174 (by decide) ?_
                    refine v_goto (pc := 176) (tgt := 191) hC dX12_nextPlan_176 (by decide) ?_
                    exact v_iret (pc := 191) hC dX12_nextPlan_191 h
                · skip
                  rw [if_neg c24] at h
                  by_cases c28 : x1 = 8
                  · skip
                    rw [if_pos c28] at h
                    refine v_tin (pc := 1) (tgt := 192) hC dX12_nextPlan_1 8 (by rw [c28]; rfl) (by decide) (by decide) rfl (by decide) ?_
                    refine v_iload_n (pc := 192) hC dX12_nextPlan_192 rfl 2 rfl ?_
                    refine v_bipush (pc := 193) (v := 117) hC dX12_nextPlan_193 (by decide) ?_
                    refine v_ic_ne (pc := 195) (tgt := 203) hC dX12_nextPlan_195 (by decide) h (fun h => ?_) (fun h => ?_)
                    · skip
                      refine v_iconst (pc := 203) (v := (-1)) hC dX12_nextPlan_203 (by decide) ?_
                      exact v_iret (pc := 204) hC dX12_nextPlan_204 h
                    · skip
                      refine v_bipush (pc := 198) (v := 9) hC dX12_nextPlan_198 (by decide) ?_
                      refine v_goto (pc := 200) (tgt := 204) hC dX12_nextPlan_200 (by decide) ?_
                      exact v_iret (pc := 204) hC dX12_nextPlan_204 h
                  · skip
                    rw [if_neg c28] at h
                    by_cases c29 : x1 = 9
                    · skip
                      rw [if_pos c29] at h
                      refine v_tin (pc := 1) (tgt := 205) hC dX12_nextPlan_1 9 (by rw [c29]; rfl) (by decide) (by decide) rfl (by decide) ?_
                      refine v_aload_n (pc := 205) hC dX12_nextPlan_205 rfl 0 rfl ?_
                      refine v_iconst (pc := 206) (v := 2) hC dX12_nextPlan_206 (by decide) ?_
                      refine v_iload_n (pc := 207) hC dX12_nextPlan_207 rfl 2 rfl ?_
                      refine v_ci (pc := 208) (r_V (rest := []) hC ml_X12_152 mv_X12_beginNumber (c_X12_beginNumber l E h) ⟨rfl, rfl⟩ ⟨Nat.le_of_ble_eq_true rfl, Nat.le_of_ble_eq_true rfl⟩ kq_121 rfl (by decide) rfl rfl (Nat.le_of_ble_eq_true rfl) ⟨Nat.zero_le _, Nat.zero_le _⟩ dX12_nextPlan_208) (fun r30 F31 h => ?_)
                      obtain ⟨b32, h⟩ := h
                      refine v_if_eq (pc := 211) (tgt := 219) hC dX12_nextPlan_211 (by decide) h (fun h => ?_) (fun h => ?_)
                      · skip
                        refine v_iconst (pc := 219) (v := (-1)) hC dX12_nextPlan_219 (by decide) ?_
                        exact v_iret (pc := 220) hC dX12_nextPlan_220 h
                      · skip
                        refine v_bipush (pc := 214) (v := 10) hC dX12_nextPlan_214 (by decide) ?_
                        refine v_goto (pc := 216) (tgt := 220) hC dX12_nextPlan_216 (by decide) ?_
                        exact v_iret (pc := 220) hC dX12_nextPlan_220 h
                    · skip
                      rw [if_neg c29] at h
                      by_cases c33 : x1 = 10
                      · skip
                        rw [if_pos c33] at h
                        refine v_tin (pc := 1) (tgt := 221) hC dX12_nextPlan_1 10 (by rw [c33]; rfl) (by decide) (by decide) rfl (by decide) ?_
                        refine v_aload_n (pc := 221) hC dX12_nextPlan_221 rfl 0 rfl ?_
                        refine v_iconst (pc := 222) (v := 2) hC dX12_nextPlan_222 (by decide) ?_
                        refine v_iload_n (pc := 223) hC dX12_nextPlan_223 rfl 2 rfl ?_
                        refine v_ci (pc := 224) (r_V (rest := []) hC ml_X12_156 mv_X12_goOnNumber (c_X12_goOnNumber l E h) ⟨rfl, rfl⟩ ⟨Nat.le_of_ble_eq_true rfl, Nat.le_of_ble_eq_true rfl⟩ kq_121 rfl (by decide) rfl rfl (Nat.le_of_ble_eq_true rfl) ⟨Nat.zero_le _, Nat.zero_le _⟩ dX12_nextPlan_224) (fun r34 F35 h => ?_)
                        obtain ⟨b36, h⟩ := h
                        refine v_if_eq (pc := 227) (tgt := 235) hC dX12_nextPlan_227 (by decide) h (fun h => ?_) (fun h => ?_)
                        · skip
                          refine v_iconst (pc := 235) (v := (-1)) hC dX12_nextPlan_235 (by decide) ?_
                          exact v_iret (pc := 236) hC dX12_nextPlan_236 h
                        · skip
                          refine v_bipush (pc := 230) (v := 11) hC dX12_nextPlan_230 (by decide) ?_
                          refine v_goto (pc := 232) (tgt := 236) hC dX12_nextPlan_232 (by decide) ?_
                          exact v_iret (pc := 236) hC dX12_nextPlan_236 h
                      · skip
                        rw [if_neg c33] at h
                        refine v_tout (pc := 1) (tgt := 237) hC dX12_nextPlan_1 (by have := lv_neT c1 (a := 0) rfl; have := lv_neT c2 (a := 1) rfl; have := lv_neT c6 (a := 2) rfl; have := lv_neT c7 (a := 3) rfl; have := lv_neT c11 (a := 4) rfl; have := lv_neT c17 (a := 5) rfl; have := lv_neT c20 (a := 6) rfl; have := lv_neT c24 (a := 7) rfl; have := lv_neT c28 (a := 8) rfl; have := lv_neT c29 (a := 9) rfl; have := lv_neT c33 (a := 10) rfl; omega) (by decide) ?_
                        refine v_iconst (pc := 237) (v := (-1)) hC dX12_nextPlan_237 (by decide) ?_
                        exact v_iret (pc := 238) hC dX12_nextPlan_238 h
def rm_X12_readPlan : Room := { frames := 4, cells := 0, slots := 0, locals := 87 }
def wp_X12_readPlan_58 (K11 : gS → Int32 → Int32 → Int32 → Prop) (Q : gS → Prop) (F : gS) (x2 : Int32) (x3 : Int32) (t0 : Int32) : Prop :=
  if x3 = 0 then
    (Nm (x2 + 0) fun n8 =>
    K11 F t0 n8 x3)
  else
    (Nm (x2 + 1) fun n9 =>
    K11 F t0 n9 x3)
def wp_X12_readPlan_74 (Q : gS → Prop) (F : gS) (x1 : Int32) (x2 : Int32) : Prop :=
  Nm (upF F 121 27 x2) fun F4 =>
  if x2 = (F4 121 19) then
    (if x1 ≤ 9 then
      (Nm (upF F4 121 28 0) fun F6 =>
      Q F6)
    else
      (Nm (upF F4 121 28 1) fun F7 =>
      Q F7))
  else
    (Nm (upF F4 121 28 0) fun F5 =>
    Q F5)
def wb_X12_readPlan_11 (Q : gS → Prop) (K11 : gS → Int32 → Int32 → Int32 → Prop) (F : gS) (x1 : Int32) (x2 : Int32) (x3 : Int32) : Prop :=
  if (F 121 19) ≤ x2 then
    (wp_X12_readPlan_74 Q F x1 x2)
  else
    (if x3 = 0 then
      (wp_X12_readPlan_74 Q F x1 x2)
    else
      (vp_in x2 40 ∧
      wp_X12_nextPlan x1 (F 134 x2.toNatClampNeg) F fun r2 F3 =>
      if r2 = (-1) then
        (if (0 : Int32) = 0 then
          (wp_X12_readPlan_58 K11 Q F3 x2 0 x1)
        else
          (wp_X12_readPlan_58 K11 Q F3 x2 0 r2))
      else
        (if (1 : Int32) = 0 then
          (wp_X12_readPlan_58 K11 Q F3 x2 1 x1)
        else
          (wp_X12_readPlan_58 K11 Q F3 x2 1 r2))))
def wp_X12_readPlan (F : gS) (Q : gS → Prop) : Prop :=
  Nm (upF F 121 39 0) fun F1 =>
  LP4 (wb_X12_readPlan_11 Q) F1 0 0 1
set_option maxRecDepth 20000 in
set_option maxHeartbeats 4000000 in
theorem j_X12_readPlan_58 {p : Program} {l : Launch} {e : Env} {s : State} {m : MethodId} {args : Array Value} {below : List Frame} {meth : Method} {c : Code} {E : gE} (hC : CX p s m args meth c cX12_readPlan RX12 none E 5) {Q : gS → Prop} {F : gS} {x2 : Int32} {x3 : Int32} {t0 : Int32} {K11 : gS → Int32 → Int32 → Int32 → Prop} (hK11 : ∀ (F : gS) (x1 : Int32) (x2 : Int32) (x3 : Int32), K11 F x1 x2 x3 → VV p l e rm_X12_readPlan s m args below meth c 0 0 (MQ below (va_Qv Q (gB E) (gA E)) args s 0 0 (gA E)) E 5 F 11 [(0, .ref (ad E 121)), (1, .int x1), (2, .int x2), (3, .int x3)] []) (h : wp_X12_readPlan_58 K11 Q F x2 x3 t0) : VV p l e rm_X12_readPlan s m args below meth c 0 0 (MQ below (va_Qv Q (gB E) (gA E)) args s 0 0 (gA E)) E 5 F 58 [(0, .ref (ad E 121)), (2, .int x2), (3, .int x3)] [.int t0] := by
  unfold wp_X12_readPlan_58 at h
  refine v_istore_n (pc := 58) (lv' := [(1, .int t0), (0, .ref (ad E 121)), (2, .int x2), (3, .int x3)]) hC dX12_readPlan_58 rfl (by decide) rfl ?_
  refine v_iload_n (pc := 59) hC dX12_readPlan_59 rfl 2 rfl ?_
  refine v_iload_n (pc := 60) hC dX12_readPlan_60 rfl 3 rfl ?_
  refine v_if_eq (pc := 61) (tgt := 68) hC dX12_readPlan_61 (by decide) h (fun h => ?_) (fun h => ?_)
  · skip
    refine v_iconst (pc := 68) (v := 0) hC dX12_readPlan_68 (by decide) ?_
    refine v_iadd (pc := 69) hC dX12_readPlan_69 ?_
    refine v_nmi h (fun n8 h => ?_)
    refine v_istore_n (pc := 70) (lv' := [(2, .int n8), (1, .int t0), (0, .ref (ad E 121)), (3, .int x3)]) hC dX12_readPlan_70 rfl (by decide) rfl ?_
    refine v_goto (pc := 71) (tgt := 11) hC dX12_readPlan_71 (by decide) ?_
    exact v_sub [2, 1, 0, 3] rfl (hK11 _ _ _ _ h)
  · skip
    refine v_iconst (pc := 64) (v := 1) hC dX12_readPlan_64 (by decide) ?_
    refine v_goto (pc := 65) (tgt := 69) hC dX12_readPlan_65 (by decide) ?_
    refine v_iadd (pc := 69) hC dX12_readPlan_69 ?_
    refine v_nmi h (fun n9 h => ?_)
    refine v_istore_n (pc := 70) (lv' := [(2, .int n9), (1, .int t0), (0, .ref (ad E 121)), (3, .int x3)]) hC dX12_readPlan_70 rfl (by decide) rfl ?_
    refine v_goto (pc := 71) (tgt := 11) hC dX12_readPlan_71 (by decide) ?_
    exact v_sub [2, 1, 0, 3] rfl (hK11 _ _ _ _ h)
set_option maxRecDepth 20000 in
set_option maxHeartbeats 4000000 in
theorem j_X12_readPlan_74 {p : Program} {l : Launch} {e : Env} {s : State} {m : MethodId} {args : Array Value} {below : List Frame} {meth : Method} {c : Code} {E : gE} (hC : CX p s m args meth c cX12_readPlan RX12 none E 5) {Q : gS → Prop} {F : gS} {x1 : Int32} {x2 : Int32} (h : wp_X12_readPlan_74 Q F x1 x2) : VV p l e rm_X12_readPlan s m args below meth c 0 0 (MQ below (va_Qv Q (gB E) (gA E)) args s 0 0 (gA E)) E 5 F 74 [(0, .ref (ad E 121)), (1, .int x1), (2, .int x2)] [] := by
  unfold wp_X12_readPlan_74 at h
  refine v_aload_n (pc := 74) hC dX12_readPlan_74 rfl 0 rfl ?_
  refine v_iload_n (pc := 75) hC dX12_readPlan_75 rfl 2 rfl ?_
  refine v_puti (pc := 76) hC fp_X12_126 kq_121 (fs_10_27 E _ _ _) (fn_10_27 E _ _) dX12_readPlan_76 h (fun F4 h => ?_)
  refine v_aload_n (pc := 79) hC dX12_readPlan_79 rfl 0 rfl ?_
  refine v_iload_n (pc := 80) hC dX12_readPlan_80 rfl 2 rfl ?_
  refine v_aload_n (pc := 81) hC dX12_readPlan_81 rfl 0 rfl ?_
  refine v_get (pc := 82) (v := .int (F4 121 19)) hC fl_X12_98 kq_121 rfl dX12_readPlan_82 ?_
  refine v_ic_ne (pc := 85) (tgt := 98) hC dX12_readPlan_85 (by decide) h (fun h => ?_) (fun h => ?_)
  · skip
    refine v_iconst (pc := 98) (v := 0) hC dX12_readPlan_98 (by decide) ?_
    refine v_putz (pc := 99) hC fp_X12_129 kq_121 (fs_10_28 E _ _ _) (fn_10_28 E _ _) dX12_readPlan_99 (Or.inl rfl) h (fun F5 h => ?_)
    exact v_vret (pc := 102) hC dX12_readPlan_102 h
  · skip
    refine v_iload_n (pc := 88) hC dX12_readPlan_88 rfl 1 rfl ?_
    refine v_bipush (pc := 89) (v := 9) hC dX12_readPlan_89 (by decide) ?_
    refine v_ic_le (pc := 91) (tgt := 98) hC dX12_readPlan_91 (by decide) h (fun h => ?_) (fun h => ?_)
    · skip
      refine v_iconst (pc := 98) (v := 0) hC dX12_readPlan_98 (by decide) ?_
      refine v_putz (pc := 99) hC fp_X12_129 kq_121 (fs_10_28 E _ _ _) (fn_10_28 E _ _) dX12_readPlan_99 (Or.inl rfl) h (fun F6 h => ?_)
      exact v_vret (pc := 102) hC dX12_readPlan_102 h
    · skip
      refine v_iconst (pc := 94) (v := 1) hC dX12_readPlan_94 (by decide) ?_
      refine v_goto (pc := 95) (tgt := 99) hC dX12_readPlan_95 (by decide) ?_
      refine v_putz (pc := 99) hC fp_X12_129 kq_121 (fs_10_28 E _ _ _) (fn_10_28 E _ _) dX12_readPlan_99 (Or.inr rfl) h (fun F7 h => ?_)
      exact v_vret (pc := 102) hC dX12_readPlan_102 h
set_option maxRecDepth 20000 in
set_option maxHeartbeats 4000000 in
theorem jb_X12_readPlan_11 {p : Program} {l : Launch} {e : Env} {s : State} {m : MethodId} {args : Array Value} {below : List Frame} {meth : Method} {c : Code} {E : gE} (hC : CX p s m args meth c cX12_readPlan RX12 none E 5) {Q : gS → Prop} {F : gS} {x1 : Int32} {x2 : Int32} {x3 : Int32} {K11 : gS → Int32 → Int32 → Int32 → Prop} (hK11 : ∀ (F : gS) (x1 : Int32) (x2 : Int32) (x3 : Int32), K11 F x1 x2 x3 → VV p l e rm_X12_readPlan s m args below meth c 0 0 (MQ below (va_Qv Q (gB E) (gA E)) args s 0 0 (gA E)) E 5 F 11 [(0, .ref (ad E 121)), (1, .int x1), (2, .int x2), (3, .int x3)] []) (h : wb_X12_readPlan_11 Q K11 F x1 x2 x3) : VV p l e rm_X12_readPlan s m args below meth c 0 0 (MQ below (va_Qv Q (gB E) (gA E)) args s 0 0 (gA E)) E 5 F 11 [(0, .ref (ad E 121)), (1, .int x1), (2, .int x2), (3, .int x3)] [] := by
  unfold wb_X12_readPlan_11 at h
  refine v_iload_n (pc := 11) hC dX12_readPlan_11 rfl 2 rfl ?_
  refine v_aload_n (pc := 12) hC dX12_readPlan_12 rfl 0 rfl ?_
  refine v_get (pc := 13) (v := .int (F 121 19)) hC fl_X12_98 kq_121 rfl dX12_readPlan_13 ?_
  refine v_ic_ge (pc := 16) (tgt := 74) hC dX12_readPlan_16 (by decide) h (fun h => ?_) (fun h => ?_)
  · skip
    exact v_sub [0, 1, 2] rfl (j_X12_readPlan_74 hC h)
  · skip
    refine v_iload_n (pc := 19) hC dX12_readPlan_19 rfl 3 rfl ?_
    refine v_if_eq (pc := 20) (tgt := 74) hC dX12_readPlan_20 (by decide) h (fun h => ?_) (fun h => ?_)
    · skip
      exact v_sub [0, 1, 2] rfl (j_X12_readPlan_74 hC h)
    · skip
      refine v_aload_n (pc := 23) hC dX12_readPlan_23 rfl 0 rfl ?_
      refine v_iload_n (pc := 24) hC dX12_readPlan_24 rfl 1 rfl ?_
      refine v_aload_n (pc := 25) hC dX12_readPlan_25 rfl 0 rfl ?_
      refine v_get (pc := 26) (v := .ref (ad E 134)) hC fl_X12_47 kq_121 rfl dX12_readPlan_26 ?_
      refine v_iload_n (pc := 29) hC dX12_readPlan_29 rfl 2 rfl ?_
      refine v_bald (pc := 30) (n := 40) hC kq_134 (by decide) dX12_readPlan_30 h (fun h => ?_)
      refine v_ci (pc := 31) (r_V (rest := []) hC ml_X12_168 mv_X12_nextPlan (c_X12_nextPlan l E h) ⟨rfl, rfl⟩ ⟨Nat.le_of_ble_eq_true rfl, Nat.le_of_ble_eq_true rfl⟩ kq_121 rfl (by decide) rfl rfl (Nat.le_of_ble_eq_true rfl) ⟨Nat.zero_le _, Nat.zero_le _⟩ dX12_readPlan_31) (fun r2 F3 h => ?_)
      refine v_istore (pc := 34) (lv' := [(4, .int r2), (0, .ref (ad E 121)), (1, .int x1), (2, .int x2), (3, .int x3)]) hC dX12_readPlan_34 (by decide) rfl ?_
      refine v_iload (pc := 36) hC dX12_readPlan_36 0 rfl ?_
      refine v_iconst (pc := 38) (v := (-1)) hC dX12_readPlan_38 (by decide) ?_
      refine v_ic_eq (pc := 39) (tgt := 46) hC dX12_readPlan_39 (by decide) h (fun h => ?_) (fun h => ?_)
      · skip
        refine v_iconst (pc := 46) (v := 0) hC dX12_readPlan_46 (by decide) ?_
        refine v_istore_n (pc := 47) (lv' := [(3, .int 0), (4, .int r2), (0, .ref (ad E 121)), (1, .int x1), (2, .int x2)]) hC dX12_readPlan_47 rfl (by decide) rfl ?_
        refine v_iload_n (pc := 48) hC dX12_readPlan_48 rfl 0 rfl ?_
        refine v_if_eq (pc := 49) (tgt := 57) hC dX12_readPlan_49 (by decide) h (fun h => ?_) (fun h => ?_)
        · skip
          refine v_iload_n (pc := 57) hC dX12_readPlan_57 rfl 3 rfl ?_
          exact v_sub [2, 4, 0] rfl (j_X12_readPlan_58 hC hK11 h)
        · skip
          refine v_iload (pc := 52) hC dX12_readPlan_52 1 rfl ?_
          refine v_goto (pc := 54) (tgt := 58) hC dX12_readPlan_54 (by decide) ?_
          exact v_sub [2, 4, 0] rfl (j_X12_readPlan_58 hC hK11 h)
      · skip
        refine v_iconst (pc := 42) (v := 1) hC dX12_readPlan_42 (by decide) ?_
        refine v_goto (pc := 43) (tgt := 47) hC dX12_readPlan_43 (by decide) ?_
        refine v_istore_n (pc := 47) (lv' := [(3, .int 1), (4, .int r2), (0, .ref (ad E 121)), (1, .int x1), (2, .int x2)]) hC dX12_readPlan_47 rfl (by decide) rfl ?_
        refine v_iload_n (pc := 48) hC dX12_readPlan_48 rfl 0 rfl ?_
        refine v_if_eq (pc := 49) (tgt := 57) hC dX12_readPlan_49 (by decide) h (fun h => ?_) (fun h => ?_)
        · skip
          refine v_iload_n (pc := 57) hC dX12_readPlan_57 rfl 3 rfl ?_
          exact v_sub [2, 4, 0] rfl (j_X12_readPlan_58 hC hK11 h)
        · skip
          refine v_iload (pc := 52) hC dX12_readPlan_52 1 rfl ?_
          refine v_goto (pc := 54) (tgt := 58) hC dX12_readPlan_54 (by decide) ?_
          exact v_sub [2, 4, 0] rfl (j_X12_readPlan_58 hC hK11 h)
set_option maxRecDepth 20000 in
set_option maxHeartbeats 4000000 in
theorem jl_X12_readPlan_11 {p : Program} {l : Launch} {e : Env} {s : State} {m : MethodId} {args : Array Value} {below : List Frame} {meth : Method} {c : Code} {E : gE} (hC : CX p s m args meth c cX12_readPlan RX12 none E 5) {Q : gS → Prop} {F : gS} {x1 : Int32} {x2 : Int32} {x3 : Int32} (h : LP4 (wb_X12_readPlan_11 Q) F x1 x2 x3) : VV p l e rm_X12_readPlan s m args below meth c 0 0 (MQ below (va_Qv Q (gB E) (gA E)) args s 0 0 (gA E)) E 5 F 11 [(0, .ref (ad E 121)), (1, .int x1), (2, .int x2), (3, .int x3)] [] :=
  LP4_go (V := fun (F : gS) (x1 : Int32) (x2 : Int32) (x3 : Int32) => VV p l e rm_X12_readPlan s m args below meth c 0 0 (MQ below (va_Qv Q (gB E) (gA E)) args s 0 0 (gA E)) E 5 F 11 [(0, .ref (ad E 121)), (1, .int x1), (2, .int x2), (3, .int x3)] []) (fun K11 hK11 F x1 x2 x3 h => jb_X12_readPlan_11 hC hK11 h) F x1 x2 x3 h
set_option maxRecDepth 20000 in
set_option maxHeartbeats 4000000 in
theorem c_X12_readPlan (l : Launch) (E : gE) {F : gS} {Q : gS → Prop} (h : wp_X12_readPlan F Q) : CtV l E yX12_readPlan cX12_readPlan 5 none rm_X12_readPlan [.ref (ad E 121)] F Q := by
  refine ct_of (by decide) (Nat.le_of_ble_eq_true rfl) (fun p e s m below meth c hC => ?_)
  generalize ([.ref (ad E 121)] : List Value).toArray = args at hC ⊢
  refine v_sub (lv' := [(0, .ref (ad E 121))]) [0] rfl ?_
  unfold wp_X12_readPlan at h
  refine v_aload_n (pc := 0) hC dX12_readPlan_0 rfl 0 rfl ?_
  refine v_iconst (pc := 1) (v := 0) hC dX12_readPlan_1 (by decide) ?_
  refine v_puti (pc := 2) hC fp_X12_165 kq_121 (fs_10_39 E _ _ _) (fn_10_39 E _ _) dX12_readPlan_2 h (fun F1 h => ?_)
  refine v_iconst (pc := 5) (v := 0) hC dX12_readPlan_5 (by decide) ?_
  refine v_istore_n (pc := 6) (lv' := [(1, .int 0), (0, .ref (ad E 121))]) hC dX12_readPlan_6 rfl (by decide) rfl ?_
  refine v_iconst (pc := 7) (v := 0) hC dX12_readPlan_7 (by decide) ?_
  refine v_istore_n (pc := 8) (lv' := [(2, .int 0), (1, .int 0), (0, .ref (ad E 121))]) hC dX12_readPlan_8 rfl (by decide) rfl ?_
  refine v_iconst (pc := 9) (v := 1) hC dX12_readPlan_9 (by decide) ?_
  refine v_istore_n (pc := 10) (lv' := [(3, .int 1), (2, .int 0), (1, .int 0), (0, .ref (ad E 121))]) hC dX12_readPlan_10 rfl (by decide) rfl ?_
  exact v_sub [3, 2, 1, 0] rfl (jl_X12_readPlan_11 hC h)
def rm_X12_fault : Room := { frames := 5, cells := 0, slots := 0, locals := 111 }
def wp_X12_fault (x1 : Int32) (F : gS) (Q : Int32 → gS → Prop) : Prop :=
  wp_X12_within x1 0 1 F fun r1 =>
  if r1 = 0 then
    (Q (-102) F)
  else
    (if x1 = 0 then
      (wp_X12_readPan F fun F4 =>
      Q (F4 121 27) F4)
    else
      (wp_X12_readPlan F fun F3 =>
      Q (F3 121 27) F3))
set_option maxRecDepth 20000 in
set_option maxHeartbeats 4000000 in
theorem c_X12_fault (l : Launch) (E : gE) {x1 : Int32} {F : gS} {Q : Int32 → gS → Prop} (h : wp_X12_fault x1 F Q) : CtI l E yX12_fault cX12_fault 2 (some .int) rm_X12_fault [.ref (ad E 121), .int x1] F Q := by
  refine ct_of (by decide) (Nat.le_of_ble_eq_true rfl) (fun p e s m below meth c hC => ?_)
  generalize ([.ref (ad E 121), .int x1] : List Value).toArray = args at hC ⊢
  refine v_sub (lv' := [(0, .ref (ad E 121)), (1, .int x1)]) [0, 1] rfl ?_
  unfold wp_X12_fault at h
  refine v_iload_n (pc := 0) hC dX12_fault_0 rfl 1 rfl ?_
  refine v_iconst (pc := 1) (v := 0) hC dX12_fault_1 (by decide) ?_
  refine v_iconst (pc := 2) (v := 1) hC dX12_fault_2 (by decide) ?_
  refine v_cyp (pc := 3) (r_S (rest := []) hC ml_X12_102 ms_X12_within (c_X12_within l E h) ⟨rfl, rfl⟩ ⟨Nat.le_of_ble_eq_true rfl, Nat.le_of_ble_eq_true rfl⟩ rfl rfl (Nat.le_of_ble_eq_true rfl) ⟨Nat.zero_le _, Nat.zero_le _⟩ dX12_fault_3) (fun r1 b2 h => ?_)
  refine v_if_ne (pc := 6) (tgt := 12) hC dX12_fault_6 (by decide) h (fun h => ?_) (fun h => ?_)
  · skip
    refine v_iload_n (pc := 12) hC dX12_fault_12 rfl 1 rfl ?_
    refine v_if_ne (pc := 13) (tgt := 23) hC dX12_fault_13 (by decide) h (fun h => ?_) (fun h => ?_)
    · skip
      refine v_aload_n (pc := 23) hC dX12_fault_23 rfl 0 rfl ?_
      refine v_cv (pc := 24) (r_V (rest := []) hC ml_X12_175 mv_X12_readPlan (c_X12_readPlan l E h) ⟨rfl, rfl⟩ ⟨Nat.le_of_ble_eq_true rfl, Nat.le_of_ble_eq_true rfl⟩ kq_121 rfl (by decide) rfl rfl (Nat.le_of_ble_eq_true rfl) ⟨Nat.zero_le _, Nat.zero_le _⟩ dX12_fault_24) (fun F3 h => ?_)
      refine v_aload_n (pc := 27) hC dX12_fault_27 rfl 0 rfl ?_
      refine v_get (pc := 28) (v := .int (F3 121 27)) hC fl_X12_126 kq_121 rfl dX12_fault_28 ?_
      exact v_iret (pc := 31) hC dX12_fault_31 h
    · skip
      refine v_aload_n (pc := 16) hC dX12_fault_16 rfl 0 rfl ?_
      refine v_cv (pc := 17) (r_V (rest := []) hC ml_X12_172 mv_X12_readPan (c_X12_readPan l E h) ⟨rfl, rfl⟩ ⟨Nat.le_of_ble_eq_true rfl, Nat.le_of_ble_eq_true rfl⟩ kq_121 rfl (by decide) rfl rfl (Nat.le_of_ble_eq_true rfl) ⟨Nat.zero_le _, Nat.zero_le _⟩ dX12_fault_17) (fun F4 h => ?_)
      refine v_goto (pc := 20) (tgt := 27) hC dX12_fault_20 (by decide) ?_
      refine v_aload_n (pc := 27) hC dX12_fault_27 rfl 0 rfl ?_
      refine v_get (pc := 28) (v := .int (F4 121 27)) hC fl_X12_126 kq_121 rfl dX12_fault_28 ?_
      exact v_iret (pc := 31) hC dX12_fault_31 h
  · skip
    refine v_bipush (pc := 9) (v := (-102)) hC dX12_fault_9 (by decide) ?_
    exact v_iret (pc := 11) hC dX12_fault_11 h
def rm_X12_pan : Room := { frames := 4, cells := 0, slots := 0, locals := 86 }
def wp_X12_pan_91 (Q : Int32 → gS → Prop) (F : gS) : Prop :=
  Nm (upF F 121 7 0) fun F9 =>
  Nm (upF F9 121 15 0) fun F10 =>
  Nm (upF F10 121 2 ((F10 121 2) + 1)) fun F11 =>
  Nm (upF F11 121 19 0) fun F12 =>
  Q ((F12 121 0) * (F12 121 1)) F12
def wb_X12_pan_34 (Q : Int32 → gS → Prop) (K34 : gS → Int32 → Prop) (F : gS) (x1 : Int32) : Prop :=
  if ((F 121 0) * (F 121 1)) ≤ x1 then
    (wp_X12_pan_91 Q F)
  else
    (vp_in x1 16 ∧
    vp_in x1 16 ∧ Nm (upF F 122 x1.toNatClampNeg (F 137 x1.toNatClampNeg)) fun F4 =>
    vp_in x1 16 ∧
    vp_in x1 16 ∧ Nm (upF F4 123 x1.toNatClampNeg (vp_nar .boolean (F4 138 x1.toNatClampNeg))) fun F5 =>
    vp_in x1 16 ∧ Nm (upF F5 124 x1.toNatClampNeg 0) fun F6 =>
    vp_in x1 16 ∧ Nm (upF F6 125 x1.toNatClampNeg 0) fun F7 =>
    Nm (x1 + 1) fun n8 =>
    K34 F7 n8)
def wp_X12_pan (F : gS) (Q : Int32 → gS → Prop) : Prop :=
  wp_X12_readPan F fun F1 =>
  if (F1 121 28) = 0 then
    (Q (-103) F1)
  else
    (Nm (upF F1 121 0 ((F1 121 29) + 1)) fun F2 =>
    Nm (upF F2 121 1 (F2 121 30)) fun F3 =>
    LP2 (wb_X12_pan_34 Q) F3 0)
set_option maxRecDepth 20000 in
set_option maxHeartbeats 4000000 in
theorem j_X12_pan_91 {p : Program} {l : Launch} {e : Env} {s : State} {m : MethodId} {args : Array Value} {below : List Frame} {meth : Method} {c : Code} {E : gE} (hC : CX p s m args meth c cX12_pan RX12 (some .int) E 2) {Q : Int32 → gS → Prop} {F : gS} (h : wp_X12_pan_91 Q F) : VV p l e rm_X12_pan s m args below meth c 0 0 (MQ below (va_Qi Q (gB E) (gA E)) args s 0 0 (gA E)) E 2 F 91 [(0, .ref (ad E 121))] [] := by
  unfold wp_X12_pan_91 at h
  refine v_aload_n (pc := 91) hC dX12_pan_91 rfl 0 rfl ?_
  refine v_iconst (pc := 92) (v := 0) hC dX12_pan_92 (by decide) ?_
  refine v_puti (pc := 93) hC fp_X12_184 kq_121 (fs_10_7 E _ _ _) (fn_10_7 E _ _) dX12_pan_93 h (fun F9 h => ?_)
  refine v_aload_n (pc := 96) hC dX12_pan_96 rfl 0 rfl ?_
  refine v_iconst (pc := 97) (v := 0) hC dX12_pan_97 (by decide) ?_
  refine v_puti (pc := 98) hC fp_X12_187 kq_121 (fs_10_15 E _ _ _) (fn_10_15 E _ _) dX12_pan_98 h (fun F10 h => ?_)
  refine v_aload_n (pc := 101) hC dX12_pan_101 rfl 0 rfl ?_
  refine v_dup (pc := 102) hC dX12_pan_102 rfl ?_
  refine v_get (pc := 103) (v := .int (F10 121 2)) hC fl_X12_190 kq_121 rfl dX12_pan_103 ?_
  refine v_iconst (pc := 106) (v := 1) hC dX12_pan_106 (by decide) ?_
  refine v_iadd (pc := 107) hC dX12_pan_107 ?_
  refine v_puti (pc := 108) hC fp_X12_190 kq_121 (fs_10_2 E _ _ _) (fn_10_2 E _ _) dX12_pan_108 h (fun F11 h => ?_)
  refine v_aload_n (pc := 111) hC dX12_pan_111 rfl 0 rfl ?_
  refine v_iconst (pc := 112) (v := 0) hC dX12_pan_112 (by decide) ?_
  refine v_puti (pc := 113) hC fp_X12_98 kq_121 (fs_10_19 E _ _ _) (fn_10_19 E _ _) dX12_pan_113 h (fun F12 h => ?_)
  refine v_aload_n (pc := 116) hC dX12_pan_116 rfl 0 rfl ?_
  refine v_get (pc := 117) (v := .int (F12 121 0)) hC fl_X12_178 kq_121 rfl dX12_pan_117 ?_
  refine v_aload_n (pc := 120) hC dX12_pan_120 rfl 0 rfl ?_
  refine v_get (pc := 121) (v := .int (F12 121 1)) hC fl_X12_181 kq_121 rfl dX12_pan_121 ?_
  refine v_imul (pc := 124) hC dX12_pan_124 ?_
  exact v_iret (pc := 125) hC dX12_pan_125 h
set_option maxRecDepth 20000 in
set_option maxHeartbeats 4000000 in
theorem jb_X12_pan_34 {p : Program} {l : Launch} {e : Env} {s : State} {m : MethodId} {args : Array Value} {below : List Frame} {meth : Method} {c : Code} {E : gE} (hC : CX p s m args meth c cX12_pan RX12 (some .int) E 2) {Q : Int32 → gS → Prop} {F : gS} {x1 : Int32} {K34 : gS → Int32 → Prop} (hK34 : ∀ (F : gS) (x1 : Int32), K34 F x1 → VV p l e rm_X12_pan s m args below meth c 0 0 (MQ below (va_Qi Q (gB E) (gA E)) args s 0 0 (gA E)) E 2 F 34 [(0, .ref (ad E 121)), (1, .int x1)] []) (h : wb_X12_pan_34 Q K34 F x1) : VV p l e rm_X12_pan s m args below meth c 0 0 (MQ below (va_Qi Q (gB E) (gA E)) args s 0 0 (gA E)) E 2 F 34 [(0, .ref (ad E 121)), (1, .int x1)] [] := by
  unfold wb_X12_pan_34 at h
  refine v_iload_n (pc := 34) hC dX12_pan_34 rfl 1 rfl ?_
  refine v_aload_n (pc := 35) hC dX12_pan_35 rfl 0 rfl ?_
  refine v_get (pc := 36) (v := .int (F 121 0)) hC fl_X12_178 kq_121 rfl dX12_pan_36 ?_
  refine v_aload_n (pc := 39) hC dX12_pan_39 rfl 0 rfl ?_
  refine v_get (pc := 40) (v := .int (F 121 1)) hC fl_X12_181 kq_121 rfl dX12_pan_40 ?_
  refine v_imul (pc := 43) hC dX12_pan_43 ?_
  refine v_ic_ge (pc := 44) (tgt := 91) hC dX12_pan_44 (by decide) h (fun h => ?_) (fun h => ?_)
  · skip
    exact v_sub [0] rfl (j_X12_pan_91 hC h)
  · skip
    refine v_aload_n (pc := 47) hC dX12_pan_47 rfl 0 rfl ?_
    refine v_get (pc := 48) (v := .ref (ad E 122)) hC fl_X12_7 kq_121 rfl dX12_pan_48 ?_
    refine v_iload_n (pc := 51) hC dX12_pan_51 rfl 1 rfl ?_
    refine v_aload_n (pc := 52) hC dX12_pan_52 rfl 0 rfl ?_
    refine v_get (pc := 53) (v := .ref (ad E 137)) hC fl_X12_57 kq_121 rfl dX12_pan_53 ?_
    refine v_iload_n (pc := 56) hC dX12_pan_56 rfl 1 rfl ?_
    refine v_iald (pc := 57) (n := 16) hC kq_137 (by decide) dX12_pan_57 h (fun h => ?_)
    refine v_iast (pc := 58) (n := 16) hC kq_122 (by decide) dX12_pan_58 h (fun F4 h => ?_)
    refine v_aload_n (pc := 59) hC dX12_pan_59 rfl 0 rfl ?_
    refine v_get (pc := 60) (v := .ref (ad E 123)) hC fl_X12_13 kq_121 rfl dX12_pan_60 ?_
    refine v_iload_n (pc := 63) hC dX12_pan_63 rfl 1 rfl ?_
    refine v_aload_n (pc := 64) hC dX12_pan_64 rfl 0 rfl ?_
    refine v_get (pc := 65) (v := .ref (ad E 138)) hC fl_X12_60 kq_121 rfl dX12_pan_65 ?_
    refine v_iload_n (pc := 68) hC dX12_pan_68 rfl 1 rfl ?_
    refine v_zald (pc := 69) (n := 16) hC kq_138 (by decide) dX12_pan_69 h (fun h => ?_)
    refine v_zast (pc := 70) (n := 16) hC kq_123 (by decide) dX12_pan_70 h (fun F5 h => ?_)
    refine v_aload_n (pc := 71) hC dX12_pan_71 rfl 0 rfl ?_
    refine v_get (pc := 72) (v := .ref (ad E 124)) hC fl_X12_17 kq_121 rfl dX12_pan_72 ?_
    refine v_iload_n (pc := 75) hC dX12_pan_75 rfl 1 rfl ?_
    refine v_iconst (pc := 76) (v := 0) hC dX12_pan_76 (by decide) ?_
    refine v_iast (pc := 77) (n := 16) hC kq_124 (by decide) dX12_pan_77 h (fun F6 h => ?_)
    refine v_aload_n (pc := 78) hC dX12_pan_78 rfl 0 rfl ?_
    refine v_get (pc := 79) (v := .ref (ad E 125)) hC fl_X12_20 kq_121 rfl dX12_pan_79 ?_
    refine v_iload_n (pc := 82) hC dX12_pan_82 rfl 1 rfl ?_
    refine v_iconst (pc := 83) (v := 0) hC dX12_pan_83 (by decide) ?_
    refine v_iast (pc := 84) (n := 16) hC kq_125 (by decide) dX12_pan_84 h (fun F7 h => ?_)
    refine v_iinc (pc := 85) (v := 1) hC (fun z => [(1, .int z), (0, .ref (ad E 121))]) dX12_pan_85 1 rfl (by decide) (by decide) (fun _ => rfl) h (fun n8 h => ?_)
    refine v_goto (pc := 88) (tgt := 34) hC dX12_pan_88 (by decide) ?_
    exact v_sub [1, 0] rfl (hK34 _ _ h)
set_option maxRecDepth 20000 in
set_option maxHeartbeats 4000000 in
theorem jl_X12_pan_34 {p : Program} {l : Launch} {e : Env} {s : State} {m : MethodId} {args : Array Value} {below : List Frame} {meth : Method} {c : Code} {E : gE} (hC : CX p s m args meth c cX12_pan RX12 (some .int) E 2) {Q : Int32 → gS → Prop} {F : gS} {x1 : Int32} (h : LP2 (wb_X12_pan_34 Q) F x1) : VV p l e rm_X12_pan s m args below meth c 0 0 (MQ below (va_Qi Q (gB E) (gA E)) args s 0 0 (gA E)) E 2 F 34 [(0, .ref (ad E 121)), (1, .int x1)] [] :=
  LP2_go (V := fun (F : gS) (x1 : Int32) => VV p l e rm_X12_pan s m args below meth c 0 0 (MQ below (va_Qi Q (gB E) (gA E)) args s 0 0 (gA E)) E 2 F 34 [(0, .ref (ad E 121)), (1, .int x1)] []) (fun K34 hK34 F x1 h => jb_X12_pan_34 hC hK34 h) F x1 h
set_option maxRecDepth 20000 in
set_option maxHeartbeats 4000000 in
theorem c_X12_pan (l : Launch) (E : gE) {F : gS} {Q : Int32 → gS → Prop} (h : wp_X12_pan F Q) : CtI l E yX12_pan cX12_pan 2 (some .int) rm_X12_pan [.ref (ad E 121)] F Q := by
  refine ct_of (by decide) (Nat.le_of_ble_eq_true rfl) (fun p e s m below meth c hC => ?_)
  generalize ([.ref (ad E 121)] : List Value).toArray = args at hC ⊢
  refine v_sub (lv' := [(0, .ref (ad E 121))]) [0] rfl ?_
  unfold wp_X12_pan at h
  refine v_aload_n (pc := 0) hC dX12_pan_0 rfl 0 rfl ?_
  refine v_cv (pc := 1) (r_V (rest := []) hC ml_X12_172 mv_X12_readPan (c_X12_readPan l E h) ⟨rfl, rfl⟩ ⟨Nat.le_of_ble_eq_true rfl, Nat.le_of_ble_eq_true rfl⟩ kq_121 rfl (by decide) rfl rfl (Nat.le_of_ble_eq_true rfl) ⟨Nat.zero_le _, Nat.zero_le _⟩ dX12_pan_1) (fun F1 h => ?_)
  refine v_aload_n (pc := 4) hC dX12_pan_4 rfl 0 rfl ?_
  refine v_get (pc := 5) (v := .int (F1 121 28)) hC fl_X12_129 kq_121 rfl dX12_pan_5 ?_
  refine v_if_ne (pc := 8) (tgt := 14) hC dX12_pan_8 (by decide) h (fun h => ?_) (fun h => ?_)
  · skip
    refine v_aload_n (pc := 14) hC dX12_pan_14 rfl 0 rfl ?_
    refine v_aload_n (pc := 15) hC dX12_pan_15 rfl 0 rfl ?_
    refine v_get (pc := 16) (v := .int (F1 121 29)) hC fl_X12_106 kq_121 rfl dX12_pan_16 ?_
    refine v_iconst (pc := 19) (v := 1) hC dX12_pan_19 (by decide) ?_
    refine v_iadd (pc := 20) hC dX12_pan_20 ?_
    refine v_puti (pc := 21) hC fp_X12_178 kq_121 (fs_10_0 E _ _ _) (fn_10_0 E _ _) dX12_pan_21 h (fun F2 h => ?_)
    refine v_aload_n (pc := 24) hC dX12_pan_24 rfl 0 rfl ?_
    refine v_aload_n (pc := 25) hC dX12_pan_25 rfl 0 rfl ?_
    refine v_get (pc := 26) (v := .int (F2 121 30)) hC fl_X12_109 kq_121 rfl dX12_pan_26 ?_
    refine v_puti (pc := 29) hC fp_X12_181 kq_121 (fs_10_1 E _ _ _) (fn_10_1 E _ _) dX12_pan_29 h (fun F3 h => ?_)
    refine v_iconst (pc := 32) (v := 0) hC dX12_pan_32 (by decide) ?_
    refine v_istore_n (pc := 33) (lv' := [(1, .int 0), (0, .ref (ad E 121))]) hC dX12_pan_33 rfl (by decide) rfl ?_
    exact v_sub [1, 0] rfl (jl_X12_pan_34 hC h)
  · skip
    refine v_bipush (pc := 11) (v := (-103)) hC dX12_pan_11 (by decide) ?_
    exact v_iret (pc := 13) hC dX12_pan_13 h
def rm_X12_plan : Room := { frames := 5, cells := 0, slots := 0, locals := 111 }
def wp_X12_plan_127 (Q : Int32 → gS → Prop) (F : gS) : Prop :=
  Nm (upF F 121 8 ((F 121 8) + 1)) fun F9 =>
  Nm (upF F9 121 19 0) fun F10 =>
  Q ((F10 121 8) - 1) F10
def wb_X12_plan_93 (Q : Int32 → gS → Prop) (K93 : gS → Int32 → Prop) (F : gS) (x1 : Int32) : Prop :=
  if (F 121 39) ≤ x1 then
    (wp_X12_plan_127 Q F)
  else
    (vp_in x1 6 ∧
    vp_in ((6 * (F 121 8)) + x1) 36 ∧ Nm (upF F 131 ((6 * (F 121 8)) + x1).toNatClampNeg (F 139 x1.toNatClampNeg)) fun F7 =>
    Nm (x1 + 1) fun n8 =>
    K93 F7 n8)
def wp_X12_plan (F : gS) (Q : Int32 → gS → Prop) : Prop :=
  wp_X12_readPlan F fun F1 =>
  if (F1 121 28) = 0 then
    (Q (-103) F1)
  else
    (if (F1 121 8) = 6 then
      (Q (-104) F1)
    else
      (vp_in (F1 121 8) 6 ∧ Nm (upF F1 126 (F1 121 8).toNatClampNeg (F1 121 35)) fun F2 =>
      vp_in (F2 121 8) 6 ∧ Nm (upF F2 127 (F2 121 8).toNatClampNeg (F2 121 36)) fun F3 =>
      vp_in (F3 121 8) 6 ∧ Nm (upF F3 128 (F3 121 8).toNatClampNeg (F3 121 37)) fun F4 =>
      vp_in (F4 121 8) 6 ∧ Nm (upF F4 129 (F4 121 8).toNatClampNeg (F4 121 38)) fun F5 =>
      vp_in (F5 121 8) 6 ∧ Nm (upF F5 130 (F5 121 8).toNatClampNeg (F5 121 39)) fun F6 =>
      LP2 (wb_X12_plan_93 Q) F6 0))
set_option maxRecDepth 20000 in
set_option maxHeartbeats 4000000 in
theorem j_X12_plan_127 {p : Program} {l : Launch} {e : Env} {s : State} {m : MethodId} {args : Array Value} {below : List Frame} {meth : Method} {c : Code} {E : gE} (hC : CX p s m args meth c cX12_plan RX12 (some .int) E 2) {Q : Int32 → gS → Prop} {F : gS} (h : wp_X12_plan_127 Q F) : VV p l e rm_X12_plan s m args below meth c 0 0 (MQ below (va_Qi Q (gB E) (gA E)) args s 0 0 (gA E)) E 2 F 127 [(0, .ref (ad E 121))] [] := by
  unfold wp_X12_plan_127 at h
  refine v_aload_n (pc := 127) hC dX12_plan_127 rfl 0 rfl ?_
  refine v_dup (pc := 128) hC dX12_plan_128 rfl ?_
  refine v_get (pc := 129) (v := .int (F 121 8)) hC fl_X12_193 kq_121 rfl dX12_plan_129 ?_
  refine v_iconst (pc := 132) (v := 1) hC dX12_plan_132 (by decide) ?_
  refine v_iadd (pc := 133) hC dX12_plan_133 ?_
  refine v_puti (pc := 134) hC fp_X12_193 kq_121 (fs_10_8 E _ _ _) (fn_10_8 E _ _) dX12_plan_134 h (fun F9 h => ?_)
  refine v_aload_n (pc := 137) hC dX12_plan_137 rfl 0 rfl ?_
  refine v_iconst (pc := 138) (v := 0) hC dX12_plan_138 (by decide) ?_
  refine v_puti (pc := 139) hC fp_X12_98 kq_121 (fs_10_19 E _ _ _) (fn_10_19 E _ _) dX12_plan_139 h (fun F10 h => ?_)
  refine v_aload_n (pc := 142) hC dX12_plan_142 rfl 0 rfl ?_
  refine v_get (pc := 143) (v := .int (F10 121 8)) hC fl_X12_193 kq_121 rfl dX12_plan_143 ?_
  refine v_iconst (pc := 146) (v := 1) hC dX12_plan_146 (by decide) ?_
  refine v_isub (pc := 147) hC dX12_plan_147 ?_
  exact v_iret (pc := 148) hC dX12_plan_148 h
set_option maxRecDepth 20000 in
set_option maxHeartbeats 4000000 in
theorem jb_X12_plan_93 {p : Program} {l : Launch} {e : Env} {s : State} {m : MethodId} {args : Array Value} {below : List Frame} {meth : Method} {c : Code} {E : gE} (hC : CX p s m args meth c cX12_plan RX12 (some .int) E 2) {Q : Int32 → gS → Prop} {F : gS} {x1 : Int32} {K93 : gS → Int32 → Prop} (hK93 : ∀ (F : gS) (x1 : Int32), K93 F x1 → VV p l e rm_X12_plan s m args below meth c 0 0 (MQ below (va_Qi Q (gB E) (gA E)) args s 0 0 (gA E)) E 2 F 93 [(0, .ref (ad E 121)), (1, .int x1)] []) (h : wb_X12_plan_93 Q K93 F x1) : VV p l e rm_X12_plan s m args below meth c 0 0 (MQ below (va_Qi Q (gB E) (gA E)) args s 0 0 (gA E)) E 2 F 93 [(0, .ref (ad E 121)), (1, .int x1)] [] := by
  unfold wb_X12_plan_93 at h
  refine v_iload_n (pc := 93) hC dX12_plan_93 rfl 1 rfl ?_
  refine v_aload_n (pc := 94) hC dX12_plan_94 rfl 0 rfl ?_
  refine v_get (pc := 95) (v := .int (F 121 39)) hC fl_X12_165 kq_121 rfl dX12_plan_95 ?_
  refine v_ic_ge (pc := 98) (tgt := 127) hC dX12_plan_98 (by decide) h (fun h => ?_) (fun h => ?_)
  · skip
    exact v_sub [0] rfl (j_X12_plan_127 hC h)
  · skip
    refine v_aload_n (pc := 101) hC dX12_plan_101 rfl 0 rfl ?_
    refine v_get (pc := 102) (v := .ref (ad E 131)) hC fl_X12_38 kq_121 rfl dX12_plan_102 ?_
    refine v_bipush (pc := 105) (v := 6) hC dX12_plan_105 (by decide) ?_
    refine v_aload_n (pc := 107) hC dX12_plan_107 rfl 0 rfl ?_
    refine v_get (pc := 108) (v := .int (F 121 8)) hC fl_X12_193 kq_121 rfl dX12_plan_108 ?_
    refine v_imul (pc := 111) hC dX12_plan_111 ?_
    refine v_iload_n (pc := 112) hC dX12_plan_112 rfl 1 rfl ?_
    refine v_iadd (pc := 113) hC dX12_plan_113 ?_
    refine v_aload_n (pc := 114) hC dX12_plan_114 rfl 0 rfl ?_
    refine v_get (pc := 115) (v := .ref (ad E 139)) hC fl_X12_63 kq_121 rfl dX12_plan_115 ?_
    refine v_iload_n (pc := 118) hC dX12_plan_118 rfl 1 rfl ?_
    refine v_iald (pc := 119) (n := 6) hC kq_139 (by decide) dX12_plan_119 h (fun h => ?_)
    refine v_iast (pc := 120) (n := 36) hC kq_131 (by decide) dX12_plan_120 h (fun F7 h => ?_)
    refine v_iinc (pc := 121) (v := 1) hC (fun z => [(1, .int z), (0, .ref (ad E 121))]) dX12_plan_121 1 rfl (by decide) (by decide) (fun _ => rfl) h (fun n8 h => ?_)
    refine v_goto (pc := 124) (tgt := 93) hC dX12_plan_124 (by decide) ?_
    exact v_sub [1, 0] rfl (hK93 _ _ h)
set_option maxRecDepth 20000 in
set_option maxHeartbeats 4000000 in
theorem jl_X12_plan_93 {p : Program} {l : Launch} {e : Env} {s : State} {m : MethodId} {args : Array Value} {below : List Frame} {meth : Method} {c : Code} {E : gE} (hC : CX p s m args meth c cX12_plan RX12 (some .int) E 2) {Q : Int32 → gS → Prop} {F : gS} {x1 : Int32} (h : LP2 (wb_X12_plan_93 Q) F x1) : VV p l e rm_X12_plan s m args below meth c 0 0 (MQ below (va_Qi Q (gB E) (gA E)) args s 0 0 (gA E)) E 2 F 93 [(0, .ref (ad E 121)), (1, .int x1)] [] :=
  LP2_go (V := fun (F : gS) (x1 : Int32) => VV p l e rm_X12_plan s m args below meth c 0 0 (MQ below (va_Qi Q (gB E) (gA E)) args s 0 0 (gA E)) E 2 F 93 [(0, .ref (ad E 121)), (1, .int x1)] []) (fun K93 hK93 F x1 h => jb_X12_plan_93 hC hK93 h) F x1 h
set_option maxRecDepth 20000 in
set_option maxHeartbeats 4000000 in
theorem c_X12_plan (l : Launch) (E : gE) {F : gS} {Q : Int32 → gS → Prop} (h : wp_X12_plan F Q) : CtI l E yX12_plan cX12_plan 2 (some .int) rm_X12_plan [.ref (ad E 121)] F Q := by
  refine ct_of (by decide) (Nat.le_of_ble_eq_true rfl) (fun p e s m below meth c hC => ?_)
  generalize ([.ref (ad E 121)] : List Value).toArray = args at hC ⊢
  refine v_sub (lv' := [(0, .ref (ad E 121))]) [0] rfl ?_
  unfold wp_X12_plan at h
  refine v_aload_n (pc := 0) hC dX12_plan_0 rfl 0 rfl ?_
  refine v_cv (pc := 1) (r_V (rest := []) hC ml_X12_175 mv_X12_readPlan (c_X12_readPlan l E h) ⟨rfl, rfl⟩ ⟨Nat.le_of_ble_eq_true rfl, Nat.le_of_ble_eq_true rfl⟩ kq_121 rfl (by decide) rfl rfl (Nat.le_of_ble_eq_true rfl) ⟨Nat.zero_le _, Nat.zero_le _⟩ dX12_plan_1) (fun F1 h => ?_)
  refine v_aload_n (pc := 4) hC dX12_plan_4 rfl 0 rfl ?_
  refine v_get (pc := 5) (v := .int (F1 121 28)) hC fl_X12_129 kq_121 rfl dX12_plan_5 ?_
  refine v_if_ne (pc := 8) (tgt := 14) hC dX12_plan_8 (by decide) h (fun h => ?_) (fun h => ?_)
  · skip
    refine v_aload_n (pc := 14) hC dX12_plan_14 rfl 0 rfl ?_
    refine v_get (pc := 15) (v := .int (F1 121 8)) hC fl_X12_193 kq_121 rfl dX12_plan_15 ?_
    refine v_bipush (pc := 18) (v := 6) hC dX12_plan_18 (by decide) ?_
    refine v_ic_ne (pc := 20) (tgt := 26) hC dX12_plan_20 (by decide) h (fun h => ?_) (fun h => ?_)
    · skip
      refine v_aload_n (pc := 26) hC dX12_plan_26 rfl 0 rfl ?_
      refine v_get (pc := 27) (v := .ref (ad E 126)) hC fl_X12_23 kq_121 rfl dX12_plan_27 ?_
      refine v_aload_n (pc := 30) hC dX12_plan_30 rfl 0 rfl ?_
      refine v_get (pc := 31) (v := .int (F1 121 8)) hC fl_X12_193 kq_121 rfl dX12_plan_31 ?_
      refine v_aload_n (pc := 34) hC dX12_plan_34 rfl 0 rfl ?_
      refine v_get (pc := 35) (v := .int (F1 121 35)) hC fl_X12_149 kq_121 rfl dX12_plan_35 ?_
      refine v_iast (pc := 38) (n := 6) hC kq_126 (by decide) dX12_plan_38 h (fun F2 h => ?_)
      refine v_aload_n (pc := 39) hC dX12_plan_39 rfl 0 rfl ?_
      refine v_get (pc := 40) (v := .ref (ad E 127)) hC fl_X12_26 kq_121 rfl dX12_plan_40 ?_
      refine v_aload_n (pc := 43) hC dX12_plan_43 rfl 0 rfl ?_
      refine v_get (pc := 44) (v := .int (F2 121 8)) hC fl_X12_193 kq_121 rfl dX12_plan_44 ?_
      refine v_aload_n (pc := 47) hC dX12_plan_47 rfl 0 rfl ?_
      refine v_get (pc := 48) (v := .int (F2 121 36)) hC fl_X12_132 kq_121 rfl dX12_plan_48 ?_
      refine v_iast (pc := 51) (n := 6) hC kq_127 (by decide) dX12_plan_51 h (fun F3 h => ?_)
      refine v_aload_n (pc := 52) hC dX12_plan_52 rfl 0 rfl ?_
      refine v_get (pc := 53) (v := .ref (ad E 128)) hC fl_X12_29 kq_121 rfl dX12_plan_53 ?_
      refine v_aload_n (pc := 56) hC dX12_plan_56 rfl 0 rfl ?_
      refine v_get (pc := 57) (v := .int (F3 121 8)) hC fl_X12_193 kq_121 rfl dX12_plan_57 ?_
      refine v_aload_n (pc := 60) hC dX12_plan_60 rfl 0 rfl ?_
      refine v_get (pc := 61) (v := .int (F3 121 37)) hC fl_X12_135 kq_121 rfl dX12_plan_61 ?_
      refine v_iast (pc := 64) (n := 6) hC kq_128 (by decide) dX12_plan_64 h (fun F4 h => ?_)
      refine v_aload_n (pc := 65) hC dX12_plan_65 rfl 0 rfl ?_
      refine v_get (pc := 66) (v := .ref (ad E 129)) hC fl_X12_32 kq_121 rfl dX12_plan_66 ?_
      refine v_aload_n (pc := 69) hC dX12_plan_69 rfl 0 rfl ?_
      refine v_get (pc := 70) (v := .int (F4 121 8)) hC fl_X12_193 kq_121 rfl dX12_plan_70 ?_
      refine v_aload_n (pc := 73) hC dX12_plan_73 rfl 0 rfl ?_
      refine v_get (pc := 74) (v := .int (F4 121 38)) hC fl_X12_138 kq_121 rfl dX12_plan_74 ?_
      refine v_iast (pc := 77) (n := 6) hC kq_129 (by decide) dX12_plan_77 h (fun F5 h => ?_)
      refine v_aload_n (pc := 78) hC dX12_plan_78 rfl 0 rfl ?_
      refine v_get (pc := 79) (v := .ref (ad E 130)) hC fl_X12_35 kq_121 rfl dX12_plan_79 ?_
      refine v_aload_n (pc := 82) hC dX12_plan_82 rfl 0 rfl ?_
      refine v_get (pc := 83) (v := .int (F5 121 8)) hC fl_X12_193 kq_121 rfl dX12_plan_83 ?_
      refine v_aload_n (pc := 86) hC dX12_plan_86 rfl 0 rfl ?_
      refine v_get (pc := 87) (v := .int (F5 121 39)) hC fl_X12_165 kq_121 rfl dX12_plan_87 ?_
      refine v_iast (pc := 90) (n := 6) hC kq_130 (by decide) dX12_plan_90 h (fun F6 h => ?_)
      refine v_iconst (pc := 91) (v := 0) hC dX12_plan_91 (by decide) ?_
      refine v_istore_n (pc := 92) (lv' := [(1, .int 0), (0, .ref (ad E 121))]) hC dX12_plan_92 rfl (by decide) rfl ?_
      exact v_sub [1, 0] rfl (jl_X12_plan_93 hC h)
    · skip
      refine v_bipush (pc := 23) (v := (-104)) hC dX12_plan_23 (by decide) ?_
      exact v_iret (pc := 25) hC dX12_plan_25 h
  · skip
    refine v_bipush (pc := 11) (v := (-103)) hC dX12_plan_11 (by decide) ?_
    exact v_iret (pc := 13) hC dX12_plan_13 h
def rm_X12_isPlan : Room := { frames := 1, cells := 0, slots := 0, locals := 22 }
def wp_X12_isPlan (x1 : Int32) (F : gS) (Q : Int32 → Prop) : Prop :=
  wp_X12_within x1 0 ((F 121 8) - 1) F fun r1 =>
  Q r1
set_option maxRecDepth 20000 in
set_option maxHeartbeats 4000000 in
theorem c_X12_isPlan (l : Launch) (E : gE) {x1 : Int32} {F : gS} {Q : Int32 → Prop} (h : wp_X12_isPlan x1 F Q) : CtI l E yX12_isPlan cX12_isPlan 2 (some .boolean) rm_X12_isPlan [.ref (ad E 121), .int x1] F (fun r G => (r = 0 ∨ r = 1) ∧ G = F ∧ Q r) := by
  refine ct_of (by decide) (Nat.le_of_ble_eq_true rfl) (fun p e s m below meth c hC => ?_)
  generalize ([.ref (ad E 121), .int x1] : List Value).toArray = args at hC ⊢
  refine v_sub (lv' := [(0, .ref (ad E 121)), (1, .int x1)]) [0, 1] rfl ?_
  unfold wp_X12_isPlan at h
  refine v_iload_n (pc := 0) hC dX12_isPlan_0 rfl 1 rfl ?_
  refine v_iconst (pc := 1) (v := 0) hC dX12_isPlan_1 (by decide) ?_
  refine v_aload_n (pc := 2) hC dX12_isPlan_2 rfl 0 rfl ?_
  refine v_get (pc := 3) (v := .int (F 121 8)) hC fl_X12_193 kq_121 rfl dX12_isPlan_3 ?_
  refine v_iconst (pc := 6) (v := 1) hC dX12_isPlan_6 (by decide) ?_
  refine v_isub (pc := 7) hC dX12_isPlan_7 ?_
  refine v_cyp (pc := 8) (r_S (rest := []) hC ml_X12_102 ms_X12_within (c_X12_within l E h) ⟨rfl, rfl⟩ ⟨Nat.le_of_ble_eq_true rfl, Nat.le_of_ble_eq_true rfl⟩ rfl rfl (Nat.le_of_ble_eq_true rfl) ⟨Nat.zero_le _, Nat.zero_le _⟩ dX12_isPlan_8) (fun r1 b2 h => ?_)
  exact v_zret (pc := 11) hC dX12_isPlan_11 b2 ⟨b2, rfl, h⟩
def rm_X12_planNow : Room := { frames := 0, cells := 0, slots := 0, locals := 0 }
def wp_X12_planNow (x1 : Int32) (x2 : Int32) (F : gS) (Q : Int32 → Prop) : Prop :=
  if x2 = 0 then
    (vp_in x1 6 ∧
    Q (F 126 x1.toNatClampNeg))
  else (if x2 = 1 then
    (vp_in x1 6 ∧
      Q (F 127 x1.toNatClampNeg))
  else (if x2 = 2 then
    (vp_in x1 6 ∧
        Q (F 128 x1.toNatClampNeg))
  else (if x2 = 3 then
    (vp_in x1 6 ∧
          Q (F 129 x1.toNatClampNeg))
  else (if x2 = 4 then
    (vp_in x1 6 ∧
            Q (F 130 x1.toNatClampNeg))
  else (vp_in x1 6 ∧
            if (F 130 x1.toNatClampNeg) ≤ (x2 - 10) then
              (Q (-1))
            else
              (vp_in (((6 * x1) + x2) - 10) 36 ∧
              Q (F 131 (((6 * x1) + x2) - 10).toNatClampNeg)))))))
set_option maxRecDepth 20000 in
set_option maxHeartbeats 4000000 in
theorem c_X12_planNow (l : Launch) (E : gE) {x1 : Int32} {x2 : Int32} {F : gS} {Q : Int32 → Prop} (h : wp_X12_planNow x1 x2 F Q) : CtI l E yX12_planNow cX12_planNow 3 (some .int) rm_X12_planNow [.ref (ad E 121), .int x1, .int x2] F (fun r G => G = F ∧ Q r) := by
  refine ct_of (by decide) (Nat.le_of_ble_eq_true rfl) (fun p e s m below meth c hC => ?_)
  generalize ([.ref (ad E 121), .int x1, .int x2] : List Value).toArray = args at hC ⊢
  refine v_sub (lv' := [(0, .ref (ad E 121)), (1, .int x1), (2, .int x2)]) [0, 1, 2] rfl ?_
  unfold wp_X12_planNow at h
  refine v_iload_n (pc := 0) hC dX12_planNow_0 rfl 2 rfl ?_
  by_cases c1 : x2 = 0
  · skip
    rw [if_pos c1] at h
    refine v_tin (pc := 1) (tgt := 36) hC dX12_planNow_1 0 (by rw [c1]; rfl) (by decide) (by decide) rfl (by decide) ?_
    refine v_aload_n (pc := 36) hC dX12_planNow_36 rfl 0 rfl ?_
    refine v_get (pc := 37) (v := .ref (ad E 126)) hC fl_X12_23 kq_121 rfl dX12_planNow_37 ?_
    refine v_iload_n (pc := 40) hC dX12_planNow_40 rfl 1 rfl ?_
    refine v_iald (pc := 41) (n := 6) hC kq_126 (by decide) dX12_planNow_41 h (fun h => ?_)
    exact v_iret (pc := 42) hC dX12_planNow_42 ⟨rfl, h⟩
  · skip
    rw [if_neg c1] at h
    by_cases c2 : x2 = 1
    · skip
      rw [if_pos c2] at h
      refine v_tin (pc := 1) (tgt := 43) hC dX12_planNow_1 1 (by rw [c2]; rfl) (by decide) (by decide) rfl (by decide) ?_
      refine v_aload_n (pc := 43) hC dX12_planNow_43 rfl 0 rfl ?_
      refine v_get (pc := 44) (v := .ref (ad E 127)) hC fl_X12_26 kq_121 rfl dX12_planNow_44 ?_
      refine v_iload_n (pc := 47) hC dX12_planNow_47 rfl 1 rfl ?_
      refine v_iald (pc := 48) (n := 6) hC kq_127 (by decide) dX12_planNow_48 h (fun h => ?_)
      exact v_iret (pc := 49) hC dX12_planNow_49 ⟨rfl, h⟩
    · skip
      rw [if_neg c2] at h
      by_cases c3 : x2 = 2
      · skip
        rw [if_pos c3] at h
        refine v_tin (pc := 1) (tgt := 50) hC dX12_planNow_1 2 (by rw [c3]; rfl) (by decide) (by decide) rfl (by decide) ?_
        refine v_aload_n (pc := 50) hC dX12_planNow_50 rfl 0 rfl ?_
        refine v_get (pc := 51) (v := .ref (ad E 128)) hC fl_X12_29 kq_121 rfl dX12_planNow_51 ?_
        refine v_iload_n (pc := 54) hC dX12_planNow_54 rfl 1 rfl ?_
        refine v_iald (pc := 55) (n := 6) hC kq_128 (by decide) dX12_planNow_55 h (fun h => ?_)
        exact v_iret (pc := 56) hC dX12_planNow_56 ⟨rfl, h⟩
      · skip
        rw [if_neg c3] at h
        by_cases c4 : x2 = 3
        · skip
          rw [if_pos c4] at h
          refine v_tin (pc := 1) (tgt := 57) hC dX12_planNow_1 3 (by rw [c4]; rfl) (by decide) (by decide) rfl (by decide) ?_
          refine v_aload_n (pc := 57) hC dX12_planNow_57 rfl 0 rfl ?_
          refine v_get (pc := 58) (v := .ref (ad E 129)) hC fl_X12_32 kq_121 rfl dX12_planNow_58 ?_
          refine v_iload_n (pc := 61) hC dX12_planNow_61 rfl 1 rfl ?_
          refine v_iald (pc := 62) (n := 6) hC kq_129 (by decide) dX12_planNow_62 h (fun h => ?_)
          exact v_iret (pc := 63) hC dX12_planNow_63 ⟨rfl, h⟩
        · skip
          rw [if_neg c4] at h
          by_cases c5 : x2 = 4
          · skip
            rw [if_pos c5] at h
            refine v_tin (pc := 1) (tgt := 64) hC dX12_planNow_1 4 (by rw [c5]; rfl) (by decide) (by decide) rfl (by decide) ?_
            refine v_aload_n (pc := 64) hC dX12_planNow_64 rfl 0 rfl ?_
            refine v_get (pc := 65) (v := .ref (ad E 130)) hC fl_X12_35 kq_121 rfl dX12_planNow_65 ?_
            refine v_iload_n (pc := 68) hC dX12_planNow_68 rfl 1 rfl ?_
            refine v_iald (pc := 69) (n := 6) hC kq_130 (by decide) dX12_planNow_69 h (fun h => ?_)
            exact v_iret (pc := 70) hC dX12_planNow_70 ⟨rfl, h⟩
          · skip
            rw [if_neg c5] at h
            refine v_tout (pc := 1) (tgt := 71) hC dX12_planNow_1 (by have := lv_neT c1 (a := 0) rfl; have := lv_neT c2 (a := 1) rfl; have := lv_neT c3 (a := 2) rfl; have := lv_neT c4 (a := 3) rfl; have := lv_neT c5 (a := 4) rfl; omega) (by decide) ?_
            refine v_iload_n (pc := 71) hC dX12_planNow_71 rfl 2 rfl ?_
            refine v_bipush (pc := 72) (v := 10) hC dX12_planNow_72 (by decide) ?_
            refine v_isub (pc := 74) hC dX12_planNow_74 ?_
            refine v_aload_n (pc := 75) hC dX12_planNow_75 rfl 0 rfl ?_
            refine v_get (pc := 76) (v := .ref (ad E 130)) hC fl_X12_35 kq_121 rfl dX12_planNow_76 ?_
            refine v_iload_n (pc := 79) hC dX12_planNow_79 rfl 1 rfl ?_
            refine v_iald (pc := 80) (n := 6) hC kq_130 (by decide) dX12_planNow_80 h (fun h => ?_)
            refine v_ic_ge (pc := 81) (tgt := 101) hC dX12_planNow_81 (by decide) h (fun h => ?_) (fun h => ?_)
            · skip
              refine v_iconst (pc := 101) (v := (-1)) hC dX12_planNow_101 (by decide) ?_
              exact v_iret (pc := 102) hC dX12_planNow_102 ⟨rfl, h⟩
            · skip
              refine v_aload_n (pc := 84) hC dX12_planNow_84 rfl 0 rfl ?_
              refine v_get (pc := 85) (v := .ref (ad E 131)) hC fl_X12_38 kq_121 rfl dX12_planNow_85 ?_
              refine v_bipush (pc := 88) (v := 6) hC dX12_planNow_88 (by decide) ?_
              refine v_iload_n (pc := 90) hC dX12_planNow_90 rfl 1 rfl ?_
              refine v_imul (pc := 91) hC dX12_planNow_91 ?_
              refine v_iload_n (pc := 92) hC dX12_planNow_92 rfl 2 rfl ?_
              refine v_iadd (pc := 93) hC dX12_planNow_93 ?_
              refine v_bipush (pc := 94) (v := 10) hC dX12_planNow_94 (by decide) ?_
              refine v_isub (pc := 96) hC dX12_planNow_96 ?_
              refine v_iald (pc := 97) (n := 36) hC kq_131 (by decide) dX12_planNow_97 h (fun h => ?_)
              refine v_goto (pc := 98) (tgt := 102) hC dX12_planNow_98 (by decide) ?_
              exact v_iret (pc := 102) hC dX12_planNow_102 ⟨rfl, h⟩
def rm_X12_planTold : Room := { frames := 2, cells := 0, slots := 0, locals := 43 }
def wp_X12_planTold (x1 : Int32) (x2 : Int32) (F : gS) (Q : Int32 → Prop) : Prop :=
  wp_X12_isPlan x1 F fun r1 =>
  if r1 = 0 then
    (Q (-101))
  else
    (wp_X12_within x2 0 4 F fun r3 =>
    if r3 = 0 then
      (wp_X12_within x2 10 15 F fun r6 =>
      if r6 = 0 then
        (Q (-102))
      else
        (wp_X12_planNow x1 x2 F fun r8 =>
        Q r8))
    else
      (wp_X12_planNow x1 x2 F fun r5 =>
      Q r5))
set_option maxRecDepth 20000 in
set_option maxHeartbeats 4000000 in
theorem c_X12_planTold (l : Launch) (E : gE) {x1 : Int32} {x2 : Int32} {F : gS} {Q : Int32 → Prop} (h : wp_X12_planTold x1 x2 F Q) : CtI l E yX12_planTold cX12_planTold 3 (some .int) rm_X12_planTold [.ref (ad E 121), .int x1, .int x2] F (fun r G => G = F ∧ Q r) := by
  refine ct_of (by decide) (Nat.le_of_ble_eq_true rfl) (fun p e s m below meth c hC => ?_)
  generalize ([.ref (ad E 121), .int x1, .int x2] : List Value).toArray = args at hC ⊢
  refine v_sub (lv' := [(0, .ref (ad E 121)), (1, .int x1), (2, .int x2)]) [0, 1, 2] rfl ?_
  unfold wp_X12_planTold at h
  refine v_aload_n (pc := 0) hC dX12_planTold_0 rfl 0 rfl ?_
  refine v_iload_n (pc := 1) hC dX12_planTold_1 rfl 1 rfl ?_
  refine v_cyp (pc := 2) (r_V (rest := []) hC ml_X12_196 mv_X12_isPlan (c_X12_isPlan l E h) ⟨rfl, rfl⟩ ⟨Nat.le_of_ble_eq_true rfl, Nat.le_of_ble_eq_true rfl⟩ kq_121 rfl (by decide) rfl rfl (Nat.le_of_ble_eq_true rfl) ⟨Nat.zero_le _, Nat.zero_le _⟩ dX12_planTold_2) (fun r1 b2 h => ?_)
  refine v_if_ne (pc := 5) (tgt := 13) hC dX12_planTold_5 (by decide) h (fun h => ?_) (fun h => ?_)
  · skip
    refine v_iload_n (pc := 13) hC dX12_planTold_13 rfl 2 rfl ?_
    refine v_iconst (pc := 14) (v := 0) hC dX12_planTold_14 (by decide) ?_
    refine v_iconst (pc := 15) (v := 4) hC dX12_planTold_15 (by decide) ?_
    refine v_cyp (pc := 16) (r_S (rest := []) hC ml_X12_102 ms_X12_within (c_X12_within l E h) ⟨rfl, rfl⟩ ⟨Nat.le_of_ble_eq_true rfl, Nat.le_of_ble_eq_true rfl⟩ rfl rfl (Nat.le_of_ble_eq_true rfl) ⟨Nat.zero_le _, Nat.zero_le _⟩ dX12_planTold_16) (fun r3 b4 h => ?_)
    refine v_if_ne (pc := 19) (tgt := 33) hC dX12_planTold_19 (by decide) h (fun h => ?_) (fun h => ?_)
    · skip
      refine v_aload_n (pc := 33) hC dX12_planTold_33 rfl 0 rfl ?_
      refine v_iload_n (pc := 34) hC dX12_planTold_34 rfl 1 rfl ?_
      refine v_iload_n (pc := 35) hC dX12_planTold_35 rfl 2 rfl ?_
      refine v_cip (pc := 36) (r_V (rest := []) hC ml_X12_199 mv_X12_planNow (c_X12_planNow l E h) ⟨rfl, rfl⟩ ⟨Nat.le_of_ble_eq_true rfl, Nat.le_of_ble_eq_true rfl⟩ kq_121 rfl (by decide) rfl rfl (Nat.le_of_ble_eq_true rfl) ⟨Nat.zero_le _, Nat.zero_le _⟩ dX12_planTold_36) (fun r5 h => ?_)
      refine v_goto (pc := 39) (tgt := 44) hC dX12_planTold_39 (by decide) ?_
      exact v_iret (pc := 44) hC dX12_planTold_44 ⟨rfl, h⟩
    · skip
      refine v_iload_n (pc := 22) hC dX12_planTold_22 rfl 2 rfl ?_
      refine v_bipush (pc := 23) (v := 10) hC dX12_planTold_23 (by decide) ?_
      refine v_bipush (pc := 25) (v := 15) hC dX12_planTold_25 (by decide) ?_
      refine v_cyp (pc := 27) (r_S (rest := []) hC ml_X12_102 ms_X12_within (c_X12_within l E h) ⟨rfl, rfl⟩ ⟨Nat.le_of_ble_eq_true rfl, Nat.le_of_ble_eq_true rfl⟩ rfl rfl (Nat.le_of_ble_eq_true rfl) ⟨Nat.zero_le _, Nat.zero_le _⟩ dX12_planTold_27) (fun r6 b7 h => ?_)
      refine v_if_eq (pc := 30) (tgt := 42) hC dX12_planTold_30 (by decide) h (fun h => ?_) (fun h => ?_)
      · skip
        refine v_bipush (pc := 42) (v := (-102)) hC dX12_planTold_42 (by decide) ?_
        exact v_iret (pc := 44) hC dX12_planTold_44 ⟨rfl, h⟩
      · skip
        refine v_aload_n (pc := 33) hC dX12_planTold_33 rfl 0 rfl ?_
        refine v_iload_n (pc := 34) hC dX12_planTold_34 rfl 1 rfl ?_
        refine v_iload_n (pc := 35) hC dX12_planTold_35 rfl 2 rfl ?_
        refine v_cip (pc := 36) (r_V (rest := []) hC ml_X12_199 mv_X12_planNow (c_X12_planNow l E h) ⟨rfl, rfl⟩ ⟨Nat.le_of_ble_eq_true rfl, Nat.le_of_ble_eq_true rfl⟩ kq_121 rfl (by decide) rfl rfl (Nat.le_of_ble_eq_true rfl) ⟨Nat.zero_le _, Nat.zero_le _⟩ dX12_planTold_36) (fun r8 h => ?_)
        refine v_goto (pc := 39) (tgt := 44) hC dX12_planTold_39 (by decide) ?_
        exact v_iret (pc := 44) hC dX12_planTold_44 ⟨rfl, h⟩
  · skip
    refine v_bipush (pc := 8) (v := (-101)) hC dX12_planTold_8 (by decide) ?_
    refine v_goto (pc := 10) (tgt := 44) hC dX12_planTold_10 (by decide) ?_
    exact v_iret (pc := 44) hC dX12_planTold_44 ⟨rfl, h⟩
def rm_X12_cells : Room := { frames := 0, cells := 0, slots := 0, locals := 0 }
def wp_X12_cells (F : gS) (Q : Int32 → Prop) : Prop :=
  Q ((F 121 0) * (F 121 1))
set_option maxRecDepth 20000 in
set_option maxHeartbeats 4000000 in
theorem c_X12_cells (l : Launch) (E : gE) {F : gS} {Q : Int32 → Prop} (h : wp_X12_cells F Q) : CtI l E yX12_cells cX12_cells 1 (some .int) rm_X12_cells [.ref (ad E 121)] F (fun r G => G = F ∧ Q r) := by
  refine ct_of (by decide) (Nat.le_of_ble_eq_true rfl) (fun p e s m below meth c hC => ?_)
  generalize ([.ref (ad E 121)] : List Value).toArray = args at hC ⊢
  refine v_sub (lv' := [(0, .ref (ad E 121))]) [0] rfl ?_
  unfold wp_X12_cells at h
  refine v_aload_n (pc := 0) hC dX12_cells_0 rfl 0 rfl ?_
  refine v_get (pc := 1) (v := .int (F 121 0)) hC fl_X12_178 kq_121 rfl dX12_cells_1 ?_
  refine v_aload_n (pc := 4) hC dX12_cells_4 rfl 0 rfl ?_
  refine v_get (pc := 5) (v := .int (F 121 1)) hC fl_X12_181 kq_121 rfl dX12_cells_5 ?_
  refine v_imul (pc := 8) hC dX12_cells_8 ?_
  exact v_iret (pc := 9) hC dX12_cells_9 ⟨rfl, h⟩
def rm_X12_isCell : Room := { frames := 1, cells := 0, slots := 0, locals := 22 }
def wp_X12_isCell (x1 : Int32) (F : gS) (Q : Int32 → Prop) : Prop :=
  wp_X12_cells F fun r1 =>
  wp_X12_within x1 0 (r1 - 1) F fun r2 =>
  Q r2
set_option maxRecDepth 20000 in
set_option maxHeartbeats 4000000 in
theorem c_X12_isCell (l : Launch) (E : gE) {x1 : Int32} {F : gS} {Q : Int32 → Prop} (h : wp_X12_isCell x1 F Q) : CtI l E yX12_isCell cX12_isCell 2 (some .boolean) rm_X12_isCell [.ref (ad E 121), .int x1] F (fun r G => (r = 0 ∨ r = 1) ∧ G = F ∧ Q r) := by
  refine ct_of (by decide) (Nat.le_of_ble_eq_true rfl) (fun p e s m below meth c hC => ?_)
  generalize ([.ref (ad E 121), .int x1] : List Value).toArray = args at hC ⊢
  refine v_sub (lv' := [(0, .ref (ad E 121)), (1, .int x1)]) [0, 1] rfl ?_
  unfold wp_X12_isCell at h
  refine v_iload_n (pc := 0) hC dX12_isCell_0 rfl 1 rfl ?_
  refine v_iconst (pc := 1) (v := 0) hC dX12_isCell_1 (by decide) ?_
  refine v_aload_n (pc := 2) hC dX12_isCell_2 rfl 0 rfl ?_
  refine v_cip (pc := 3) (r_V (rest := [.int 0, .int x1]) hC ml_X12_202 mv_X12_cells (c_X12_cells l E h) ⟨rfl, rfl⟩ ⟨Nat.le_of_ble_eq_true rfl, Nat.le_of_ble_eq_true rfl⟩ kq_121 rfl (by decide) rfl rfl (Nat.le_of_ble_eq_true rfl) ⟨Nat.zero_le _, Nat.zero_le _⟩ dX12_isCell_3) (fun r1 h => ?_)
  refine v_iconst (pc := 6) (v := 1) hC dX12_isCell_6 (by decide) ?_
  refine v_isub (pc := 7) hC dX12_isCell_7 ?_
  refine v_cyp (pc := 8) (r_S (rest := []) hC ml_X12_102 ms_X12_within (c_X12_within l E h) ⟨rfl, rfl⟩ ⟨Nat.le_of_ble_eq_true rfl, Nat.le_of_ble_eq_true rfl⟩ rfl rfl (Nat.le_of_ble_eq_true rfl) ⟨Nat.zero_le _, Nat.zero_le _⟩ dX12_isCell_8) (fun r2 b3 h => ?_)
  exact v_zret (pc := 11) hC dX12_isCell_11 b3 ⟨b3, rfl, h⟩
def rm_X12_cellNow : Room := { frames := 0, cells := 0, slots := 0, locals := 0 }
def wp_X12_cellNow (x1 : Int32) (x2 : Int32) (F : gS) (Q : Int32 → Prop) : Prop :=
  if x2 = 0 then
    (vp_in x1 16 ∧
    Q (F 122 x1.toNatClampNeg))
  else
    (if x2 = 1 then
      (vp_in x1 16 ∧
      if (F 123 x1.toNatClampNeg) = 0 then
        (Q 0)
      else
        (Q 1))
    else
      (if x2 = 2 then
        (vp_in x1 16 ∧
        Q (F 124 x1.toNatClampNeg))
      else
        (vp_in x1 16 ∧
        Q (F 125 x1.toNatClampNeg))))
set_option maxRecDepth 20000 in
set_option maxHeartbeats 4000000 in
theorem c_X12_cellNow (l : Launch) (E : gE) {x1 : Int32} {x2 : Int32} {F : gS} {Q : Int32 → Prop} (h : wp_X12_cellNow x1 x2 F Q) : CtI l E yX12_cellNow cX12_cellNow 3 (some .int) rm_X12_cellNow [.ref (ad E 121), .int x1, .int x2] F (fun r G => G = F ∧ Q r) := by
  refine ct_of (by decide) (Nat.le_of_ble_eq_true rfl) (fun p e s m below meth c hC => ?_)
  generalize ([.ref (ad E 121), .int x1, .int x2] : List Value).toArray = args at hC ⊢
  refine v_sub (lv' := [(0, .ref (ad E 121)), (1, .int x1), (2, .int x2)]) [0, 1, 2] rfl ?_
  unfold wp_X12_cellNow at h
  refine v_iload_n (pc := 0) hC dX12_cellNow_0 rfl 2 rfl ?_
  refine v_if_ne (pc := 1) (tgt := 13) hC dX12_cellNow_1 (by decide) h (fun h => ?_) (fun h => ?_)
  · skip
    refine v_iload_n (pc := 13) hC dX12_cellNow_13 rfl 2 rfl ?_
    refine v_iconst (pc := 14) (v := 1) hC dX12_cellNow_14 (by decide) ?_
    refine v_ic_ne (pc := 15) (tgt := 35) hC dX12_cellNow_15 (by decide) h (fun h => ?_) (fun h => ?_)
    · skip
      refine v_iload_n (pc := 35) hC dX12_cellNow_35 rfl 2 rfl ?_
      refine v_iconst (pc := 36) (v := 2) hC dX12_cellNow_36 (by decide) ?_
      refine v_ic_ne (pc := 37) (tgt := 49) hC dX12_cellNow_37 (by decide) h (fun h => ?_) (fun h => ?_)
      · skip
        refine v_aload_n (pc := 49) hC dX12_cellNow_49 rfl 0 rfl ?_
        refine v_get (pc := 50) (v := .ref (ad E 125)) hC fl_X12_20 kq_121 rfl dX12_cellNow_50 ?_
        refine v_iload_n (pc := 53) hC dX12_cellNow_53 rfl 1 rfl ?_
        refine v_iald (pc := 54) (n := 16) hC kq_125 (by decide) dX12_cellNow_54 h (fun h => ?_)
        exact v_iret (pc := 55) hC dX12_cellNow_55 ⟨rfl, h⟩
      · skip
        refine v_aload_n (pc := 40) hC dX12_cellNow_40 rfl 0 rfl ?_
        refine v_get (pc := 41) (v := .ref (ad E 124)) hC fl_X12_17 kq_121 rfl dX12_cellNow_41 ?_
        refine v_iload_n (pc := 44) hC dX12_cellNow_44 rfl 1 rfl ?_
        refine v_iald (pc := 45) (n := 16) hC kq_124 (by decide) dX12_cellNow_45 h (fun h => ?_)
        refine v_goto (pc := 46) (tgt := 55) hC dX12_cellNow_46 (by decide) ?_
        exact v_iret (pc := 55) hC dX12_cellNow_55 ⟨rfl, h⟩
    · skip
      refine v_aload_n (pc := 18) hC dX12_cellNow_18 rfl 0 rfl ?_
      refine v_get (pc := 19) (v := .ref (ad E 123)) hC fl_X12_13 kq_121 rfl dX12_cellNow_19 ?_
      refine v_iload_n (pc := 22) hC dX12_cellNow_22 rfl 1 rfl ?_
      refine v_zald (pc := 23) (n := 16) hC kq_123 (by decide) dX12_cellNow_23 h (fun h => ?_)
      refine v_if_eq (pc := 24) (tgt := 31) hC dX12_cellNow_24 (by decide) h (fun h => ?_) (fun h => ?_)
      · skip
        refine v_iconst (pc := 31) (v := 0) hC dX12_cellNow_31 (by decide) ?_
        refine v_goto (pc := 32) (tgt := 55) hC dX12_cellNow_32 (by decide) ?_
        exact v_iret (pc := 55) hC dX12_cellNow_55 ⟨rfl, h⟩
      · skip
        refine v_iconst (pc := 27) (v := 1) hC dX12_cellNow_27 (by decide) ?_
        refine v_goto (pc := 28) (tgt := 55) hC dX12_cellNow_28 (by decide) ?_
        exact v_iret (pc := 55) hC dX12_cellNow_55 ⟨rfl, h⟩
  · skip
    refine v_aload_n (pc := 4) hC dX12_cellNow_4 rfl 0 rfl ?_
    refine v_get (pc := 5) (v := .ref (ad E 122)) hC fl_X12_7 kq_121 rfl dX12_cellNow_5 ?_
    refine v_iload_n (pc := 8) hC dX12_cellNow_8 rfl 1 rfl ?_
    refine v_iald (pc := 9) (n := 16) hC kq_122 (by decide) dX12_cellNow_9 h (fun h => ?_)
    refine v_goto (pc := 10) (tgt := 55) hC dX12_cellNow_10 (by decide) ?_
    exact v_iret (pc := 55) hC dX12_cellNow_55 ⟨rfl, h⟩
def rm_X12_cell : Room := { frames := 2, cells := 0, slots := 0, locals := 43 }
def wp_X12_cell (x1 : Int32) (x2 : Int32) (F : gS) (Q : Int32 → Prop) : Prop :=
  wp_X12_isCell x1 F fun r1 =>
  if r1 = 0 then
    (Q (-101))
  else
    (wp_X12_within x2 0 3 F fun r3 =>
    if r3 = 0 then
      (Q (-102))
    else
      (wp_X12_cellNow x1 x2 F fun r5 =>
      Q r5))
set_option maxRecDepth 20000 in
set_option maxHeartbeats 4000000 in
theorem c_X12_cell (l : Launch) (E : gE) {x1 : Int32} {x2 : Int32} {F : gS} {Q : Int32 → Prop} (h : wp_X12_cell x1 x2 F Q) : CtI l E yX12_cell cX12_cell 3 (some .int) rm_X12_cell [.ref (ad E 121), .int x1, .int x2] F (fun r G => G = F ∧ Q r) := by
  refine ct_of (by decide) (Nat.le_of_ble_eq_true rfl) (fun p e s m below meth c hC => ?_)
  generalize ([.ref (ad E 121), .int x1, .int x2] : List Value).toArray = args at hC ⊢
  refine v_sub (lv' := [(0, .ref (ad E 121)), (1, .int x1), (2, .int x2)]) [0, 1, 2] rfl ?_
  unfold wp_X12_cell at h
  refine v_aload_n (pc := 0) hC dX12_cell_0 rfl 0 rfl ?_
  refine v_iload_n (pc := 1) hC dX12_cell_1 rfl 1 rfl ?_
  refine v_cyp (pc := 2) (r_V (rest := []) hC ml_X12_206 mv_X12_isCell (c_X12_isCell l E h) ⟨rfl, rfl⟩ ⟨Nat.le_of_ble_eq_true rfl, Nat.le_of_ble_eq_true rfl⟩ kq_121 rfl (by decide) rfl rfl (Nat.le_of_ble_eq_true rfl) ⟨Nat.zero_le _, Nat.zero_le _⟩ dX12_cell_2) (fun r1 b2 h => ?_)
  refine v_if_ne (pc := 5) (tgt := 13) hC dX12_cell_5 (by decide) h (fun h => ?_) (fun h => ?_)
  · skip
    refine v_iload_n (pc := 13) hC dX12_cell_13 rfl 2 rfl ?_
    refine v_iconst (pc := 14) (v := 0) hC dX12_cell_14 (by decide) ?_
    refine v_iconst (pc := 15) (v := 3) hC dX12_cell_15 (by decide) ?_
    refine v_cyp (pc := 16) (r_S (rest := []) hC ml_X12_102 ms_X12_within (c_X12_within l E h) ⟨rfl, rfl⟩ ⟨Nat.le_of_ble_eq_true rfl, Nat.le_of_ble_eq_true rfl⟩ rfl rfl (Nat.le_of_ble_eq_true rfl) ⟨Nat.zero_le _, Nat.zero_le _⟩ dX12_cell_16) (fun r3 b4 h => ?_)
    refine v_if_eq (pc := 19) (tgt := 31) hC dX12_cell_19 (by decide) h (fun h => ?_) (fun h => ?_)
    · skip
      refine v_bipush (pc := 31) (v := (-102)) hC dX12_cell_31 (by decide) ?_
      exact v_iret (pc := 33) hC dX12_cell_33 ⟨rfl, h⟩
    · skip
      refine v_aload_n (pc := 22) hC dX12_cell_22 rfl 0 rfl ?_
      refine v_iload_n (pc := 23) hC dX12_cell_23 rfl 1 rfl ?_
      refine v_iload_n (pc := 24) hC dX12_cell_24 rfl 2 rfl ?_
      refine v_cip (pc := 25) (r_V (rest := []) hC ml_X12_209 mv_X12_cellNow (c_X12_cellNow l E h) ⟨rfl, rfl⟩ ⟨Nat.le_of_ble_eq_true rfl, Nat.le_of_ble_eq_true rfl⟩ kq_121 rfl (by decide) rfl rfl (Nat.le_of_ble_eq_true rfl) ⟨Nat.zero_le _, Nat.zero_le _⟩ dX12_cell_25) (fun r5 h => ?_)
      refine v_goto (pc := 28) (tgt := 33) hC dX12_cell_28 (by decide) ?_
      exact v_iret (pc := 33) hC dX12_cell_33 ⟨rfl, h⟩
  · skip
    refine v_bipush (pc := 8) (v := (-101)) hC dX12_cell_8 (by decide) ?_
    refine v_goto (pc := 10) (tgt := 33) hC dX12_cell_10 (by decide) ?_
    exact v_iret (pc := 33) hC dX12_cell_33 ⟨rfl, h⟩
def rm_X12_loadPan : Room := { frames := 0, cells := 0, slots := 0, locals := 0 }
def wb_X12_loadPan_2 (Q : gS → Prop) (K2 : gS → Int32 → Prop) (F : gS) (x1 : Int32) : Prop :=
  if 16 ≤ x1 then
    (Nm (upF F 121 43 (F 121 7)) fun F1 =>
    Q F1)
  else
    (vp_in x1 16 ∧
    vp_in x1 16 ∧ Nm (upF F 140 x1.toNatClampNeg (F 124 x1.toNatClampNeg)) fun F2 =>
    vp_in x1 16 ∧
    vp_in x1 16 ∧ Nm (upF F2 141 x1.toNatClampNeg (F2 125 x1.toNatClampNeg)) fun F3 =>
    Nm (x1 + 1) fun n4 =>
    K2 F3 n4)
def wp_X12_loadPan (F : gS) (Q : gS → Prop) : Prop :=
  LP2 (wb_X12_loadPan_2 Q) F 0
set_option maxRecDepth 20000 in
set_option maxHeartbeats 4000000 in
theorem jb_X12_loadPan_2 {p : Program} {l : Launch} {e : Env} {s : State} {m : MethodId} {args : Array Value} {below : List Frame} {meth : Method} {c : Code} {E : gE} (hC : CX p s m args meth c cX12_loadPan RX12 none E 2) {Q : gS → Prop} {F : gS} {x1 : Int32} {K2 : gS → Int32 → Prop} (hK2 : ∀ (F : gS) (x1 : Int32), K2 F x1 → VV p l e rm_X12_loadPan s m args below meth c 0 0 (MQ below (va_Qv Q (gB E) (gA E)) args s 0 0 (gA E)) E 2 F 2 [(0, .ref (ad E 121)), (1, .int x1)] []) (h : wb_X12_loadPan_2 Q K2 F x1) : VV p l e rm_X12_loadPan s m args below meth c 0 0 (MQ below (va_Qv Q (gB E) (gA E)) args s 0 0 (gA E)) E 2 F 2 [(0, .ref (ad E 121)), (1, .int x1)] [] := by
  unfold wb_X12_loadPan_2 at h
  refine v_iload_n (pc := 2) hC dX12_loadPan_2 rfl 1 rfl ?_
  refine v_bipush (pc := 3) (v := 16) hC dX12_loadPan_3 (by decide) ?_
  refine v_ic_ge (pc := 5) (tgt := 38) hC dX12_loadPan_5 (by decide) h (fun h => ?_) (fun h => ?_)
  · skip
    refine v_aload_n (pc := 38) hC dX12_loadPan_38 rfl 0 rfl ?_
    refine v_aload_n (pc := 39) hC dX12_loadPan_39 rfl 0 rfl ?_
    refine v_get (pc := 40) (v := .int (F 121 7)) hC fl_X12_184 kq_121 rfl dX12_loadPan_40 ?_
    refine v_puti (pc := 43) hC fp_X12_212 kq_121 (fs_10_43 E _ _ _) (fn_10_43 E _ _) dX12_loadPan_43 h (fun F1 h => ?_)
    exact v_vret (pc := 46) hC dX12_loadPan_46 h
  · skip
    refine v_aload_n (pc := 8) hC dX12_loadPan_8 rfl 0 rfl ?_
    refine v_get (pc := 9) (v := .ref (ad E 140)) hC fl_X12_66 kq_121 rfl dX12_loadPan_9 ?_
    refine v_iload_n (pc := 12) hC dX12_loadPan_12 rfl 1 rfl ?_
    refine v_aload_n (pc := 13) hC dX12_loadPan_13 rfl 0 rfl ?_
    refine v_get (pc := 14) (v := .ref (ad E 124)) hC fl_X12_17 kq_121 rfl dX12_loadPan_14 ?_
    refine v_iload_n (pc := 17) hC dX12_loadPan_17 rfl 1 rfl ?_
    refine v_iald (pc := 18) (n := 16) hC kq_124 (by decide) dX12_loadPan_18 h (fun h => ?_)
    refine v_iast (pc := 19) (n := 16) hC kq_140 (by decide) dX12_loadPan_19 h (fun F2 h => ?_)
    refine v_aload_n (pc := 20) hC dX12_loadPan_20 rfl 0 rfl ?_
    refine v_get (pc := 21) (v := .ref (ad E 141)) hC fl_X12_69 kq_121 rfl dX12_loadPan_21 ?_
    refine v_iload_n (pc := 24) hC dX12_loadPan_24 rfl 1 rfl ?_
    refine v_aload_n (pc := 25) hC dX12_loadPan_25 rfl 0 rfl ?_
    refine v_get (pc := 26) (v := .ref (ad E 125)) hC fl_X12_20 kq_121 rfl dX12_loadPan_26 ?_
    refine v_iload_n (pc := 29) hC dX12_loadPan_29 rfl 1 rfl ?_
    refine v_iald (pc := 30) (n := 16) hC kq_125 (by decide) dX12_loadPan_30 h (fun h => ?_)
    refine v_iast (pc := 31) (n := 16) hC kq_141 (by decide) dX12_loadPan_31 h (fun F3 h => ?_)
    refine v_iinc (pc := 32) (v := 1) hC (fun z => [(1, .int z), (0, .ref (ad E 121))]) dX12_loadPan_32 1 rfl (by decide) (by decide) (fun _ => rfl) h (fun n4 h => ?_)
    refine v_goto (pc := 35) (tgt := 2) hC dX12_loadPan_35 (by decide) ?_
    exact v_sub [1, 0] rfl (hK2 _ _ h)
set_option maxRecDepth 20000 in
set_option maxHeartbeats 4000000 in
theorem jl_X12_loadPan_2 {p : Program} {l : Launch} {e : Env} {s : State} {m : MethodId} {args : Array Value} {below : List Frame} {meth : Method} {c : Code} {E : gE} (hC : CX p s m args meth c cX12_loadPan RX12 none E 2) {Q : gS → Prop} {F : gS} {x1 : Int32} (h : LP2 (wb_X12_loadPan_2 Q) F x1) : VV p l e rm_X12_loadPan s m args below meth c 0 0 (MQ below (va_Qv Q (gB E) (gA E)) args s 0 0 (gA E)) E 2 F 2 [(0, .ref (ad E 121)), (1, .int x1)] [] :=
  LP2_go (V := fun (F : gS) (x1 : Int32) => VV p l e rm_X12_loadPan s m args below meth c 0 0 (MQ below (va_Qv Q (gB E) (gA E)) args s 0 0 (gA E)) E 2 F 2 [(0, .ref (ad E 121)), (1, .int x1)] []) (fun K2 hK2 F x1 h => jb_X12_loadPan_2 hC hK2 h) F x1 h
set_option maxRecDepth 20000 in
set_option maxHeartbeats 4000000 in
theorem c_X12_loadPan (l : Launch) (E : gE) {F : gS} {Q : gS → Prop} (h : wp_X12_loadPan F Q) : CtV l E yX12_loadPan cX12_loadPan 2 none rm_X12_loadPan [.ref (ad E 121)] F Q := by
  refine ct_of (by decide) (Nat.le_of_ble_eq_true rfl) (fun p e s m below meth c hC => ?_)
  generalize ([.ref (ad E 121)] : List Value).toArray = args at hC ⊢
  refine v_sub (lv' := [(0, .ref (ad E 121))]) [0] rfl ?_
  unfold wp_X12_loadPan at h
  refine v_iconst (pc := 0) (v := 0) hC dX12_loadPan_0 (by decide) ?_
  refine v_istore_n (pc := 1) (lv' := [(1, .int 0), (0, .ref (ad E 121))]) hC dX12_loadPan_1 rfl (by decide) rfl ?_
  exact v_sub [1, 0] rfl (jl_X12_loadPan_2 hC h)
def rm_X12_loadPlan : Room := { frames := 0, cells := 0, slots := 0, locals := 0 }
def wb_X12_loadPlan_52 (Q : gS → Prop) (x1 : Int32) (K52 : gS → Int32 → Prop) (F : gS) (x2 : Int32) : Prop :=
  if (F 121 48) ≤ x2 then
    (Q F)
  else
    (vp_in ((6 * x1) + x2) 36 ∧
    vp_in x2 6 ∧ Nm (upF F 142 x2.toNatClampNeg (F 131 ((6 * x1) + x2).toNatClampNeg)) fun F6 =>
    Nm (x2 + 1) fun n7 =>
    K52 F6 n7)
def wp_X12_loadPlan (x1 : Int32) (F : gS) (Q : gS → Prop) : Prop :=
  vp_in x1 6 ∧
  Nm (upF F 121 44 (F 126 x1.toNatClampNeg)) fun F1 =>
  vp_in x1 6 ∧
  Nm (upF F1 121 45 (F1 127 x1.toNatClampNeg)) fun F2 =>
  vp_in x1 6 ∧
  Nm (upF F2 121 46 (F2 128 x1.toNatClampNeg)) fun F3 =>
  vp_in x1 6 ∧
  Nm (upF F3 121 47 (F3 129 x1.toNatClampNeg)) fun F4 =>
  vp_in x1 6 ∧
  Nm (upF F4 121 48 (F4 130 x1.toNatClampNeg)) fun F5 =>
  LP2 (wb_X12_loadPlan_52 Q x1) F5 0
set_option maxRecDepth 20000 in
set_option maxHeartbeats 4000000 in
theorem jb_X12_loadPlan_52 {p : Program} {l : Launch} {e : Env} {s : State} {m : MethodId} {args : Array Value} {below : List Frame} {meth : Method} {c : Code} {E : gE} (hC : CX p s m args meth c cX12_loadPlan RX12 none E 3) {Q : gS → Prop} {F : gS} {x1 : Int32} {x2 : Int32} {K52 : gS → Int32 → Prop} (hK52 : ∀ (F : gS) (x2 : Int32), K52 F x2 → VV p l e rm_X12_loadPlan s m args below meth c 0 0 (MQ below (va_Qv Q (gB E) (gA E)) args s 0 0 (gA E)) E 3 F 52 [(0, .ref (ad E 121)), (1, .int x1), (2, .int x2)] []) (h : wb_X12_loadPlan_52 Q x1 K52 F x2) : VV p l e rm_X12_loadPlan s m args below meth c 0 0 (MQ below (va_Qv Q (gB E) (gA E)) args s 0 0 (gA E)) E 3 F 52 [(0, .ref (ad E 121)), (1, .int x1), (2, .int x2)] [] := by
  unfold wb_X12_loadPlan_52 at h
  refine v_iload_n (pc := 52) hC dX12_loadPlan_52 rfl 2 rfl ?_
  refine v_aload_n (pc := 53) hC dX12_loadPlan_53 rfl 0 rfl ?_
  refine v_get (pc := 54) (v := .int (F 121 48)) hC fl_X12_227 kq_121 rfl dX12_loadPlan_54 ?_
  refine v_ic_ge (pc := 57) (tgt := 83) hC dX12_loadPlan_57 (by decide) h (fun h => ?_) (fun h => ?_)
  · skip
    exact v_vret (pc := 83) hC dX12_loadPlan_83 h
  · skip
    refine v_aload_n (pc := 60) hC dX12_loadPlan_60 rfl 0 rfl ?_
    refine v_get (pc := 61) (v := .ref (ad E 142)) hC fl_X12_72 kq_121 rfl dX12_loadPlan_61 ?_
    refine v_iload_n (pc := 64) hC dX12_loadPlan_64 rfl 2 rfl ?_
    refine v_aload_n (pc := 65) hC dX12_loadPlan_65 rfl 0 rfl ?_
    refine v_get (pc := 66) (v := .ref (ad E 131)) hC fl_X12_38 kq_121 rfl dX12_loadPlan_66 ?_
    refine v_bipush (pc := 69) (v := 6) hC dX12_loadPlan_69 (by decide) ?_
    refine v_iload_n (pc := 71) hC dX12_loadPlan_71 rfl 1 rfl ?_
    refine v_imul (pc := 72) hC dX12_loadPlan_72 ?_
    refine v_iload_n (pc := 73) hC dX12_loadPlan_73 rfl 2 rfl ?_
    refine v_iadd (pc := 74) hC dX12_loadPlan_74 ?_
    refine v_iald (pc := 75) (n := 36) hC kq_131 (by decide) dX12_loadPlan_75 h (fun h => ?_)
    refine v_iast (pc := 76) (n := 6) hC kq_142 (by decide) dX12_loadPlan_76 h (fun F6 h => ?_)
    refine v_iinc (pc := 77) (v := 1) hC (fun z => [(2, .int z), (0, .ref (ad E 121)), (1, .int x1)]) dX12_loadPlan_77 2 rfl (by decide) (by decide) (fun _ => rfl) h (fun n7 h => ?_)
    refine v_goto (pc := 80) (tgt := 52) hC dX12_loadPlan_80 (by decide) ?_
    exact v_sub [1, 2, 0] rfl (hK52 _ _ h)
set_option maxRecDepth 20000 in
set_option maxHeartbeats 4000000 in
theorem jl_X12_loadPlan_52 {p : Program} {l : Launch} {e : Env} {s : State} {m : MethodId} {args : Array Value} {below : List Frame} {meth : Method} {c : Code} {E : gE} (hC : CX p s m args meth c cX12_loadPlan RX12 none E 3) {Q : gS → Prop} {F : gS} {x1 : Int32} {x2 : Int32} (h : LP2 (wb_X12_loadPlan_52 Q x1) F x2) : VV p l e rm_X12_loadPlan s m args below meth c 0 0 (MQ below (va_Qv Q (gB E) (gA E)) args s 0 0 (gA E)) E 3 F 52 [(0, .ref (ad E 121)), (1, .int x1), (2, .int x2)] [] :=
  LP2_go (V := fun (F : gS) (x2 : Int32) => VV p l e rm_X12_loadPlan s m args below meth c 0 0 (MQ below (va_Qv Q (gB E) (gA E)) args s 0 0 (gA E)) E 3 F 52 [(0, .ref (ad E 121)), (1, .int x1), (2, .int x2)] []) (fun K52 hK52 F x2 h => jb_X12_loadPlan_52 hC hK52 h) F x2 h
set_option maxRecDepth 20000 in
set_option maxHeartbeats 4000000 in
theorem c_X12_loadPlan (l : Launch) (E : gE) {x1 : Int32} {F : gS} {Q : gS → Prop} (h : wp_X12_loadPlan x1 F Q) : CtV l E yX12_loadPlan cX12_loadPlan 3 none rm_X12_loadPlan [.ref (ad E 121), .int x1] F Q := by
  refine ct_of (by decide) (Nat.le_of_ble_eq_true rfl) (fun p e s m below meth c hC => ?_)
  generalize ([.ref (ad E 121), .int x1] : List Value).toArray = args at hC ⊢
  refine v_sub (lv' := [(0, .ref (ad E 121)), (1, .int x1)]) [0, 1] rfl ?_
  unfold wp_X12_loadPlan at h
  refine v_aload_n (pc := 0) hC dX12_loadPlan_0 rfl 0 rfl ?_
  refine v_aload_n (pc := 1) hC dX12_loadPlan_1 rfl 0 rfl ?_
  refine v_get (pc := 2) (v := .ref (ad E 126)) hC fl_X12_23 kq_121 rfl dX12_loadPlan_2 ?_
  refine v_iload_n (pc := 5) hC dX12_loadPlan_5 rfl 1 rfl ?_
  refine v_iald (pc := 6) (n := 6) hC kq_126 (by decide) dX12_loadPlan_6 h (fun h => ?_)
  refine v_puti (pc := 7) hC fp_X12_215 kq_121 (fs_10_44 E _ _ _) (fn_10_44 E _ _) dX12_loadPlan_7 h (fun F1 h => ?_)
  refine v_aload_n (pc := 10) hC dX12_loadPlan_10 rfl 0 rfl ?_
  refine v_aload_n (pc := 11) hC dX12_loadPlan_11 rfl 0 rfl ?_
  refine v_get (pc := 12) (v := .ref (ad E 127)) hC fl_X12_26 kq_121 rfl dX12_loadPlan_12 ?_
  refine v_iload_n (pc := 15) hC dX12_loadPlan_15 rfl 1 rfl ?_
  refine v_iald (pc := 16) (n := 6) hC kq_127 (by decide) dX12_loadPlan_16 h (fun h => ?_)
  refine v_puti (pc := 17) hC fp_X12_218 kq_121 (fs_10_45 E _ _ _) (fn_10_45 E _ _) dX12_loadPlan_17 h (fun F2 h => ?_)
  refine v_aload_n (pc := 20) hC dX12_loadPlan_20 rfl 0 rfl ?_
  refine v_aload_n (pc := 21) hC dX12_loadPlan_21 rfl 0 rfl ?_
  refine v_get (pc := 22) (v := .ref (ad E 128)) hC fl_X12_29 kq_121 rfl dX12_loadPlan_22 ?_
  refine v_iload_n (pc := 25) hC dX12_loadPlan_25 rfl 1 rfl ?_
  refine v_iald (pc := 26) (n := 6) hC kq_128 (by decide) dX12_loadPlan_26 h (fun h => ?_)
  refine v_puti (pc := 27) hC fp_X12_221 kq_121 (fs_10_46 E _ _ _) (fn_10_46 E _ _) dX12_loadPlan_27 h (fun F3 h => ?_)
  refine v_aload_n (pc := 30) hC dX12_loadPlan_30 rfl 0 rfl ?_
  refine v_aload_n (pc := 31) hC dX12_loadPlan_31 rfl 0 rfl ?_
  refine v_get (pc := 32) (v := .ref (ad E 129)) hC fl_X12_32 kq_121 rfl dX12_loadPlan_32 ?_
  refine v_iload_n (pc := 35) hC dX12_loadPlan_35 rfl 1 rfl ?_
  refine v_iald (pc := 36) (n := 6) hC kq_129 (by decide) dX12_loadPlan_36 h (fun h => ?_)
  refine v_puti (pc := 37) hC fp_X12_224 kq_121 (fs_10_47 E _ _ _) (fn_10_47 E _ _) dX12_loadPlan_37 h (fun F4 h => ?_)
  refine v_aload_n (pc := 40) hC dX12_loadPlan_40 rfl 0 rfl ?_
  refine v_aload_n (pc := 41) hC dX12_loadPlan_41 rfl 0 rfl ?_
  refine v_get (pc := 42) (v := .ref (ad E 130)) hC fl_X12_35 kq_121 rfl dX12_loadPlan_42 ?_
  refine v_iload_n (pc := 45) hC dX12_loadPlan_45 rfl 1 rfl ?_
  refine v_iald (pc := 46) (n := 6) hC kq_130 (by decide) dX12_loadPlan_46 h (fun h => ?_)
  refine v_puti (pc := 47) hC fp_X12_227 kq_121 (fs_10_48 E _ _ _) (fn_10_48 E _ _) dX12_loadPlan_47 h (fun F5 h => ?_)
  refine v_iconst (pc := 50) (v := 0) hC dX12_loadPlan_50 (by decide) ?_
  refine v_istore_n (pc := 51) (lv' := [(2, .int 0), (0, .ref (ad E 121)), (1, .int x1)]) hC dX12_loadPlan_51 rfl (by decide) rfl ?_
  exact v_sub [1, 2, 0] rfl (jl_X12_loadPlan_52 hC h)
def rm_X12_goTick : Room := { frames := 1, cells := 0, slots := 0, locals := 20 }
def wb_X12_goTick_2 (Q : gS → Prop) (x1 : Int32) (x2 : Int32) (K2 : gS → Int32 → Prop) (F : gS) (x3 : Int32) : Prop :=
  wp_X12_cells F fun r1 =>
  if r1 ≤ x3 then
    (Q F)
  else
    (vp_in x3 16 ∧
    vp_in x3 16 ∧
    vp_in x3 16 ∧
    vp_in x3 16 ∧ Nm (upF F 140 x3.toNatClampNeg ((F 140 x3.toNatClampNeg) + ((x1 * (F 122 x3.toNatClampNeg)) - ((F 140 x3.toNatClampNeg) / 10)))) fun F2 =>
    vp_in x3 16 ∧
    if (F2 143 x3.toNatClampNeg) ≤ 0 then
      (Nm (x3 + 1) fun n3 =>
      K2 F2 n3)
    else
      (Nm ((2 * x3) + x2) fun n4 =>
      vp_in n4 32 ∧
      vp_in x3 16 ∧
      wp_X12_atLeast ((F2 140 x3.toNatClampNeg) - 60) F2 fun r5 =>
      vp_in x3 16 ∧
      ¬ ((F2 143 x3.toNatClampNeg) + 2) = 0 ∧
      vp_in n4 32 ∧ Nm (upF F2 146 n4.toNatClampNeg ((F2 146 n4.toNatClampNeg) + (r5 / ((F2 143 x3.toNatClampNeg) + 2)))) fun F6 =>
      Nm (x3 + 1) fun n7 =>
      K2 F6 n7))
def wp_X12_goTick (x1 : Int32) (x2 : Int32) (F : gS) (Q : gS → Prop) : Prop :=
  LP2 (wb_X12_goTick_2 Q x1 x2) F 0
set_option maxRecDepth 20000 in
set_option maxHeartbeats 4000000 in
theorem jb_X12_goTick_2 {p : Program} {l : Launch} {e : Env} {s : State} {m : MethodId} {args : Array Value} {below : List Frame} {meth : Method} {c : Code} {E : gE} (hC : CX p s m args meth c cX12_goTick RX12 none E 4) {Q : gS → Prop} {F : gS} {x1 : Int32} {x2 : Int32} {x3 : Int32} {K2 : gS → Int32 → Prop} (hK2 : ∀ (F : gS) (x3 : Int32), K2 F x3 → VV p l e rm_X12_goTick s m args below meth c 0 0 (MQ below (va_Qv Q (gB E) (gA E)) args s 0 0 (gA E)) E 4 F 2 [(0, .ref (ad E 121)), (1, .int x1), (2, .int x2), (3, .int x3)] []) (h : wb_X12_goTick_2 Q x1 x2 K2 F x3) : VV p l e rm_X12_goTick s m args below meth c 0 0 (MQ below (va_Qv Q (gB E) (gA E)) args s 0 0 (gA E)) E 4 F 2 [(0, .ref (ad E 121)), (1, .int x1), (2, .int x2), (3, .int x3)] [] := by
  unfold wb_X12_goTick_2 at h
  refine v_iload_n (pc := 2) hC dX12_goTick_2 rfl 3 rfl ?_
  refine v_aload_n (pc := 3) hC dX12_goTick_3 rfl 0 rfl ?_
  refine v_cip (pc := 4) (r_V (rest := [.int x3]) hC ml_X12_202 mv_X12_cells (c_X12_cells l E h) ⟨rfl, rfl⟩ ⟨Nat.le_of_ble_eq_true rfl, Nat.le_of_ble_eq_true rfl⟩ kq_121 rfl (by decide) rfl rfl (Nat.le_of_ble_eq_true rfl) ⟨Nat.zero_le _, Nat.zero_le _⟩ dX12_goTick_4) (fun r1 h => ?_)
  refine v_ic_ge (pc := 7) (tgt := 86) hC dX12_goTick_7 (by decide) h (fun h => ?_) (fun h => ?_)
  · skip
    exact v_vret (pc := 86) hC dX12_goTick_86 h
  · skip
    refine v_aload_n (pc := 10) hC dX12_goTick_10 rfl 0 rfl ?_
    refine v_get (pc := 11) (v := .ref (ad E 140)) hC fl_X12_66 kq_121 rfl dX12_goTick_11 ?_
    refine v_iload_n (pc := 14) hC dX12_goTick_14 rfl 3 rfl ?_
    refine v_dup2 (pc := 15) hC dX12_goTick_15 rfl rfl ?_
    refine v_iald (pc := 16) (n := 16) hC kq_140 (by decide) dX12_goTick_16 h (fun h => ?_)
    refine v_iload_n (pc := 17) hC dX12_goTick_17 rfl 1 rfl ?_
    refine v_aload_n (pc := 18) hC dX12_goTick_18 rfl 0 rfl ?_
    refine v_get (pc := 19) (v := .ref (ad E 122)) hC fl_X12_7 kq_121 rfl dX12_goTick_19 ?_
    refine v_iload_n (pc := 22) hC dX12_goTick_22 rfl 3 rfl ?_
    refine v_iald (pc := 23) (n := 16) hC kq_122 (by decide) dX12_goTick_23 h (fun h => ?_)
    refine v_imul (pc := 24) hC dX12_goTick_24 ?_
    refine v_aload_n (pc := 25) hC dX12_goTick_25 rfl 0 rfl ?_
    refine v_get (pc := 26) (v := .ref (ad E 140)) hC fl_X12_66 kq_121 rfl dX12_goTick_26 ?_
    refine v_iload_n (pc := 29) hC dX12_goTick_29 rfl 3 rfl ?_
    refine v_iald (pc := 30) (n := 16) hC kq_140 (by decide) dX12_goTick_30 h (fun h => ?_)
    refine v_bipush (pc := 31) (v := 10) hC dX12_goTick_31 (by decide) ?_
    refine v_idiv (pc := 33) hC dX12_goTick_33 ⟨by decide, h⟩ (fun h => ?_)
    refine v_isub (pc := 34) hC dX12_goTick_34 ?_
    refine v_iadd (pc := 35) hC dX12_goTick_35 ?_
    refine v_iast (pc := 36) (n := 16) hC kq_140 (by decide) dX12_goTick_36 h (fun F2 h => ?_)
    refine v_aload_n (pc := 37) hC dX12_goTick_37 rfl 0 rfl ?_
    refine v_get (pc := 38) (v := .ref (ad E 143)) hC fl_X12_75 kq_121 rfl dX12_goTick_38 ?_
    refine v_iload_n (pc := 41) hC dX12_goTick_41 rfl 3 rfl ?_
    refine v_iald (pc := 42) (n := 16) hC kq_143 (by decide) dX12_goTick_42 h (fun h => ?_)
    refine v_if_le (pc := 43) (tgt := 80) hC dX12_goTick_43 (by decide) h (fun h => ?_) (fun h => ?_)
    · skip
      refine v_iinc (pc := 80) (v := 1) hC (fun z => [(3, .int z), (0, .ref (ad E 121)), (1, .int x1), (2, .int x2)]) dX12_goTick_80 3 rfl (by decide) (by decide) (fun _ => rfl) h (fun n3 h => ?_)
      refine v_goto (pc := 83) (tgt := 2) hC dX12_goTick_83 (by decide) ?_
      exact v_sub [1, 2, 3, 0] rfl (hK2 _ _ h)
    · skip
      refine v_aload_n (pc := 46) hC dX12_goTick_46 rfl 0 rfl ?_
      refine v_get (pc := 47) (v := .ref (ad E 146)) hC fl_X12_84 kq_121 rfl dX12_goTick_47 ?_
      refine v_iconst (pc := 50) (v := 2) hC dX12_goTick_50 (by decide) ?_
      refine v_iload_n (pc := 51) hC dX12_goTick_51 rfl 3 rfl ?_
      refine v_imul (pc := 52) hC dX12_goTick_52 ?_
      refine v_iload_n (pc := 53) hC dX12_goTick_53 rfl 2 rfl ?_
      refine v_iadd (pc := 54) hC dX12_goTick_54 ?_
      refine v_nmi h (fun n4 h => ?_)
      refine v_dup2 (pc := 55) hC dX12_goTick_55 rfl rfl ?_
      refine v_iald (pc := 56) (n := 32) hC kq_146 (by decide) dX12_goTick_56 h (fun h => ?_)
      refine v_aload_n (pc := 57) hC dX12_goTick_57 rfl 0 rfl ?_
      refine v_get (pc := 58) (v := .ref (ad E 140)) hC fl_X12_66 kq_121 rfl dX12_goTick_58 ?_
      refine v_iload_n (pc := 61) hC dX12_goTick_61 rfl 3 rfl ?_
      refine v_iald (pc := 62) (n := 16) hC kq_140 (by decide) dX12_goTick_62 h (fun h => ?_)
      refine v_bipush (pc := 63) (v := 60) hC dX12_goTick_63 (by decide) ?_
      refine v_isub (pc := 65) hC dX12_goTick_65 ?_
      refine v_cip (pc := 66) (r_S (rest := [.int (F2 146 n4.toNatClampNeg), .int n4, .ref (ad E 146)]) hC ml_X12_230 ms_X12_atLeast (c_X12_atLeast l E h) ⟨rfl, rfl⟩ ⟨Nat.le_of_ble_eq_true rfl, Nat.le_of_ble_eq_true rfl⟩ rfl rfl (Nat.le_of_ble_eq_true rfl) ⟨Nat.zero_le _, Nat.zero_le _⟩ dX12_goTick_66) (fun r5 h => ?_)
      refine v_aload_n (pc := 69) hC dX12_goTick_69 rfl 0 rfl ?_
      refine v_get (pc := 70) (v := .ref (ad E 143)) hC fl_X12_75 kq_121 rfl dX12_goTick_70 ?_
      refine v_iload_n (pc := 73) hC dX12_goTick_73 rfl 3 rfl ?_
      refine v_iald (pc := 74) (n := 16) hC kq_143 (by decide) dX12_goTick_74 h (fun h => ?_)
      refine v_iconst (pc := 75) (v := 2) hC dX12_goTick_75 (by decide) ?_
      refine v_iadd (pc := 76) hC dX12_goTick_76 ?_
      refine v_idiv (pc := 77) hC dX12_goTick_77 h (fun h => ?_)
      refine v_iadd (pc := 78) hC dX12_goTick_78 ?_
      refine v_iast (pc := 79) (n := 32) hC kq_146 (by decide) dX12_goTick_79 h (fun F6 h => ?_)
      refine v_iinc (pc := 80) (v := 1) hC (fun z => [(3, .int z), (0, .ref (ad E 121)), (1, .int x1), (2, .int x2)]) dX12_goTick_80 3 rfl (by decide) (by decide) (fun _ => rfl) h (fun n7 h => ?_)
      refine v_goto (pc := 83) (tgt := 2) hC dX12_goTick_83 (by decide) ?_
      exact v_sub [1, 2, 3, 0] rfl (hK2 _ _ h)
set_option maxRecDepth 20000 in
set_option maxHeartbeats 4000000 in
theorem jl_X12_goTick_2 {p : Program} {l : Launch} {e : Env} {s : State} {m : MethodId} {args : Array Value} {below : List Frame} {meth : Method} {c : Code} {E : gE} (hC : CX p s m args meth c cX12_goTick RX12 none E 4) {Q : gS → Prop} {F : gS} {x1 : Int32} {x2 : Int32} {x3 : Int32} (h : LP2 (wb_X12_goTick_2 Q x1 x2) F x3) : VV p l e rm_X12_goTick s m args below meth c 0 0 (MQ below (va_Qv Q (gB E) (gA E)) args s 0 0 (gA E)) E 4 F 2 [(0, .ref (ad E 121)), (1, .int x1), (2, .int x2), (3, .int x3)] [] :=
  LP2_go (V := fun (F : gS) (x3 : Int32) => VV p l e rm_X12_goTick s m args below meth c 0 0 (MQ below (va_Qv Q (gB E) (gA E)) args s 0 0 (gA E)) E 4 F 2 [(0, .ref (ad E 121)), (1, .int x1), (2, .int x2), (3, .int x3)] []) (fun K2 hK2 F x3 h => jb_X12_goTick_2 hC hK2 h) F x3 h
set_option maxRecDepth 20000 in
set_option maxHeartbeats 4000000 in
theorem c_X12_goTick (l : Launch) (E : gE) {x1 : Int32} {x2 : Int32} {F : gS} {Q : gS → Prop} (h : wp_X12_goTick x1 x2 F Q) : CtV l E yX12_goTick cX12_goTick 4 none rm_X12_goTick [.ref (ad E 121), .int x1, .int x2] F Q := by
  refine ct_of (by decide) (Nat.le_of_ble_eq_true rfl) (fun p e s m below meth c hC => ?_)
  generalize ([.ref (ad E 121), .int x1, .int x2] : List Value).toArray = args at hC ⊢
  refine v_sub (lv' := [(0, .ref (ad E 121)), (1, .int x1), (2, .int x2)]) [0, 1, 2] rfl ?_
  unfold wp_X12_goTick at h
  refine v_iconst (pc := 0) (v := 0) hC dX12_goTick_0 (by decide) ?_
  refine v_istore_n (pc := 1) (lv' := [(3, .int 0), (0, .ref (ad E 121)), (1, .int x1), (2, .int x2)]) hC dX12_goTick_1 rfl (by decide) rfl ?_
  exact v_sub [1, 2, 3, 0] rfl (jl_X12_goTick_2 hC h)
def rm_X12_beside : Room := { frames := 1, cells := 0, slots := 0, locals := 22 }
def wp_X12_beside_51 (Q : Int32 → Prop) (F : gS) (x3 : Int32) (t0 : Int32) (t1 : Int32) : Prop :=
  Nm (t1 + t0) fun n2 =>
  wp_X12_within x3 0 ((F 121 0) - 1) F fun r3 =>
  if r3 = 0 then
    (Q (-1))
  else
    (wp_X12_within n2 0 ((F 121 1) - 1) F fun r5 =>
    if r5 = 0 then
      (Q (-1))
    else
      (Q ((x3 * (F 121 1)) + n2)))
def wp_X12_beside_24 (Q : Int32 → Prop) (F : gS) (x1 : Int32) (x2 : Int32) (t0 : Int32) (t1 : Int32) : Prop :=
  Nm (t1 + t0) fun n1 =>
  ¬ (F 121 1) = 0 ∧
  if x2 = 1 then
    (wp_X12_beside_51 Q F n1 1 (x1 - x1 / (F 121 1) * (F 121 1)))
  else
    (if x2 = 3 then
      (wp_X12_beside_51 Q F n1 (-1) (x1 - x1 / (F 121 1) * (F 121 1)))
    else
      (wp_X12_beside_51 Q F n1 0 (x1 - x1 / (F 121 1) * (F 121 1))))
def wp_X12_beside (x1 : Int32) (x2 : Int32) (F : gS) (Q : Int32 → Prop) : Prop :=
  ¬ (F 121 1) = 0 ∧
  if x2 = 0 then
    (wp_X12_beside_24 Q F x1 x2 (-1) (x1 / (F 121 1)))
  else
    (if x2 = 2 then
      (wp_X12_beside_24 Q F x1 x2 1 (x1 / (F 121 1)))
    else
      (wp_X12_beside_24 Q F x1 x2 0 (x1 / (F 121 1))))
set_option maxRecDepth 20000 in
set_option maxHeartbeats 4000000 in
theorem j_X12_beside_51 {p : Program} {l : Launch} {e : Env} {s : State} {m : MethodId} {args : Array Value} {below : List Frame} {meth : Method} {c : Code} {E : gE} (hC : CX p s m args meth c cX12_beside RX12 (some .int) E 5) {Q : Int32 → Prop} {F : gS} {x3 : Int32} {t0 : Int32} {t1 : Int32} (h : wp_X12_beside_51 Q F x3 t0 t1) : VV p l e rm_X12_beside s m args below meth c 0 0 (MQ below (va_Qi (fun r G => G = F ∧ Q r) (gB E) (gA E)) args s 0 0 (gA E)) E 5 F 51 [(0, .ref (ad E 121)), (3, .int x3)] [.int t0, .int t1] := by
  unfold wp_X12_beside_51 at h
  refine v_iadd (pc := 51) hC dX12_beside_51 ?_
  refine v_nmi h (fun n2 h => ?_)
  refine v_istore (pc := 52) (lv' := [(4, .int n2), (0, .ref (ad E 121)), (3, .int x3)]) hC dX12_beside_52 (by decide) rfl ?_
  refine v_iload_n (pc := 54) hC dX12_beside_54 rfl 2 rfl ?_
  refine v_iconst (pc := 55) (v := 0) hC dX12_beside_55 (by decide) ?_
  refine v_aload_n (pc := 56) hC dX12_beside_56 rfl 1 rfl ?_
  refine v_get (pc := 57) (v := .int (F 121 0)) hC fl_X12_178 kq_121 rfl dX12_beside_57 ?_
  refine v_iconst (pc := 60) (v := 1) hC dX12_beside_60 (by decide) ?_
  refine v_isub (pc := 61) hC dX12_beside_61 ?_
  refine v_cyp (pc := 62) (r_S (rest := []) hC ml_X12_102 ms_X12_within (c_X12_within l E h) ⟨rfl, rfl⟩ ⟨Nat.le_of_ble_eq_true rfl, Nat.le_of_ble_eq_true rfl⟩ rfl rfl (Nat.le_of_ble_eq_true rfl) ⟨Nat.zero_le _, Nat.zero_le _⟩ dX12_beside_62) (fun r3 b4 h => ?_)
  refine v_if_eq (pc := 65) (tgt := 95) hC dX12_beside_65 (by decide) h (fun h => ?_) (fun h => ?_)
  · skip
    refine v_iconst (pc := 95) (v := (-1)) hC dX12_beside_95 (by decide) ?_
    exact v_iret (pc := 96) hC dX12_beside_96 ⟨rfl, h⟩
  · skip
    refine v_iload (pc := 68) hC dX12_beside_68 0 rfl ?_
    refine v_iconst (pc := 70) (v := 0) hC dX12_beside_70 (by decide) ?_
    refine v_aload_n (pc := 71) hC dX12_beside_71 rfl 1 rfl ?_
    refine v_get (pc := 72) (v := .int (F 121 1)) hC fl_X12_181 kq_121 rfl dX12_beside_72 ?_
    refine v_iconst (pc := 75) (v := 1) hC dX12_beside_75 (by decide) ?_
    refine v_isub (pc := 76) hC dX12_beside_76 ?_
    refine v_cyp (pc := 77) (r_S (rest := []) hC ml_X12_102 ms_X12_within (c_X12_within l E h) ⟨rfl, rfl⟩ ⟨Nat.le_of_ble_eq_true rfl, Nat.le_of_ble_eq_true rfl⟩ rfl rfl (Nat.le_of_ble_eq_true rfl) ⟨Nat.zero_le _, Nat.zero_le _⟩ dX12_beside_77) (fun r5 b6 h => ?_)
    refine v_if_eq (pc := 80) (tgt := 95) hC dX12_beside_80 (by decide) h (fun h => ?_) (fun h => ?_)
    · skip
      refine v_iconst (pc := 95) (v := (-1)) hC dX12_beside_95 (by decide) ?_
      exact v_iret (pc := 96) hC dX12_beside_96 ⟨rfl, h⟩
    · skip
      refine v_iload_n (pc := 83) hC dX12_beside_83 rfl 2 rfl ?_
      refine v_aload_n (pc := 84) hC dX12_beside_84 rfl 1 rfl ?_
      refine v_get (pc := 85) (v := .int (F 121 1)) hC fl_X12_181 kq_121 rfl dX12_beside_85 ?_
      refine v_imul (pc := 88) hC dX12_beside_88 ?_
      refine v_iload (pc := 89) hC dX12_beside_89 0 rfl ?_
      refine v_iadd (pc := 91) hC dX12_beside_91 ?_
      refine v_goto (pc := 92) (tgt := 96) hC dX12_beside_92 (by decide) ?_
      exact v_iret (pc := 96) hC dX12_beside_96 ⟨rfl, h⟩
set_option maxRecDepth 20000 in
set_option maxHeartbeats 4000000 in
theorem j_X12_beside_24 {p : Program} {l : Launch} {e : Env} {s : State} {m : MethodId} {args : Array Value} {below : List Frame} {meth : Method} {c : Code} {E : gE} (hC : CX p s m args meth c cX12_beside RX12 (some .int) E 5) {Q : Int32 → Prop} {F : gS} {x1 : Int32} {x2 : Int32} {t0 : Int32} {t1 : Int32} (h : wp_X12_beside_24 Q F x1 x2 t0 t1) : VV p l e rm_X12_beside s m args below meth c 0 0 (MQ below (va_Qi (fun r G => G = F ∧ Q r) (gB E) (gA E)) args s 0 0 (gA E)) E 5 F 24 [(0, .ref (ad E 121)), (1, .int x1), (2, .int x2)] [.int t0, .int t1] := by
  unfold wp_X12_beside_24 at h
  refine v_iadd (pc := 24) hC dX12_beside_24 ?_
  refine v_nmi h (fun n1 h => ?_)
  refine v_istore_n (pc := 25) (lv' := [(3, .int n1), (0, .ref (ad E 121)), (1, .int x1), (2, .int x2)]) hC dX12_beside_25 rfl (by decide) rfl ?_
  refine v_iload_n (pc := 26) hC dX12_beside_26 rfl 2 rfl ?_
  refine v_aload_n (pc := 27) hC dX12_beside_27 rfl 1 rfl ?_
  refine v_get (pc := 28) (v := .int (F 121 1)) hC fl_X12_181 kq_121 rfl dX12_beside_28 ?_
  refine v_irem (pc := 31) hC dX12_beside_31 h (fun h => ?_)
  refine v_iload_n (pc := 32) hC dX12_beside_32 rfl 3 rfl ?_
  refine v_iconst (pc := 33) (v := 1) hC dX12_beside_33 (by decide) ?_
  refine v_ic_ne (pc := 34) (tgt := 41) hC dX12_beside_34 (by decide) h (fun h => ?_) (fun h => ?_)
  · skip
    refine v_iload_n (pc := 41) hC dX12_beside_41 rfl 3 rfl ?_
    refine v_iconst (pc := 42) (v := 3) hC dX12_beside_42 (by decide) ?_
    refine v_ic_ne (pc := 43) (tgt := 50) hC dX12_beside_43 (by decide) h (fun h => ?_) (fun h => ?_)
    · skip
      refine v_iconst (pc := 50) (v := 0) hC dX12_beside_50 (by decide) ?_
      exact v_sub [1, 0] rfl (j_X12_beside_51 hC h)
    · skip
      refine v_iconst (pc := 46) (v := (-1)) hC dX12_beside_46 (by decide) ?_
      refine v_goto (pc := 47) (tgt := 51) hC dX12_beside_47 (by decide) ?_
      exact v_sub [1, 0] rfl (j_X12_beside_51 hC h)
  · skip
    refine v_iconst (pc := 37) (v := 1) hC dX12_beside_37 (by decide) ?_
    refine v_goto (pc := 38) (tgt := 51) hC dX12_beside_38 (by decide) ?_
    exact v_sub [1, 0] rfl (j_X12_beside_51 hC h)
set_option maxRecDepth 20000 in
set_option maxHeartbeats 4000000 in
theorem c_X12_beside (l : Launch) (E : gE) {x1 : Int32} {x2 : Int32} {F : gS} {Q : Int32 → Prop} (h : wp_X12_beside x1 x2 F Q) : CtI l E yX12_beside cX12_beside 5 (some .int) rm_X12_beside [.ref (ad E 121), .int x1, .int x2] F (fun r G => G = F ∧ Q r) := by
  refine ct_of (by decide) (Nat.le_of_ble_eq_true rfl) (fun p e s m below meth c hC => ?_)
  generalize ([.ref (ad E 121), .int x1, .int x2] : List Value).toArray = args at hC ⊢
  refine v_sub (lv' := [(0, .ref (ad E 121)), (1, .int x1), (2, .int x2)]) [0, 1, 2] rfl ?_
  unfold wp_X12_beside at h
  refine v_iload_n (pc := 0) hC dX12_beside_0 rfl 1 rfl ?_
  refine v_aload_n (pc := 1) hC dX12_beside_1 rfl 0 rfl ?_
  refine v_get (pc := 2) (v := .int (F 121 1)) hC fl_X12_181 kq_121 rfl dX12_beside_2 ?_
  refine v_idiv (pc := 5) hC dX12_beside_5 h (fun h => ?_)
  refine v_iload_n (pc := 6) hC dX12_beside_6 rfl 2 rfl ?_
  refine v_if_ne (pc := 7) (tgt := 14) hC dX12_beside_7 (by decide) h (fun h => ?_) (fun h => ?_)
  · skip
    refine v_iload_n (pc := 14) hC dX12_beside_14 rfl 2 rfl ?_
    refine v_iconst (pc := 15) (v := 2) hC dX12_beside_15 (by decide) ?_
    refine v_ic_ne (pc := 16) (tgt := 23) hC dX12_beside_16 (by decide) h (fun h => ?_) (fun h => ?_)
    · skip
      refine v_iconst (pc := 23) (v := 0) hC dX12_beside_23 (by decide) ?_
      exact v_sub [0, 1, 2] rfl (j_X12_beside_24 hC h)
    · skip
      refine v_iconst (pc := 19) (v := 1) hC dX12_beside_19 (by decide) ?_
      refine v_goto (pc := 20) (tgt := 24) hC dX12_beside_20 (by decide) ?_
      exact v_sub [0, 1, 2] rfl (j_X12_beside_24 hC h)
  · skip
    refine v_iconst (pc := 10) (v := (-1)) hC dX12_beside_10 (by decide) ?_
    refine v_goto (pc := 11) (tgt := 24) hC dX12_beside_11 (by decide) ?_
    exact v_sub [0, 1, 2] rfl (j_X12_beside_24 hC h)
def rm_X12_goSwing : Room := { frames := 2, cells := 0, slots := 0, locals := 46 }
def wp_X12_goSwing_53 (K11 : gS → Int32 → Prop) (Q : gS → Prop) (F : gS) (x1 : Int32) (x2 : Int32) (t0 : Int32) : Prop :=
  vp_in t0 16 ∧ Nm (upF F 145 t0.toNatClampNeg (vp_nar .boolean 1)) fun F20 =>
  vp_in x2 16 ∧ Nm (upF F20 144 x2.toNatClampNeg 0) fun F21 =>
  Nm (x2 + 1) fun n22 =>
  K11 F21 n22
def wb_X12_goSwing_173 (Q : gS → Prop) (K173 : gS → Int32 → Prop) (F : gS) (x2 : Int32) : Prop :=
  wp_X12_cells F fun r23 =>
  if r23 ≤ x2 then
    (Q F)
  else
    (vp_in x2 16 ∧
    vp_in x2 16 ∧
    vp_in x2 16 ∧ Nm (upF F 143 x2.toNatClampNeg ((F 143 x2.toNatClampNeg) + (F 144 x2.toNatClampNeg))) fun F24 =>
    Nm (x2 + 1) fun n25 =>
    K173 F24 n25)
def wb_X12_goSwing_74 (Q : gS → Prop) (x1 : Int32) (K74 : gS → Int32 → Prop) (F : gS) (x2 : Int32) : Prop :=
  wp_X12_cells F fun r9 =>
  if r9 ≤ x2 then
    (LP2 (wb_X12_goSwing_173 Q) F 0)
  else
    (wp_X12_beside x2 x1 F fun r10 =>
    vp_in x2 16 ∧
    if (F 145 x2.toNatClampNeg) = 0 then
      (if r10 = (-1) then
        (Nm (x2 + 1) fun n12 =>
        K74 F n12)
      else
        (vp_in x2 16 ∧
        if (F 143 x2.toNatClampNeg) ≤ 1 then
          (Nm (x2 + 1) fun n13 =>
          K74 F n13)
        else
          (vp_in x2 16 ∧
          Nm ((F 143 x2.toNatClampNeg) / 2) fun n14 =>
          vp_in x2 16 ∧
          vp_in x2 16 ∧ Nm (upF F 144 x2.toNatClampNeg ((F 144 x2.toNatClampNeg) - n14)) fun F15 =>
          vp_in r10 16 ∧
          vp_in r10 16 ∧ Nm (upF F15 144 r10.toNatClampNeg ((F15 144 r10.toNatClampNeg) + n14)) fun F16 =>
          vp_in r10 16 ∧
          wp_X12_atLeast ((F16 140 r10.toNatClampNeg) - (2 * n14)) F16 fun r17 =>
          vp_in r10 16 ∧ Nm (upF F16 140 r10.toNatClampNeg r17) fun F18 =>
          Nm (x2 + 1) fun n19 =>
          K74 F18 n19)))
    else
      (Nm (x2 + 1) fun n11 =>
      K74 F n11))
def wb_X12_goSwing_11 (Q : gS → Prop) (x1 : Int32) (K11 : gS → Int32 → Prop) (F : gS) (x2 : Int32) : Prop :=
  wp_X12_cells F fun r2 =>
  if r2 ≤ x2 then
    (LP2 (wb_X12_goSwing_74 Q x1) F 0)
  else
    (vp_in x2 16 ∧
    if (F 145 x2.toNatClampNeg) = 0 then
      (vp_in x2 16 ∧
      if (F 143 x2.toNatClampNeg) ≤ 0 then
        (vp_in x2 16 ∧ Nm (upF F 145 x2.toNatClampNeg (vp_nar .boolean 0)) fun F3 =>
        vp_in x2 16 ∧ Nm (upF F3 144 x2.toNatClampNeg 0) fun F4 =>
        Nm (x2 + 1) fun n5 =>
        K11 F4 n5)
      else
        (vp_in x2 16 ∧
        if (F 140 x2.toNatClampNeg) < 100 then
          (vp_in x2 16 ∧ Nm (upF F 145 x2.toNatClampNeg (vp_nar .boolean 0)) fun F6 =>
          vp_in x2 16 ∧ Nm (upF F6 144 x2.toNatClampNeg 0) fun F7 =>
          Nm (x2 + 1) fun n8 =>
          K11 F7 n8)
        else
          (wp_X12_goSwing_53 K11 Q F x1 x2 x2)))
    else
      (wp_X12_goSwing_53 K11 Q F x1 x2 x2))
def wp_X12_goSwing (x1 : Int32) (F : gS) (Q : gS → Prop) : Prop :=
  wp_X12_goTick (F 121 44) 0 F fun F1 =>
  LP2 (wb_X12_goSwing_11 Q x1) F1 0
set_option maxRecDepth 20000 in
set_option maxHeartbeats 4000000 in
theorem j_X12_goSwing_53 {p : Program} {l : Launch} {e : Env} {s : State} {m : MethodId} {args : Array Value} {below : List Frame} {meth : Method} {c : Code} {E : gE} (hC : CX p s m args meth c cX12_goSwing RX12 none E 5) {Q : gS → Prop} {F : gS} {x1 : Int32} {x2 : Int32} {t0 : Int32} {K11 : gS → Int32 → Prop} (hK11 : ∀ (F : gS) (x2 : Int32), K11 F x2 → VV p l e rm_X12_goSwing s m args below meth c 0 0 (MQ below (va_Qv Q (gB E) (gA E)) args s 0 0 (gA E)) E 5 F 11 [(0, .ref (ad E 121)), (1, .int x1), (2, .int x2)] []) (h : wp_X12_goSwing_53 K11 Q F x1 x2 t0) : VV p l e rm_X12_goSwing s m args below meth c 0 0 (MQ below (va_Qv Q (gB E) (gA E)) args s 0 0 (gA E)) E 5 F 53 [(0, .ref (ad E 121)), (1, .int x1), (2, .int x2)] [.int t0, .ref (ad E 145)] := by
  unfold wp_X12_goSwing_53 at h
  refine v_iconst (pc := 53) (v := 1) hC dX12_goSwing_53 (by decide) ?_
  refine v_goto (pc := 54) (tgt := 58) hC dX12_goSwing_54 (by decide) ?_
  refine v_zast (pc := 58) (n := 16) hC kq_145 (by decide) dX12_goSwing_58 h (fun F20 h => ?_)
  refine v_aload_n (pc := 59) hC dX12_goSwing_59 rfl 0 rfl ?_
  refine v_get (pc := 60) (v := .ref (ad E 144)) hC fl_X12_78 kq_121 rfl dX12_goSwing_60 ?_
  refine v_iload_n (pc := 63) hC dX12_goSwing_63 rfl 2 rfl ?_
  refine v_iconst (pc := 64) (v := 0) hC dX12_goSwing_64 (by decide) ?_
  refine v_iast (pc := 65) (n := 16) hC kq_144 (by decide) dX12_goSwing_65 h (fun F21 h => ?_)
  refine v_iinc (pc := 66) (v := 1) hC (fun z => [(2, .int z), (0, .ref (ad E 121)), (1, .int x1)]) dX12_goSwing_66 2 rfl (by decide) (by decide) (fun _ => rfl) h (fun n22 h => ?_)
  refine v_goto (pc := 69) (tgt := 11) hC dX12_goSwing_69 (by decide) ?_
  exact v_sub [1, 2, 0] rfl (hK11 _ _ h)
set_option maxRecDepth 20000 in
set_option maxHeartbeats 4000000 in
theorem jb_X12_goSwing_173 {p : Program} {l : Launch} {e : Env} {s : State} {m : MethodId} {args : Array Value} {below : List Frame} {meth : Method} {c : Code} {E : gE} (hC : CX p s m args meth c cX12_goSwing RX12 none E 5) {Q : gS → Prop} {F : gS} {x2 : Int32} {K173 : gS → Int32 → Prop} (hK173 : ∀ (F : gS) (x2 : Int32), K173 F x2 → VV p l e rm_X12_goSwing s m args below meth c 0 0 (MQ below (va_Qv Q (gB E) (gA E)) args s 0 0 (gA E)) E 5 F 173 [(0, .ref (ad E 121)), (2, .int x2)] []) (h : wb_X12_goSwing_173 Q K173 F x2) : VV p l e rm_X12_goSwing s m args below meth c 0 0 (MQ below (va_Qv Q (gB E) (gA E)) args s 0 0 (gA E)) E 5 F 173 [(0, .ref (ad E 121)), (2, .int x2)] [] := by
  unfold wb_X12_goSwing_173 at h
  refine v_iload_n (pc := 173) hC dX12_goSwing_173 rfl 1 rfl ?_
  refine v_aload_n (pc := 174) hC dX12_goSwing_174 rfl 0 rfl ?_
  refine v_cip (pc := 175) (r_V (rest := [.int x2]) hC ml_X12_202 mv_X12_cells (c_X12_cells l E h) ⟨rfl, rfl⟩ ⟨Nat.le_of_ble_eq_true rfl, Nat.le_of_ble_eq_true rfl⟩ kq_121 rfl (by decide) rfl rfl (Nat.le_of_ble_eq_true rfl) ⟨Nat.zero_le _, Nat.zero_le _⟩ dX12_goSwing_175) (fun r23 h => ?_)
  refine v_ic_ge (pc := 178) (tgt := 202) hC dX12_goSwing_178 (by decide) h (fun h => ?_) (fun h => ?_)
  · skip
    exact v_vret (pc := 202) hC dX12_goSwing_202 h
  · skip
    refine v_aload_n (pc := 181) hC dX12_goSwing_181 rfl 0 rfl ?_
    refine v_get (pc := 182) (v := .ref (ad E 143)) hC fl_X12_75 kq_121 rfl dX12_goSwing_182 ?_
    refine v_iload_n (pc := 185) hC dX12_goSwing_185 rfl 1 rfl ?_
    refine v_dup2 (pc := 186) hC dX12_goSwing_186 rfl rfl ?_
    refine v_iald (pc := 187) (n := 16) hC kq_143 (by decide) dX12_goSwing_187 h (fun h => ?_)
    refine v_aload_n (pc := 188) hC dX12_goSwing_188 rfl 0 rfl ?_
    refine v_get (pc := 189) (v := .ref (ad E 144)) hC fl_X12_78 kq_121 rfl dX12_goSwing_189 ?_
    refine v_iload_n (pc := 192) hC dX12_goSwing_192 rfl 1 rfl ?_
    refine v_iald (pc := 193) (n := 16) hC kq_144 (by decide) dX12_goSwing_193 h (fun h => ?_)
    refine v_iadd (pc := 194) hC dX12_goSwing_194 ?_
    refine v_iast (pc := 195) (n := 16) hC kq_143 (by decide) dX12_goSwing_195 h (fun F24 h => ?_)
    refine v_iinc (pc := 196) (v := 1) hC (fun z => [(2, .int z), (0, .ref (ad E 121))]) dX12_goSwing_196 1 rfl (by decide) (by decide) (fun _ => rfl) h (fun n25 h => ?_)
    refine v_goto (pc := 199) (tgt := 173) hC dX12_goSwing_199 (by decide) ?_
    exact v_sub [1, 0] rfl (hK173 _ _ h)
set_option maxRecDepth 20000 in
set_option maxHeartbeats 4000000 in
theorem jl_X12_goSwing_173 {p : Program} {l : Launch} {e : Env} {s : State} {m : MethodId} {args : Array Value} {below : List Frame} {meth : Method} {c : Code} {E : gE} (hC : CX p s m args meth c cX12_goSwing RX12 none E 5) {Q : gS → Prop} {F : gS} {x2 : Int32} (h : LP2 (wb_X12_goSwing_173 Q) F x2) : VV p l e rm_X12_goSwing s m args below meth c 0 0 (MQ below (va_Qv Q (gB E) (gA E)) args s 0 0 (gA E)) E 5 F 173 [(0, .ref (ad E 121)), (2, .int x2)] [] :=
  LP2_go (V := fun (F : gS) (x2 : Int32) => VV p l e rm_X12_goSwing s m args below meth c 0 0 (MQ below (va_Qv Q (gB E) (gA E)) args s 0 0 (gA E)) E 5 F 173 [(0, .ref (ad E 121)), (2, .int x2)] []) (fun K173 hK173 F x2 h => jb_X12_goSwing_173 hC hK173 h) F x2 h
set_option maxRecDepth 20000 in
set_option maxHeartbeats 4000000 in
theorem jb_X12_goSwing_74 {p : Program} {l : Launch} {e : Env} {s : State} {m : MethodId} {args : Array Value} {below : List Frame} {meth : Method} {c : Code} {E : gE} (hC : CX p s m args meth c cX12_goSwing RX12 none E 5) {Q : gS → Prop} {F : gS} {x1 : Int32} {x2 : Int32} {K74 : gS → Int32 → Prop} (hK74 : ∀ (F : gS) (x2 : Int32), K74 F x2 → VV p l e rm_X12_goSwing s m args below meth c 0 0 (MQ below (va_Qv Q (gB E) (gA E)) args s 0 0 (gA E)) E 5 F 74 [(0, .ref (ad E 121)), (1, .int x1), (2, .int x2)] []) (h : wb_X12_goSwing_74 Q x1 K74 F x2) : VV p l e rm_X12_goSwing s m args below meth c 0 0 (MQ below (va_Qv Q (gB E) (gA E)) args s 0 0 (gA E)) E 5 F 74 [(0, .ref (ad E 121)), (1, .int x1), (2, .int x2)] [] := by
  unfold wb_X12_goSwing_74 at h
  refine v_iload_n (pc := 74) hC dX12_goSwing_74 rfl 2 rfl ?_
  refine v_aload_n (pc := 75) hC dX12_goSwing_75 rfl 0 rfl ?_
  refine v_cip (pc := 76) (r_V (rest := [.int x2]) hC ml_X12_202 mv_X12_cells (c_X12_cells l E h) ⟨rfl, rfl⟩ ⟨Nat.le_of_ble_eq_true rfl, Nat.le_of_ble_eq_true rfl⟩ kq_121 rfl (by decide) rfl rfl (Nat.le_of_ble_eq_true rfl) ⟨Nat.zero_le _, Nat.zero_le _⟩ dX12_goSwing_76) (fun r9 h => ?_)
  refine v_ic_ge (pc := 79) (tgt := 171) hC dX12_goSwing_79 (by decide) h (fun h => ?_) (fun h => ?_)
  · skip
    refine v_iconst (pc := 171) (v := 0) hC dX12_goSwing_171 (by decide) ?_
    refine v_istore_n (pc := 172) (lv' := [(2, .int 0), (0, .ref (ad E 121)), (1, .int x1)]) hC dX12_goSwing_172 rfl (by decide) rfl ?_
    exact v_sub [1, 0] rfl (jl_X12_goSwing_173 hC h)
  · skip
    refine v_aload_n (pc := 82) hC dX12_goSwing_82 rfl 0 rfl ?_
    refine v_iload_n (pc := 83) hC dX12_goSwing_83 rfl 2 rfl ?_
    refine v_iload_n (pc := 84) hC dX12_goSwing_84 rfl 1 rfl ?_
    refine v_cip (pc := 85) (r_V (rest := []) hC ml_X12_236 mv_X12_beside (c_X12_beside l E h) ⟨rfl, rfl⟩ ⟨Nat.le_of_ble_eq_true rfl, Nat.le_of_ble_eq_true rfl⟩ kq_121 rfl (by decide) rfl rfl (Nat.le_of_ble_eq_true rfl) ⟨Nat.zero_le _, Nat.zero_le _⟩ dX12_goSwing_85) (fun r10 h => ?_)
    refine v_istore_n (pc := 88) (lv' := [(3, .int r10), (0, .ref (ad E 121)), (1, .int x1), (2, .int x2)]) hC dX12_goSwing_88 rfl (by decide) rfl ?_
    refine v_aload_n (pc := 89) hC dX12_goSwing_89 rfl 1 rfl ?_
    refine v_get (pc := 90) (v := .ref (ad E 145)) hC fl_X12_81 kq_121 rfl dX12_goSwing_90 ?_
    refine v_iload_n (pc := 93) hC dX12_goSwing_93 rfl 3 rfl ?_
    refine v_zald (pc := 94) (n := 16) hC kq_145 (by decide) dX12_goSwing_94 h (fun h => ?_)
    refine v_if_ne (pc := 95) (tgt := 165) hC dX12_goSwing_95 (by decide) h (fun h => ?_) (fun h => ?_)
    · skip
      refine v_iinc (pc := 165) (v := 1) hC (fun z => [(2, .int z), (3, .int r10), (0, .ref (ad E 121)), (1, .int x1)]) dX12_goSwing_165 3 rfl (by decide) (by decide) (fun _ => rfl) h (fun n11 h => ?_)
      refine v_goto (pc := 168) (tgt := 74) hC dX12_goSwing_168 (by decide) ?_
      exact v_sub [2, 3, 0] rfl (hK74 _ _ h)
    · skip
      refine v_iload_n (pc := 98) hC dX12_goSwing_98 rfl 0 rfl ?_
      refine v_iconst (pc := 99) (v := (-1)) hC dX12_goSwing_99 (by decide) ?_
      refine v_ic_eq (pc := 100) (tgt := 165) hC dX12_goSwing_100 (by decide) h (fun h => ?_) (fun h => ?_)
      · skip
        refine v_iinc (pc := 165) (v := 1) hC (fun z => [(2, .int z), (3, .int r10), (0, .ref (ad E 121)), (1, .int x1)]) dX12_goSwing_165 3 rfl (by decide) (by decide) (fun _ => rfl) h (fun n12 h => ?_)
        refine v_goto (pc := 168) (tgt := 74) hC dX12_goSwing_168 (by decide) ?_
        exact v_sub [2, 3, 0] rfl (hK74 _ _ h)
      · skip
        refine v_aload_n (pc := 103) hC dX12_goSwing_103 rfl 1 rfl ?_
        refine v_get (pc := 104) (v := .ref (ad E 143)) hC fl_X12_75 kq_121 rfl dX12_goSwing_104 ?_
        refine v_iload_n (pc := 107) hC dX12_goSwing_107 rfl 3 rfl ?_
        refine v_iald (pc := 108) (n := 16) hC kq_143 (by decide) dX12_goSwing_108 h (fun h => ?_)
        refine v_iconst (pc := 109) (v := 1) hC dX12_goSwing_109 (by decide) ?_
        refine v_ic_le (pc := 110) (tgt := 165) hC dX12_goSwing_110 (by decide) h (fun h => ?_) (fun h => ?_)
        · skip
          refine v_iinc (pc := 165) (v := 1) hC (fun z => [(2, .int z), (3, .int r10), (0, .ref (ad E 121)), (1, .int x1)]) dX12_goSwing_165 3 rfl (by decide) (by decide) (fun _ => rfl) h (fun n13 h => ?_)
          refine v_goto (pc := 168) (tgt := 74) hC dX12_goSwing_168 (by decide) ?_
          exact v_sub [2, 3, 0] rfl (hK74 _ _ h)
        · skip
          refine v_aload_n (pc := 113) hC dX12_goSwing_113 rfl 1 rfl ?_
          refine v_get (pc := 114) (v := .ref (ad E 143)) hC fl_X12_75 kq_121 rfl dX12_goSwing_114 ?_
          refine v_iload_n (pc := 117) hC dX12_goSwing_117 rfl 3 rfl ?_
          refine v_iald (pc := 118) (n := 16) hC kq_143 (by decide) dX12_goSwing_118 h (fun h => ?_)
          refine v_iconst (pc := 119) (v := 2) hC dX12_goSwing_119 (by decide) ?_
          refine v_idiv (pc := 120) hC dX12_goSwing_120 ⟨by decide, h⟩ (fun h => ?_)
          refine v_nmi h (fun n14 h => ?_)
          refine v_istore (pc := 121) (lv' := [(4, .int n14), (3, .int r10), (0, .ref (ad E 121)), (1, .int x1), (2, .int x2)]) hC dX12_goSwing_121 (by decide) rfl ?_
          refine v_aload_n (pc := 123) hC dX12_goSwing_123 rfl 2 rfl ?_
          refine v_get (pc := 124) (v := .ref (ad E 144)) hC fl_X12_78 kq_121 rfl dX12_goSwing_124 ?_
          refine v_iload_n (pc := 127) hC dX12_goSwing_127 rfl 4 rfl ?_
          refine v_dup2 (pc := 128) hC dX12_goSwing_128 rfl rfl ?_
          refine v_iald (pc := 129) (n := 16) hC kq_144 (by decide) dX12_goSwing_129 h (fun h => ?_)
          refine v_iload (pc := 130) hC dX12_goSwing_130 0 rfl ?_
          refine v_isub (pc := 132) hC dX12_goSwing_132 ?_
          refine v_iast (pc := 133) (n := 16) hC kq_144 (by decide) dX12_goSwing_133 h (fun F15 h => ?_)
          refine v_aload_n (pc := 134) hC dX12_goSwing_134 rfl 2 rfl ?_
          refine v_get (pc := 135) (v := .ref (ad E 144)) hC fl_X12_78 kq_121 rfl dX12_goSwing_135 ?_
          refine v_iload_n (pc := 138) hC dX12_goSwing_138 rfl 1 rfl ?_
          refine v_dup2 (pc := 139) hC dX12_goSwing_139 rfl rfl ?_
          refine v_iald (pc := 140) (n := 16) hC kq_144 (by decide) dX12_goSwing_140 h (fun h => ?_)
          refine v_iload (pc := 141) hC dX12_goSwing_141 0 rfl ?_
          refine v_iadd (pc := 143) hC dX12_goSwing_143 ?_
          refine v_iast (pc := 144) (n := 16) hC kq_144 (by decide) dX12_goSwing_144 h (fun F16 h => ?_)
          refine v_aload_n (pc := 145) hC dX12_goSwing_145 rfl 2 rfl ?_
          refine v_get (pc := 146) (v := .ref (ad E 140)) hC fl_X12_66 kq_121 rfl dX12_goSwing_146 ?_
          refine v_iload_n (pc := 149) hC dX12_goSwing_149 rfl 1 rfl ?_
          refine v_aload_n (pc := 150) hC dX12_goSwing_150 rfl 2 rfl ?_
          refine v_get (pc := 151) (v := .ref (ad E 140)) hC fl_X12_66 kq_121 rfl dX12_goSwing_151 ?_
          refine v_iload_n (pc := 154) hC dX12_goSwing_154 rfl 1 rfl ?_
          refine v_iald (pc := 155) (n := 16) hC kq_140 (by decide) dX12_goSwing_155 h (fun h => ?_)
          refine v_iconst (pc := 156) (v := 2) hC dX12_goSwing_156 (by decide) ?_
          refine v_iload (pc := 157) hC dX12_goSwing_157 0 rfl ?_
          refine v_imul (pc := 159) hC dX12_goSwing_159 ?_
          refine v_isub (pc := 160) hC dX12_goSwing_160 ?_
          refine v_cip (pc := 161) (r_S (rest := [.int r10, .ref (ad E 140)]) hC ml_X12_230 ms_X12_atLeast (c_X12_atLeast l E h) ⟨rfl, rfl⟩ ⟨Nat.le_of_ble_eq_true rfl, Nat.le_of_ble_eq_true rfl⟩ rfl rfl (Nat.le_of_ble_eq_true rfl) ⟨Nat.zero_le _, Nat.zero_le _⟩ dX12_goSwing_161) (fun r17 h => ?_)
          refine v_iast (pc := 164) (n := 16) hC kq_140 (by decide) dX12_goSwing_164 h (fun F18 h => ?_)
          refine v_iinc (pc := 165) (v := 1) hC (fun z => [(2, .int z), (4, .int n14), (3, .int r10), (0, .ref (ad E 121)), (1, .int x1)]) dX12_goSwing_165 4 rfl (by decide) (by decide) (fun _ => rfl) h (fun n19 h => ?_)
          refine v_goto (pc := 168) (tgt := 74) hC dX12_goSwing_168 (by decide) ?_
          exact v_sub [3, 4, 0] rfl (hK74 _ _ h)
set_option maxRecDepth 20000 in
set_option maxHeartbeats 4000000 in
theorem jl_X12_goSwing_74 {p : Program} {l : Launch} {e : Env} {s : State} {m : MethodId} {args : Array Value} {below : List Frame} {meth : Method} {c : Code} {E : gE} (hC : CX p s m args meth c cX12_goSwing RX12 none E 5) {Q : gS → Prop} {F : gS} {x1 : Int32} {x2 : Int32} (h : LP2 (wb_X12_goSwing_74 Q x1) F x2) : VV p l e rm_X12_goSwing s m args below meth c 0 0 (MQ below (va_Qv Q (gB E) (gA E)) args s 0 0 (gA E)) E 5 F 74 [(0, .ref (ad E 121)), (1, .int x1), (2, .int x2)] [] :=
  LP2_go (V := fun (F : gS) (x2 : Int32) => VV p l e rm_X12_goSwing s m args below meth c 0 0 (MQ below (va_Qv Q (gB E) (gA E)) args s 0 0 (gA E)) E 5 F 74 [(0, .ref (ad E 121)), (1, .int x1), (2, .int x2)] []) (fun K74 hK74 F x2 h => jb_X12_goSwing_74 hC hK74 h) F x2 h
set_option maxRecDepth 20000 in
set_option maxHeartbeats 4000000 in
theorem jb_X12_goSwing_11 {p : Program} {l : Launch} {e : Env} {s : State} {m : MethodId} {args : Array Value} {below : List Frame} {meth : Method} {c : Code} {E : gE} (hC : CX p s m args meth c cX12_goSwing RX12 none E 5) {Q : gS → Prop} {F : gS} {x1 : Int32} {x2 : Int32} {K11 : gS → Int32 → Prop} (hK11 : ∀ (F : gS) (x2 : Int32), K11 F x2 → VV p l e rm_X12_goSwing s m args below meth c 0 0 (MQ below (va_Qv Q (gB E) (gA E)) args s 0 0 (gA E)) E 5 F 11 [(0, .ref (ad E 121)), (1, .int x1), (2, .int x2)] []) (h : wb_X12_goSwing_11 Q x1 K11 F x2) : VV p l e rm_X12_goSwing s m args below meth c 0 0 (MQ below (va_Qv Q (gB E) (gA E)) args s 0 0 (gA E)) E 5 F 11 [(0, .ref (ad E 121)), (1, .int x1), (2, .int x2)] [] := by
  unfold wb_X12_goSwing_11 at h
  refine v_iload_n (pc := 11) hC dX12_goSwing_11 rfl 2 rfl ?_
  refine v_aload_n (pc := 12) hC dX12_goSwing_12 rfl 0 rfl ?_
  refine v_cip (pc := 13) (r_V (rest := [.int x2]) hC ml_X12_202 mv_X12_cells (c_X12_cells l E h) ⟨rfl, rfl⟩ ⟨Nat.le_of_ble_eq_true rfl, Nat.le_of_ble_eq_true rfl⟩ kq_121 rfl (by decide) rfl rfl (Nat.le_of_ble_eq_true rfl) ⟨Nat.zero_le _, Nat.zero_le _⟩ dX12_goSwing_13) (fun r2 h => ?_)
  refine v_ic_ge (pc := 16) (tgt := 72) hC dX12_goSwing_16 (by decide) h (fun h => ?_) (fun h => ?_)
  · skip
    refine v_iconst (pc := 72) (v := 0) hC dX12_goSwing_72 (by decide) ?_
    refine v_istore_n (pc := 73) (lv' := [(2, .int 0), (0, .ref (ad E 121)), (1, .int x1)]) hC dX12_goSwing_73 rfl (by decide) rfl ?_
    exact v_sub [1, 2, 0] rfl (jl_X12_goSwing_74 hC h)
  · skip
    refine v_aload_n (pc := 19) hC dX12_goSwing_19 rfl 0 rfl ?_
    refine v_get (pc := 20) (v := .ref (ad E 145)) hC fl_X12_81 kq_121 rfl dX12_goSwing_20 ?_
    refine v_iload_n (pc := 23) hC dX12_goSwing_23 rfl 2 rfl ?_
    refine v_aload_n (pc := 24) hC dX12_goSwing_24 rfl 0 rfl ?_
    refine v_get (pc := 25) (v := .ref (ad E 145)) hC fl_X12_81 kq_121 rfl dX12_goSwing_25 ?_
    refine v_iload_n (pc := 28) hC dX12_goSwing_28 rfl 2 rfl ?_
    refine v_zald (pc := 29) (n := 16) hC kq_145 (by decide) dX12_goSwing_29 h (fun h => ?_)
    refine v_if_ne (pc := 30) (tgt := 53) hC dX12_goSwing_30 (by decide) h (fun h => ?_) (fun h => ?_)
    · skip
      exact v_sub [0, 1, 2] rfl (j_X12_goSwing_53 hC hK11 h)
    · skip
      refine v_aload_n (pc := 33) hC dX12_goSwing_33 rfl 0 rfl ?_
      refine v_get (pc := 34) (v := .ref (ad E 143)) hC fl_X12_75 kq_121 rfl dX12_goSwing_34 ?_
      refine v_iload_n (pc := 37) hC dX12_goSwing_37 rfl 2 rfl ?_
      refine v_iald (pc := 38) (n := 16) hC kq_143 (by decide) dX12_goSwing_38 h (fun h => ?_)
      refine v_if_le (pc := 39) (tgt := 57) hC dX12_goSwing_39 (by decide) h (fun h => ?_) (fun h => ?_)
      · skip
        refine v_iconst (pc := 57) (v := 0) hC dX12_goSwing_57 (by decide) ?_
        refine v_zast (pc := 58) (n := 16) hC kq_145 (by decide) dX12_goSwing_58 h (fun F3 h => ?_)
        refine v_aload_n (pc := 59) hC dX12_goSwing_59 rfl 0 rfl ?_
        refine v_get (pc := 60) (v := .ref (ad E 144)) hC fl_X12_78 kq_121 rfl dX12_goSwing_60 ?_
        refine v_iload_n (pc := 63) hC dX12_goSwing_63 rfl 2 rfl ?_
        refine v_iconst (pc := 64) (v := 0) hC dX12_goSwing_64 (by decide) ?_
        refine v_iast (pc := 65) (n := 16) hC kq_144 (by decide) dX12_goSwing_65 h (fun F4 h => ?_)
        refine v_iinc (pc := 66) (v := 1) hC (fun z => [(2, .int z), (0, .ref (ad E 121)), (1, .int x1)]) dX12_goSwing_66 2 rfl (by decide) (by decide) (fun _ => rfl) h (fun n5 h => ?_)
        refine v_goto (pc := 69) (tgt := 11) hC dX12_goSwing_69 (by decide) ?_
        exact v_sub [1, 2, 0] rfl (hK11 _ _ h)
      · skip
        refine v_aload_n (pc := 42) hC dX12_goSwing_42 rfl 0 rfl ?_
        refine v_get (pc := 43) (v := .ref (ad E 140)) hC fl_X12_66 kq_121 rfl dX12_goSwing_43 ?_
        refine v_iload_n (pc := 46) hC dX12_goSwing_46 rfl 2 rfl ?_
        refine v_iald (pc := 47) (n := 16) hC kq_140 (by decide) dX12_goSwing_47 h (fun h => ?_)
        refine v_bipush (pc := 48) (v := 100) hC dX12_goSwing_48 (by decide) ?_
        refine v_ic_lt (pc := 50) (tgt := 57) hC dX12_goSwing_50 (by decide) h (fun h => ?_) (fun h => ?_)
        · skip
          refine v_iconst (pc := 57) (v := 0) hC dX12_goSwing_57 (by decide) ?_
          refine v_zast (pc := 58) (n := 16) hC kq_145 (by decide) dX12_goSwing_58 h (fun F6 h => ?_)
          refine v_aload_n (pc := 59) hC dX12_goSwing_59 rfl 0 rfl ?_
          refine v_get (pc := 60) (v := .ref (ad E 144)) hC fl_X12_78 kq_121 rfl dX12_goSwing_60 ?_
          refine v_iload_n (pc := 63) hC dX12_goSwing_63 rfl 2 rfl ?_
          refine v_iconst (pc := 64) (v := 0) hC dX12_goSwing_64 (by decide) ?_
          refine v_iast (pc := 65) (n := 16) hC kq_144 (by decide) dX12_goSwing_65 h (fun F7 h => ?_)
          refine v_iinc (pc := 66) (v := 1) hC (fun z => [(2, .int z), (0, .ref (ad E 121)), (1, .int x1)]) dX12_goSwing_66 2 rfl (by decide) (by decide) (fun _ => rfl) h (fun n8 h => ?_)
          refine v_goto (pc := 69) (tgt := 11) hC dX12_goSwing_69 (by decide) ?_
          exact v_sub [1, 2, 0] rfl (hK11 _ _ h)
        · skip
          exact v_sub [0, 1, 2] rfl (j_X12_goSwing_53 hC hK11 h)
set_option maxRecDepth 20000 in
set_option maxHeartbeats 4000000 in
theorem jl_X12_goSwing_11 {p : Program} {l : Launch} {e : Env} {s : State} {m : MethodId} {args : Array Value} {below : List Frame} {meth : Method} {c : Code} {E : gE} (hC : CX p s m args meth c cX12_goSwing RX12 none E 5) {Q : gS → Prop} {F : gS} {x1 : Int32} {x2 : Int32} (h : LP2 (wb_X12_goSwing_11 Q x1) F x2) : VV p l e rm_X12_goSwing s m args below meth c 0 0 (MQ below (va_Qv Q (gB E) (gA E)) args s 0 0 (gA E)) E 5 F 11 [(0, .ref (ad E 121)), (1, .int x1), (2, .int x2)] [] :=
  LP2_go (V := fun (F : gS) (x2 : Int32) => VV p l e rm_X12_goSwing s m args below meth c 0 0 (MQ below (va_Qv Q (gB E) (gA E)) args s 0 0 (gA E)) E 5 F 11 [(0, .ref (ad E 121)), (1, .int x1), (2, .int x2)] []) (fun K11 hK11 F x2 h => jb_X12_goSwing_11 hC hK11 h) F x2 h
set_option maxRecDepth 20000 in
set_option maxHeartbeats 4000000 in
theorem c_X12_goSwing (l : Launch) (E : gE) {x1 : Int32} {F : gS} {Q : gS → Prop} (h : wp_X12_goSwing x1 F Q) : CtV l E yX12_goSwing cX12_goSwing 5 none rm_X12_goSwing [.ref (ad E 121), .int x1] F Q := by
  refine ct_of (by decide) (Nat.le_of_ble_eq_true rfl) (fun p e s m below meth c hC => ?_)
  generalize ([.ref (ad E 121), .int x1] : List Value).toArray = args at hC ⊢
  refine v_sub (lv' := [(0, .ref (ad E 121)), (1, .int x1)]) [0, 1] rfl ?_
  unfold wp_X12_goSwing at h
  refine v_aload_n (pc := 0) hC dX12_goSwing_0 rfl 0 rfl ?_
  refine v_aload_n (pc := 1) hC dX12_goSwing_1 rfl 0 rfl ?_
  refine v_get (pc := 2) (v := .int (F 121 44)) hC fl_X12_215 kq_121 rfl dX12_goSwing_2 ?_
  refine v_iconst (pc := 5) (v := 0) hC dX12_goSwing_5 (by decide) ?_
  refine v_cv (pc := 6) (r_V (rest := []) hC ml_X12_233 mv_X12_goTick (c_X12_goTick l E h) ⟨rfl, rfl⟩ ⟨Nat.le_of_ble_eq_true rfl, Nat.le_of_ble_eq_true rfl⟩ kq_121 rfl (by decide) rfl rfl (Nat.le_of_ble_eq_true rfl) ⟨Nat.zero_le _, Nat.zero_le _⟩ dX12_goSwing_6) (fun F1 h => ?_)
  refine v_iconst (pc := 9) (v := 0) hC dX12_goSwing_9 (by decide) ?_
  refine v_istore_n (pc := 10) (lv' := [(2, .int 0), (0, .ref (ad E 121)), (1, .int x1)]) hC dX12_goSwing_10 rfl (by decide) rfl ?_
  exact v_sub [1, 2, 0] rfl (jl_X12_goSwing_11 hC h)
def rm_X12_takeOut : Room := { frames := 1, cells := 0, slots := 0, locals := 20 }
def wb_X12_takeOut_7 (Q : gS → Prop) (K7 : gS → Int32 → Prop) (F : gS) (x1 : Int32) : Prop :=
  wp_X12_cells F fun r2 =>
  if r2 ≤ x1 then
    (wp_X12_atLeast ((F 121 43) - 1) F fun r3 =>
    Nm (upF F 121 43 r3) fun F4 =>
    Q F4)
  else
    (vp_in x1 16 ∧
    if (F 143 x1.toNatClampNeg) ≤ 0 then
      (Nm (x1 + 1) fun n5 =>
      K7 F n5)
    else
      (vp_in x1 16 ∧
      if (F 123 x1.toNatClampNeg) = 0 then
        (Nm (x1 + 1) fun n6 =>
        K7 F n6)
      else
        (vp_in x1 16 ∧
        if (F 141 x1.toNatClampNeg) < (F 121 43) then
          (Nm (x1 + 1) fun n7 =>
          K7 F n7)
        else
          (Nm (upF F 121 59 ((F 121 59) + 1)) fun F8 =>
          vp_in x1 16 ∧
          vp_in x1 16 ∧
          if 9 ≤ (F8 141 x1.toNatClampNeg) then
            (vp_in x1 16 ∧ Nm (upF F8 141 x1.toNatClampNeg ((F8 141 x1.toNatClampNeg) + 0)) fun F9 =>
            Nm (x1 + 1) fun n10 =>
            K7 F9 n10)
          else
            (vp_in x1 16 ∧ Nm (upF F8 141 x1.toNatClampNeg ((F8 141 x1.toNatClampNeg) + 1)) fun F11 =>
            Nm (x1 + 1) fun n12 =>
            K7 F11 n12)))))
def wp_X12_takeOut (F : gS) (Q : gS → Prop) : Prop :=
  Nm (upF F 121 59 0) fun F1 =>
  LP2 (wb_X12_takeOut_7 Q) F1 0
set_option maxRecDepth 20000 in
set_option maxHeartbeats 4000000 in
theorem jb_X12_takeOut_7 {p : Program} {l : Launch} {e : Env} {s : State} {m : MethodId} {args : Array Value} {below : List Frame} {meth : Method} {c : Code} {E : gE} (hC : CX p s m args meth c cX12_takeOut RX12 none E 2) {Q : gS → Prop} {F : gS} {x1 : Int32} {K7 : gS → Int32 → Prop} (hK7 : ∀ (F : gS) (x1 : Int32), K7 F x1 → VV p l e rm_X12_takeOut s m args below meth c 0 0 (MQ below (va_Qv Q (gB E) (gA E)) args s 0 0 (gA E)) E 2 F 7 [(0, .ref (ad E 121)), (1, .int x1)] []) (h : wb_X12_takeOut_7 Q K7 F x1) : VV p l e rm_X12_takeOut s m args below meth c 0 0 (MQ below (va_Qv Q (gB E) (gA E)) args s 0 0 (gA E)) E 2 F 7 [(0, .ref (ad E 121)), (1, .int x1)] [] := by
  unfold wb_X12_takeOut_7 at h
  refine v_iload_n (pc := 7) hC dX12_takeOut_7 rfl 1 rfl ?_
  refine v_aload_n (pc := 8) hC dX12_takeOut_8 rfl 0 rfl ?_
  refine v_cip (pc := 9) (r_V (rest := [.int x1]) hC ml_X12_202 mv_X12_cells (c_X12_cells l E h) ⟨rfl, rfl⟩ ⟨Nat.le_of_ble_eq_true rfl, Nat.le_of_ble_eq_true rfl⟩ kq_121 rfl (by decide) rfl rfl (Nat.le_of_ble_eq_true rfl) ⟨Nat.zero_le _, Nat.zero_le _⟩ dX12_takeOut_9) (fun r2 h => ?_)
  refine v_ic_ge (pc := 12) (tgt := 87) hC dX12_takeOut_12 (by decide) h (fun h => ?_) (fun h => ?_)
  · skip
    refine v_aload_n (pc := 87) hC dX12_takeOut_87 rfl 0 rfl ?_
    refine v_aload_n (pc := 88) hC dX12_takeOut_88 rfl 0 rfl ?_
    refine v_get (pc := 89) (v := .int (F 121 43)) hC fl_X12_212 kq_121 rfl dX12_takeOut_89 ?_
    refine v_iconst (pc := 92) (v := 1) hC dX12_takeOut_92 (by decide) ?_
    refine v_isub (pc := 93) hC dX12_takeOut_93 ?_
    refine v_cip (pc := 94) (r_S (rest := [.ref (ad E 121)]) hC ml_X12_230 ms_X12_atLeast (c_X12_atLeast l E h) ⟨rfl, rfl⟩ ⟨Nat.le_of_ble_eq_true rfl, Nat.le_of_ble_eq_true rfl⟩ rfl rfl (Nat.le_of_ble_eq_true rfl) ⟨Nat.zero_le _, Nat.zero_le _⟩ dX12_takeOut_94) (fun r3 h => ?_)
    refine v_puti (pc := 97) hC fp_X12_212 kq_121 (fs_10_43 E _ _ _) (fn_10_43 E _ _) dX12_takeOut_97 h (fun F4 h => ?_)
    exact v_vret (pc := 100) hC dX12_takeOut_100 h
  · skip
    refine v_aload_n (pc := 15) hC dX12_takeOut_15 rfl 0 rfl ?_
    refine v_get (pc := 16) (v := .ref (ad E 143)) hC fl_X12_75 kq_121 rfl dX12_takeOut_16 ?_
    refine v_iload_n (pc := 19) hC dX12_takeOut_19 rfl 1 rfl ?_
    refine v_iald (pc := 20) (n := 16) hC kq_143 (by decide) dX12_takeOut_20 h (fun h => ?_)
    refine v_if_le (pc := 21) (tgt := 81) hC dX12_takeOut_21 (by decide) h (fun h => ?_) (fun h => ?_)
    · skip
      refine v_iinc (pc := 81) (v := 1) hC (fun z => [(1, .int z), (0, .ref (ad E 121))]) dX12_takeOut_81 1 rfl (by decide) (by decide) (fun _ => rfl) h (fun n5 h => ?_)
      refine v_goto (pc := 84) (tgt := 7) hC dX12_takeOut_84 (by decide) ?_
      exact v_sub [1, 0] rfl (hK7 _ _ h)
    · skip
      refine v_aload_n (pc := 24) hC dX12_takeOut_24 rfl 0 rfl ?_
      refine v_get (pc := 25) (v := .ref (ad E 123)) hC fl_X12_13 kq_121 rfl dX12_takeOut_25 ?_
      refine v_iload_n (pc := 28) hC dX12_takeOut_28 rfl 1 rfl ?_
      refine v_zald (pc := 29) (n := 16) hC kq_123 (by decide) dX12_takeOut_29 h (fun h => ?_)
      refine v_if_eq (pc := 30) (tgt := 81) hC dX12_takeOut_30 (by decide) h (fun h => ?_) (fun h => ?_)
      · skip
        refine v_iinc (pc := 81) (v := 1) hC (fun z => [(1, .int z), (0, .ref (ad E 121))]) dX12_takeOut_81 1 rfl (by decide) (by decide) (fun _ => rfl) h (fun n6 h => ?_)
        refine v_goto (pc := 84) (tgt := 7) hC dX12_takeOut_84 (by decide) ?_
        exact v_sub [1, 0] rfl (hK7 _ _ h)
      · skip
        refine v_aload_n (pc := 33) hC dX12_takeOut_33 rfl 0 rfl ?_
        refine v_get (pc := 34) (v := .int (F 121 43)) hC fl_X12_212 kq_121 rfl dX12_takeOut_34 ?_
        refine v_aload_n (pc := 37) hC dX12_takeOut_37 rfl 0 rfl ?_
        refine v_get (pc := 38) (v := .ref (ad E 141)) hC fl_X12_69 kq_121 rfl dX12_takeOut_38 ?_
        refine v_iload_n (pc := 41) hC dX12_takeOut_41 rfl 1 rfl ?_
        refine v_iald (pc := 42) (n := 16) hC kq_141 (by decide) dX12_takeOut_42 h (fun h => ?_)
        refine v_ic_gt (pc := 43) (tgt := 81) hC dX12_takeOut_43 (by decide) h (fun h => ?_) (fun h => ?_)
        · skip
          refine v_iinc (pc := 81) (v := 1) hC (fun z => [(1, .int z), (0, .ref (ad E 121))]) dX12_takeOut_81 1 rfl (by decide) (by decide) (fun _ => rfl) h (fun n7 h => ?_)
          refine v_goto (pc := 84) (tgt := 7) hC dX12_takeOut_84 (by decide) ?_
          exact v_sub [1, 0] rfl (hK7 _ _ h)
        · skip
          refine v_aload_n (pc := 46) hC dX12_takeOut_46 rfl 0 rfl ?_
          refine v_dup (pc := 47) hC dX12_takeOut_47 rfl ?_
          refine v_get (pc := 48) (v := .int (F 121 59)) hC fl_X12_239 kq_121 rfl dX12_takeOut_48 ?_
          refine v_iconst (pc := 51) (v := 1) hC dX12_takeOut_51 (by decide) ?_
          refine v_iadd (pc := 52) hC dX12_takeOut_52 ?_
          refine v_puti (pc := 53) hC fp_X12_239 kq_121 (fs_10_59 E _ _ _) (fn_10_59 E _ _) dX12_takeOut_53 h (fun F8 h => ?_)
          refine v_aload_n (pc := 56) hC dX12_takeOut_56 rfl 0 rfl ?_
          refine v_get (pc := 57) (v := .ref (ad E 141)) hC fl_X12_69 kq_121 rfl dX12_takeOut_57 ?_
          refine v_iload_n (pc := 60) hC dX12_takeOut_60 rfl 1 rfl ?_
          refine v_dup2 (pc := 61) hC dX12_takeOut_61 rfl rfl ?_
          refine v_iald (pc := 62) (n := 16) hC kq_141 (by decide) dX12_takeOut_62 h (fun h => ?_)
          refine v_aload_n (pc := 63) hC dX12_takeOut_63 rfl 0 rfl ?_
          refine v_get (pc := 64) (v := .ref (ad E 141)) hC fl_X12_69 kq_121 rfl dX12_takeOut_64 ?_
          refine v_iload_n (pc := 67) hC dX12_takeOut_67 rfl 1 rfl ?_
          refine v_iald (pc := 68) (n := 16) hC kq_141 (by decide) dX12_takeOut_68 h (fun h => ?_)
          refine v_bipush (pc := 69) (v := 9) hC dX12_takeOut_69 (by decide) ?_
          refine v_ic_ge (pc := 71) (tgt := 78) hC dX12_takeOut_71 (by decide) h (fun h => ?_) (fun h => ?_)
          · skip
            refine v_iconst (pc := 78) (v := 0) hC dX12_takeOut_78 (by decide) ?_
            refine v_iadd (pc := 79) hC dX12_takeOut_79 ?_
            refine v_iast (pc := 80) (n := 16) hC kq_141 (by decide) dX12_takeOut_80 h (fun F9 h => ?_)
            refine v_iinc (pc := 81) (v := 1) hC (fun z => [(1, .int z), (0, .ref (ad E 121))]) dX12_takeOut_81 1 rfl (by decide) (by decide) (fun _ => rfl) h (fun n10 h => ?_)
            refine v_goto (pc := 84) (tgt := 7) hC dX12_takeOut_84 (by decide) ?_
            exact v_sub [1, 0] rfl (hK7 _ _ h)
          · skip
            refine v_iconst (pc := 74) (v := 1) hC dX12_takeOut_74 (by decide) ?_
            refine v_goto (pc := 75) (tgt := 79) hC dX12_takeOut_75 (by decide) ?_
            refine v_iadd (pc := 79) hC dX12_takeOut_79 ?_
            refine v_iast (pc := 80) (n := 16) hC kq_141 (by decide) dX12_takeOut_80 h (fun F11 h => ?_)
            refine v_iinc (pc := 81) (v := 1) hC (fun z => [(1, .int z), (0, .ref (ad E 121))]) dX12_takeOut_81 1 rfl (by decide) (by decide) (fun _ => rfl) h (fun n12 h => ?_)
            refine v_goto (pc := 84) (tgt := 7) hC dX12_takeOut_84 (by decide) ?_
            exact v_sub [1, 0] rfl (hK7 _ _ h)
set_option maxRecDepth 20000 in
set_option maxHeartbeats 4000000 in
theorem jl_X12_takeOut_7 {p : Program} {l : Launch} {e : Env} {s : State} {m : MethodId} {args : Array Value} {below : List Frame} {meth : Method} {c : Code} {E : gE} (hC : CX p s m args meth c cX12_takeOut RX12 none E 2) {Q : gS → Prop} {F : gS} {x1 : Int32} (h : LP2 (wb_X12_takeOut_7 Q) F x1) : VV p l e rm_X12_takeOut s m args below meth c 0 0 (MQ below (va_Qv Q (gB E) (gA E)) args s 0 0 (gA E)) E 2 F 7 [(0, .ref (ad E 121)), (1, .int x1)] [] :=
  LP2_go (V := fun (F : gS) (x1 : Int32) => VV p l e rm_X12_takeOut s m args below meth c 0 0 (MQ below (va_Qv Q (gB E) (gA E)) args s 0 0 (gA E)) E 2 F 7 [(0, .ref (ad E 121)), (1, .int x1)] []) (fun K7 hK7 F x1 h => jb_X12_takeOut_7 hC hK7 h) F x1 h
set_option maxRecDepth 20000 in
set_option maxHeartbeats 4000000 in
theorem c_X12_takeOut (l : Launch) (E : gE) {F : gS} {Q : gS → Prop} (h : wp_X12_takeOut F Q) : CtV l E yX12_takeOut cX12_takeOut 2 none rm_X12_takeOut [.ref (ad E 121)] F Q := by
  refine ct_of (by decide) (Nat.le_of_ble_eq_true rfl) (fun p e s m below meth c hC => ?_)
  generalize ([.ref (ad E 121)] : List Value).toArray = args at hC ⊢
  refine v_sub (lv' := [(0, .ref (ad E 121))]) [0] rfl ?_
  unfold wp_X12_takeOut at h
  refine v_aload_n (pc := 0) hC dX12_takeOut_0 rfl 0 rfl ?_
  refine v_iconst (pc := 1) (v := 0) hC dX12_takeOut_1 (by decide) ?_
  refine v_puti (pc := 2) hC fp_X12_239 kq_121 (fs_10_59 E _ _ _) (fn_10_59 E _ _) dX12_takeOut_2 h (fun F1 h => ?_)
  refine v_iconst (pc := 5) (v := 0) hC dX12_takeOut_5 (by decide) ?_
  refine v_istore_n (pc := 6) (lv' := [(1, .int 0), (0, .ref (ad E 121))]) hC dX12_takeOut_6 rfl (by decide) rfl ?_
  exact v_sub [1, 0] rfl (jl_X12_takeOut_7 hC h)
def rm_X12_worthOf : Room := { frames := 0, cells := 0, slots := 0, locals := 0 }
def wp_X12_worthOf (x0 : Int32) (F : gS) (Q : Int32 → Prop) : Prop :=
  if x0 = 1 then
    (Q 4)
  else (if x0 = 2 then
    (Q 6)
  else (if x0 = 3 then
    (Q 1)
  else (if x0 = 4 then
    (Q 5)
  else (if x0 = 5 then
    (Q 2)
  else (Q 10)))))
set_option maxRecDepth 20000 in
set_option maxHeartbeats 4000000 in
theorem c_X12_worthOf (l : Launch) (E : gE) {x0 : Int32} {F : gS} {Q : Int32 → Prop} (h : wp_X12_worthOf x0 F Q) : CtI l E yX12_worthOf cX12_worthOf 1 (some .int) rm_X12_worthOf [.int x0] F (fun r G => G = F ∧ Q r) := by
  refine ct_of (by decide) (Nat.le_of_ble_eq_true rfl) (fun p e s m below meth c hC => ?_)
  generalize ([.int x0] : List Value).toArray = args at hC ⊢
  refine v_sub (lv' := [(0, .int x0)]) [0] rfl ?_
  unfold wp_X12_worthOf at h
  refine v_iload_n (pc := 0) hC dX12_worthOf_0 rfl 0 rfl ?_
  by_cases c1 : x0 = 1
  · skip
    rw [if_pos c1] at h
    refine v_tin (pc := 1) (tgt := 36) hC dX12_worthOf_1 1 (by rw [c1]; rfl) (by decide) (by decide) rfl (by decide) ?_
    refine v_iconst (pc := 36) (v := 4) hC dX12_worthOf_36 (by decide) ?_
    exact v_iret (pc := 37) hC dX12_worthOf_37 ⟨rfl, h⟩
  · skip
    rw [if_neg c1] at h
    by_cases c2 : x0 = 2
    · skip
      rw [if_pos c2] at h
      refine v_tin (pc := 1) (tgt := 38) hC dX12_worthOf_1 2 (by rw [c2]; rfl) (by decide) (by decide) rfl (by decide) ?_
      refine v_bipush (pc := 38) (v := 6) hC dX12_worthOf_38 (by decide) ?_
      exact v_iret (pc := 40) hC dX12_worthOf_40 ⟨rfl, h⟩
    · skip
      rw [if_neg c2] at h
      by_cases c3 : x0 = 3
      · skip
        rw [if_pos c3] at h
        refine v_tin (pc := 1) (tgt := 41) hC dX12_worthOf_1 3 (by rw [c3]; rfl) (by decide) (by decide) rfl (by decide) ?_
        refine v_iconst (pc := 41) (v := 1) hC dX12_worthOf_41 (by decide) ?_
        exact v_iret (pc := 42) hC dX12_worthOf_42 ⟨rfl, h⟩
      · skip
        rw [if_neg c3] at h
        by_cases c4 : x0 = 4
        · skip
          rw [if_pos c4] at h
          refine v_tin (pc := 1) (tgt := 43) hC dX12_worthOf_1 4 (by rw [c4]; rfl) (by decide) (by decide) rfl (by decide) ?_
          refine v_iconst (pc := 43) (v := 5) hC dX12_worthOf_43 (by decide) ?_
          exact v_iret (pc := 44) hC dX12_worthOf_44 ⟨rfl, h⟩
        · skip
          rw [if_neg c4] at h
          by_cases c5 : x0 = 5
          · skip
            rw [if_pos c5] at h
            refine v_tin (pc := 1) (tgt := 45) hC dX12_worthOf_1 5 (by rw [c5]; rfl) (by decide) (by decide) rfl (by decide) ?_
            refine v_iconst (pc := 45) (v := 2) hC dX12_worthOf_45 (by decide) ?_
            exact v_iret (pc := 46) hC dX12_worthOf_46 ⟨rfl, h⟩
          · skip
            rw [if_neg c5] at h
            refine v_tout (pc := 1) (tgt := 47) hC dX12_worthOf_1 (by have := lv_neT c1 (a := 1) rfl; have := lv_neT c2 (a := 2) rfl; have := lv_neT c3 (a := 3) rfl; have := lv_neT c4 (a := 4) rfl; have := lv_neT c5 (a := 5) rfl; omega) (by decide) ?_
            refine v_bipush (pc := 47) (v := 10) hC dX12_worthOf_47 (by decide) ?_
            exact v_iret (pc := 49) hC dX12_worthOf_49 ⟨rfl, h⟩
def rm_X12_judge : Room := { frames := 1, cells := 0, slots := 0, locals := 20 }
def wp_X12_judge_95 (K18 : gS → Int32 → Int32 → Int32 → Int32 → Int32 → Prop) (Q : gS → Prop) (F : gS) (x1 : Int32) (x2 : Int32) (x4 : Int32) (x5 : Int32) (t0 : Int32) : Prop :=
  vp_in x5 16 ∧
  if (F 143 x5.toNatClampNeg) ≤ x4 then
    (Nm (x5 + 1) fun n10 =>
    K18 F x1 x2 t0 x4 n10)
  else
    (vp_in x5 16 ∧
    Nm (F 143 x5.toNatClampNeg) fun n11 =>
    Nm (x5 + 1) fun n12 =>
    K18 F x1 x2 t0 n11 n12)
def wp_X12_judge_196 (Q : gS → Prop) (F : gS) (t0 : Int32) : Prop :=
  if (F 121 59) ≤ 0 then
    (if (F 121 57) ≤ 9 then
      (Nm (upF F 121 54 t0) fun F13 =>
      wp_X12_worthOf (F13 121 54) F13 fun r14 =>
      Nm (upF F13 121 60 r14) fun F15 =>
      Q F15)
    else
      (Nm (upF F 121 54 4) fun F16 =>
      wp_X12_worthOf (F16 121 54) F16 fun r17 =>
      Nm (upF F16 121 60 r17) fun F18 =>
      Q F18))
  else
    (Nm (upF F 121 54 5) fun F19 =>
    wp_X12_worthOf (F19 121 54) F19 fun r20 =>
    Nm (upF F19 121 60 r20) fun F21 =>
    Q F21)
def wp_X12_judge_128 (Q : gS → Prop) (F : gS) (x1 : Int32) (x2 : Int32) (x3 : Int32) (x4 : Int32) : Prop :=
  ¬ (F 121 58) = 0 ∧
  Nm (upF F 121 55 (x1 / (F 121 58))) fun F7 =>
  ¬ (F7 121 58) = 0 ∧
  Nm (upF F7 121 56 (x2 / (F7 121 58))) fun F8 =>
  Nm (upF F8 121 57 (x4 - x3)) fun F9 =>
  if 20 ≤ (F9 121 55) then
    (if (F9 121 55) ≤ 100 then
      (if (F9 121 55) ≤ 60 then
        (wp_X12_judge_196 Q F9 0)
      else
        (wp_X12_judge_196 Q F9 2))
    else
      (wp_X12_judge_196 Q F9 3))
  else
    (wp_X12_judge_196 Q F9 1)
def wb_X12_judge_18 (Q : gS → Prop) (K18 : gS → Int32 → Int32 → Int32 → Int32 → Int32 → Prop) (F : gS) (x1 : Int32) (x2 : Int32) (x3 : Int32) (x4 : Int32) (x5 : Int32) : Prop :=
  wp_X12_cells F fun r2 =>
  if r2 ≤ x5 then
    (wp_X12_judge_128 Q F x1 x2 x3 x4)
  else
    (vp_in x5 16 ∧
    if (F 143 x5.toNatClampNeg) ≤ 0 then
      (Nm (x5 + 1) fun n3 =>
      K18 F x1 x2 x3 x4 n3)
    else
      (Nm (upF F 121 58 ((F 121 58) + 1)) fun F4 =>
      vp_in (2 * x5) 32 ∧
      Nm (x1 + (F4 146 (2 * x5).toNatClampNeg)) fun n5 =>
      vp_in ((2 * x5) + 1) 32 ∧
      Nm (x2 + (F4 146 ((2 * x5) + 1).toNatClampNeg)) fun n6 =>
      vp_in x5 16 ∧
      if x3 ≤ (F4 143 x5.toNatClampNeg) then
        (wp_X12_judge_95 K18 Q F4 n5 n6 x4 x5 x3)
      else
        (vp_in x5 16 ∧
        wp_X12_judge_95 K18 Q F4 n5 n6 x4 x5 (F4 143 x5.toNatClampNeg))))
def wp_X12_judge (F : gS) (Q : gS → Prop) : Prop :=
  Nm (upF F 121 58 0) fun F1 =>
  LP6 (wb_X12_judge_18 Q) F1 0 0 268435456 0 0
set_option maxRecDepth 20000 in
set_option maxHeartbeats 4000000 in
theorem j_X12_judge_95 {p : Program} {l : Launch} {e : Env} {s : State} {m : MethodId} {args : Array Value} {below : List Frame} {meth : Method} {c : Code} {E : gE} (hC : CX p s m args meth c cX12_judge RX12 none E 6) {Q : gS → Prop} {F : gS} {x1 : Int32} {x2 : Int32} {x4 : Int32} {x5 : Int32} {t0 : Int32} {K18 : gS → Int32 → Int32 → Int32 → Int32 → Int32 → Prop} (hK18 : ∀ (F : gS) (x1 : Int32) (x2 : Int32) (x3 : Int32) (x4 : Int32) (x5 : Int32), K18 F x1 x2 x3 x4 x5 → VV p l e rm_X12_judge s m args below meth c 0 0 (MQ below (va_Qv Q (gB E) (gA E)) args s 0 0 (gA E)) E 6 F 18 [(0, .ref (ad E 121)), (1, .int x1), (2, .int x2), (3, .int x3), (4, .int x4), (5, .int x5)] []) (h : wp_X12_judge_95 K18 Q F x1 x2 x4 x5 t0) : VV p l e rm_X12_judge s m args below meth c 0 0 (MQ below (va_Qv Q (gB E) (gA E)) args s 0 0 (gA E)) E 6 F 95 [(0, .ref (ad E 121)), (1, .int x1), (2, .int x2), (4, .int x4), (5, .int x5)] [.int t0] := by
  unfold wp_X12_judge_95 at h
  refine v_istore_n (pc := 95) (lv' := [(3, .int t0), (0, .ref (ad E 121)), (1, .int x1), (2, .int x2), (4, .int x4), (5, .int x5)]) hC dX12_judge_95 rfl (by decide) rfl ?_
  refine v_aload_n (pc := 96) hC dX12_judge_96 rfl 1 rfl ?_
  refine v_get (pc := 97) (v := .ref (ad E 143)) hC fl_X12_75 kq_121 rfl dX12_judge_97 ?_
  refine v_iload (pc := 100) hC dX12_judge_100 5 rfl ?_
  refine v_iald (pc := 102) (n := 16) hC kq_143 (by decide) dX12_judge_102 h (fun h => ?_)
  refine v_iload (pc := 103) hC dX12_judge_103 4 rfl ?_
  refine v_ic_le (pc := 105) (tgt := 118) hC dX12_judge_105 (by decide) h (fun h => ?_) (fun h => ?_)
  · skip
    refine v_iload (pc := 118) hC dX12_judge_118 4 rfl ?_
    refine v_istore (pc := 120) (lv' := [(4, .int x4), (3, .int t0), (0, .ref (ad E 121)), (1, .int x1), (2, .int x2), (5, .int x5)]) hC dX12_judge_120 (by decide) rfl ?_
    refine v_iinc (pc := 122) (v := 1) hC (fun z => [(5, .int z), (4, .int x4), (3, .int t0), (0, .ref (ad E 121)), (1, .int x1), (2, .int x2)]) dX12_judge_122 5 rfl (by decide) (by decide) (fun _ => rfl) h (fun n10 h => ?_)
    refine v_goto (pc := 125) (tgt := 18) hC dX12_judge_125 (by decide) ?_
    exact v_sub [3, 4, 5, 2, 1, 0] rfl (hK18 _ _ _ _ _ _ h)
  · skip
    refine v_aload_n (pc := 108) hC dX12_judge_108 rfl 1 rfl ?_
    refine v_get (pc := 109) (v := .ref (ad E 143)) hC fl_X12_75 kq_121 rfl dX12_judge_109 ?_
    refine v_iload (pc := 112) hC dX12_judge_112 5 rfl ?_
    refine v_iald (pc := 114) (n := 16) hC kq_143 (by decide) dX12_judge_114 h (fun h => ?_)
    refine v_goto (pc := 115) (tgt := 120) hC dX12_judge_115 (by decide) ?_
    refine v_nmi h (fun n11 h => ?_)
    refine v_istore (pc := 120) (lv' := [(4, .int n11), (3, .int t0), (0, .ref (ad E 121)), (1, .int x1), (2, .int x2), (5, .int x5)]) hC dX12_judge_120 (by decide) rfl ?_
    refine v_iinc (pc := 122) (v := 1) hC (fun z => [(5, .int z), (4, .int n11), (3, .int t0), (0, .ref (ad E 121)), (1, .int x1), (2, .int x2)]) dX12_judge_122 5 rfl (by decide) (by decide) (fun _ => rfl) h (fun n12 h => ?_)
    refine v_goto (pc := 125) (tgt := 18) hC dX12_judge_125 (by decide) ?_
    exact v_sub [3, 4, 5, 2, 1, 0] rfl (hK18 _ _ _ _ _ _ h)
set_option maxRecDepth 20000 in
set_option maxHeartbeats 4000000 in
theorem j_X12_judge_196 {p : Program} {l : Launch} {e : Env} {s : State} {m : MethodId} {args : Array Value} {below : List Frame} {meth : Method} {c : Code} {E : gE} (hC : CX p s m args meth c cX12_judge RX12 none E 6) {Q : gS → Prop} {F : gS} {t0 : Int32} (h : wp_X12_judge_196 Q F t0) : VV p l e rm_X12_judge s m args below meth c 0 0 (MQ below (va_Qv Q (gB E) (gA E)) args s 0 0 (gA E)) E 6 F 196 [(0, .ref (ad E 121))] [.int t0] := by
  unfold wp_X12_judge_196 at h
  refine v_istore (pc := 196) (lv' := [(5, .int t0), (0, .ref (ad E 121))]) hC dX12_judge_196 (by decide) rfl ?_
  refine v_aload_n (pc := 198) hC dX12_judge_198 rfl 1 rfl ?_
  refine v_aload_n (pc := 199) hC dX12_judge_199 rfl 1 rfl ?_
  refine v_get (pc := 200) (v := .int (F 121 59)) hC fl_X12_239 kq_121 rfl dX12_judge_200 ?_
  refine v_if_le (pc := 203) (tgt := 210) hC dX12_judge_203 (by decide) h (fun h => ?_) (fun h => ?_)
  · skip
    refine v_aload_n (pc := 210) hC dX12_judge_210 rfl 1 rfl ?_
    refine v_get (pc := 211) (v := .int (F 121 57)) hC fl_X12_252 kq_121 rfl dX12_judge_211 ?_
    refine v_bipush (pc := 214) (v := 9) hC dX12_judge_214 (by decide) ?_
    refine v_ic_le (pc := 216) (tgt := 223) hC dX12_judge_216 (by decide) h (fun h => ?_) (fun h => ?_)
    · skip
      refine v_iload (pc := 223) hC dX12_judge_223 0 rfl ?_
      refine v_puti (pc := 225) hC fp_X12_255 kq_121 (fs_10_54 E _ _ _) (fn_10_54 E _ _) dX12_judge_225 h (fun F13 h => ?_)
      refine v_aload_n (pc := 228) hC dX12_judge_228 rfl 1 rfl ?_
      refine v_aload_n (pc := 229) hC dX12_judge_229 rfl 1 rfl ?_
      refine v_get (pc := 230) (v := .int (F13 121 54)) hC fl_X12_255 kq_121 rfl dX12_judge_230 ?_
      refine v_cip (pc := 233) (r_S (rest := [.ref (ad E 121)]) hC ml_X12_258 ms_X12_worthOf (c_X12_worthOf l E h) ⟨rfl, rfl⟩ ⟨Nat.le_of_ble_eq_true rfl, Nat.le_of_ble_eq_true rfl⟩ rfl rfl (Nat.le_of_ble_eq_true rfl) ⟨Nat.zero_le _, Nat.zero_le _⟩ dX12_judge_233) (fun r14 h => ?_)
      refine v_puti (pc := 236) hC fp_X12_261 kq_121 (fs_10_60 E _ _ _) (fn_10_60 E _ _) dX12_judge_236 h (fun F15 h => ?_)
      exact v_vret (pc := 239) hC dX12_judge_239 h
    · skip
      refine v_iconst (pc := 219) (v := 4) hC dX12_judge_219 (by decide) ?_
      refine v_goto (pc := 220) (tgt := 225) hC dX12_judge_220 (by decide) ?_
      refine v_puti (pc := 225) hC fp_X12_255 kq_121 (fs_10_54 E _ _ _) (fn_10_54 E _ _) dX12_judge_225 h (fun F16 h => ?_)
      refine v_aload_n (pc := 228) hC dX12_judge_228 rfl 1 rfl ?_
      refine v_aload_n (pc := 229) hC dX12_judge_229 rfl 1 rfl ?_
      refine v_get (pc := 230) (v := .int (F16 121 54)) hC fl_X12_255 kq_121 rfl dX12_judge_230 ?_
      refine v_cip (pc := 233) (r_S (rest := [.ref (ad E 121)]) hC ml_X12_258 ms_X12_worthOf (c_X12_worthOf l E h) ⟨rfl, rfl⟩ ⟨Nat.le_of_ble_eq_true rfl, Nat.le_of_ble_eq_true rfl⟩ rfl rfl (Nat.le_of_ble_eq_true rfl) ⟨Nat.zero_le _, Nat.zero_le _⟩ dX12_judge_233) (fun r17 h => ?_)
      refine v_puti (pc := 236) hC fp_X12_261 kq_121 (fs_10_60 E _ _ _) (fn_10_60 E _ _) dX12_judge_236 h (fun F18 h => ?_)
      exact v_vret (pc := 239) hC dX12_judge_239 h
  · skip
    refine v_iconst (pc := 206) (v := 5) hC dX12_judge_206 (by decide) ?_
    refine v_goto (pc := 207) (tgt := 225) hC dX12_judge_207 (by decide) ?_
    refine v_puti (pc := 225) hC fp_X12_255 kq_121 (fs_10_54 E _ _ _) (fn_10_54 E _ _) dX12_judge_225 h (fun F19 h => ?_)
    refine v_aload_n (pc := 228) hC dX12_judge_228 rfl 1 rfl ?_
    refine v_aload_n (pc := 229) hC dX12_judge_229 rfl 1 rfl ?_
    refine v_get (pc := 230) (v := .int (F19 121 54)) hC fl_X12_255 kq_121 rfl dX12_judge_230 ?_
    refine v_cip (pc := 233) (r_S (rest := [.ref (ad E 121)]) hC ml_X12_258 ms_X12_worthOf (c_X12_worthOf l E h) ⟨rfl, rfl⟩ ⟨Nat.le_of_ble_eq_true rfl, Nat.le_of_ble_eq_true rfl⟩ rfl rfl (Nat.le_of_ble_eq_true rfl) ⟨Nat.zero_le _, Nat.zero_le _⟩ dX12_judge_233) (fun r20 h => ?_)
    refine v_puti (pc := 236) hC fp_X12_261 kq_121 (fs_10_60 E _ _ _) (fn_10_60 E _ _) dX12_judge_236 h (fun F21 h => ?_)
    exact v_vret (pc := 239) hC dX12_judge_239 h
set_option maxRecDepth 20000 in
set_option maxHeartbeats 4000000 in
theorem j_X12_judge_128 {p : Program} {l : Launch} {e : Env} {s : State} {m : MethodId} {args : Array Value} {below : List Frame} {meth : Method} {c : Code} {E : gE} (hC : CX p s m args meth c cX12_judge RX12 none E 6) {Q : gS → Prop} {F : gS} {x1 : Int32} {x2 : Int32} {x3 : Int32} {x4 : Int32} (h : wp_X12_judge_128 Q F x1 x2 x3 x4) : VV p l e rm_X12_judge s m args below meth c 0 0 (MQ below (va_Qv Q (gB E) (gA E)) args s 0 0 (gA E)) E 6 F 128 [(0, .ref (ad E 121)), (1, .int x1), (2, .int x2), (3, .int x3), (4, .int x4)] [] := by
  unfold wp_X12_judge_128 at h
  refine v_aload_n (pc := 128) hC dX12_judge_128 rfl 0 rfl ?_
  refine v_iload_n (pc := 129) hC dX12_judge_129 rfl 1 rfl ?_
  refine v_aload_n (pc := 130) hC dX12_judge_130 rfl 0 rfl ?_
  refine v_get (pc := 131) (v := .int (F 121 58)) hC fl_X12_243 kq_121 rfl dX12_judge_131 ?_
  refine v_idiv (pc := 134) hC dX12_judge_134 h (fun h => ?_)
  refine v_puti (pc := 135) hC fp_X12_246 kq_121 (fs_10_55 E _ _ _) (fn_10_55 E _ _) dX12_judge_135 h (fun F7 h => ?_)
  refine v_aload_n (pc := 138) hC dX12_judge_138 rfl 0 rfl ?_
  refine v_iload_n (pc := 139) hC dX12_judge_139 rfl 2 rfl ?_
  refine v_aload_n (pc := 140) hC dX12_judge_140 rfl 0 rfl ?_
  refine v_get (pc := 141) (v := .int (F7 121 58)) hC fl_X12_243 kq_121 rfl dX12_judge_141 ?_
  refine v_idiv (pc := 144) hC dX12_judge_144 h (fun h => ?_)
  refine v_puti (pc := 145) hC fp_X12_249 kq_121 (fs_10_56 E _ _ _) (fn_10_56 E _ _) dX12_judge_145 h (fun F8 h => ?_)
  refine v_aload_n (pc := 148) hC dX12_judge_148 rfl 0 rfl ?_
  refine v_iload (pc := 149) hC dX12_judge_149 4 rfl ?_
  refine v_iload_n (pc := 151) hC dX12_judge_151 rfl 3 rfl ?_
  refine v_isub (pc := 152) hC dX12_judge_152 ?_
  refine v_puti (pc := 153) hC fp_X12_252 kq_121 (fs_10_57 E _ _ _) (fn_10_57 E _ _) dX12_judge_153 h (fun F9 h => ?_)
  refine v_aload_n (pc := 156) hC dX12_judge_156 rfl 0 rfl ?_
  refine v_get (pc := 157) (v := .int (F9 121 55)) hC fl_X12_246 kq_121 rfl dX12_judge_157 ?_
  refine v_bipush (pc := 160) (v := 20) hC dX12_judge_160 (by decide) ?_
  refine v_ic_ge (pc := 162) (tgt := 169) hC dX12_judge_162 (by decide) h (fun h => ?_) (fun h => ?_)
  · skip
    refine v_aload_n (pc := 169) hC dX12_judge_169 rfl 0 rfl ?_
    refine v_get (pc := 170) (v := .int (F9 121 55)) hC fl_X12_246 kq_121 rfl dX12_judge_170 ?_
    refine v_bipush (pc := 173) (v := 100) hC dX12_judge_173 (by decide) ?_
    refine v_ic_le (pc := 175) (tgt := 182) hC dX12_judge_175 (by decide) h (fun h => ?_) (fun h => ?_)
    · skip
      refine v_aload_n (pc := 182) hC dX12_judge_182 rfl 0 rfl ?_
      refine v_get (pc := 183) (v := .int (F9 121 55)) hC fl_X12_246 kq_121 rfl dX12_judge_183 ?_
      refine v_bipush (pc := 186) (v := 60) hC dX12_judge_186 (by decide) ?_
      refine v_ic_le (pc := 188) (tgt := 195) hC dX12_judge_188 (by decide) h (fun h => ?_) (fun h => ?_)
      · skip
        refine v_iconst (pc := 195) (v := 0) hC dX12_judge_195 (by decide) ?_
        exact v_sub [0] rfl (j_X12_judge_196 hC h)
      · skip
        refine v_iconst (pc := 191) (v := 2) hC dX12_judge_191 (by decide) ?_
        refine v_goto (pc := 192) (tgt := 196) hC dX12_judge_192 (by decide) ?_
        exact v_sub [0] rfl (j_X12_judge_196 hC h)
    · skip
      refine v_iconst (pc := 178) (v := 3) hC dX12_judge_178 (by decide) ?_
      refine v_goto (pc := 179) (tgt := 196) hC dX12_judge_179 (by decide) ?_
      exact v_sub [0] rfl (j_X12_judge_196 hC h)
  · skip
    refine v_iconst (pc := 165) (v := 1) hC dX12_judge_165 (by decide) ?_
    refine v_goto (pc := 166) (tgt := 196) hC dX12_judge_166 (by decide) ?_
    exact v_sub [0] rfl (j_X12_judge_196 hC h)
set_option maxRecDepth 20000 in
set_option maxHeartbeats 4000000 in
theorem jb_X12_judge_18 {p : Program} {l : Launch} {e : Env} {s : State} {m : MethodId} {args : Array Value} {below : List Frame} {meth : Method} {c : Code} {E : gE} (hC : CX p s m args meth c cX12_judge RX12 none E 6) {Q : gS → Prop} {F : gS} {x1 : Int32} {x2 : Int32} {x3 : Int32} {x4 : Int32} {x5 : Int32} {K18 : gS → Int32 → Int32 → Int32 → Int32 → Int32 → Prop} (hK18 : ∀ (F : gS) (x1 : Int32) (x2 : Int32) (x3 : Int32) (x4 : Int32) (x5 : Int32), K18 F x1 x2 x3 x4 x5 → VV p l e rm_X12_judge s m args below meth c 0 0 (MQ below (va_Qv Q (gB E) (gA E)) args s 0 0 (gA E)) E 6 F 18 [(0, .ref (ad E 121)), (1, .int x1), (2, .int x2), (3, .int x3), (4, .int x4), (5, .int x5)] []) (h : wb_X12_judge_18 Q K18 F x1 x2 x3 x4 x5) : VV p l e rm_X12_judge s m args below meth c 0 0 (MQ below (va_Qv Q (gB E) (gA E)) args s 0 0 (gA E)) E 6 F 18 [(0, .ref (ad E 121)), (1, .int x1), (2, .int x2), (3, .int x3), (4, .int x4), (5, .int x5)] [] := by
  unfold wb_X12_judge_18 at h
  refine v_iload (pc := 18) hC dX12_judge_18 5 rfl ?_
  refine v_aload_n (pc := 20) hC dX12_judge_20 rfl 0 rfl ?_
  refine v_cip (pc := 21) (r_V (rest := [.int x5]) hC ml_X12_202 mv_X12_cells (c_X12_cells l E h) ⟨rfl, rfl⟩ ⟨Nat.le_of_ble_eq_true rfl, Nat.le_of_ble_eq_true rfl⟩ kq_121 rfl (by decide) rfl rfl (Nat.le_of_ble_eq_true rfl) ⟨Nat.zero_le _, Nat.zero_le _⟩ dX12_judge_21) (fun r2 h => ?_)
  refine v_ic_ge (pc := 24) (tgt := 128) hC dX12_judge_24 (by decide) h (fun h => ?_) (fun h => ?_)
  · skip
    exact v_sub [0, 1, 2, 3, 4] rfl (j_X12_judge_128 hC h)
  · skip
    refine v_aload_n (pc := 27) hC dX12_judge_27 rfl 0 rfl ?_
    refine v_get (pc := 28) (v := .ref (ad E 143)) hC fl_X12_75 kq_121 rfl dX12_judge_28 ?_
    refine v_iload (pc := 31) hC dX12_judge_31 5 rfl ?_
    refine v_iald (pc := 33) (n := 16) hC kq_143 (by decide) dX12_judge_33 h (fun h => ?_)
    refine v_if_le (pc := 34) (tgt := 122) hC dX12_judge_34 (by decide) h (fun h => ?_) (fun h => ?_)
    · skip
      refine v_iinc (pc := 122) (v := 1) hC (fun z => [(5, .int z), (0, .ref (ad E 121)), (1, .int x1), (2, .int x2), (3, .int x3), (4, .int x4)]) dX12_judge_122 5 rfl (by decide) (by decide) (fun _ => rfl) h (fun n3 h => ?_)
      refine v_goto (pc := 125) (tgt := 18) hC dX12_judge_125 (by decide) ?_
      exact v_sub [1, 2, 3, 4, 5, 0] rfl (hK18 _ _ _ _ _ _ h)
    · skip
      refine v_aload_n (pc := 37) hC dX12_judge_37 rfl 0 rfl ?_
      refine v_dup (pc := 38) hC dX12_judge_38 rfl ?_
      refine v_get (pc := 39) (v := .int (F 121 58)) hC fl_X12_243 kq_121 rfl dX12_judge_39 ?_
      refine v_iconst (pc := 42) (v := 1) hC dX12_judge_42 (by decide) ?_
      refine v_iadd (pc := 43) hC dX12_judge_43 ?_
      refine v_puti (pc := 44) hC fp_X12_243 kq_121 (fs_10_58 E _ _ _) (fn_10_58 E _ _) dX12_judge_44 h (fun F4 h => ?_)
      refine v_iload_n (pc := 47) hC dX12_judge_47 rfl 1 rfl ?_
      refine v_aload_n (pc := 48) hC dX12_judge_48 rfl 0 rfl ?_
      refine v_get (pc := 49) (v := .ref (ad E 146)) hC fl_X12_84 kq_121 rfl dX12_judge_49 ?_
      refine v_iconst (pc := 52) (v := 2) hC dX12_judge_52 (by decide) ?_
      refine v_iload (pc := 53) hC dX12_judge_53 5 rfl ?_
      refine v_imul (pc := 55) hC dX12_judge_55 ?_
      refine v_iald (pc := 56) (n := 32) hC kq_146 (by decide) dX12_judge_56 h (fun h => ?_)
      refine v_iadd (pc := 57) hC dX12_judge_57 ?_
      refine v_nmi h (fun n5 h => ?_)
      refine v_istore_n (pc := 58) (lv' := [(1, .int n5), (0, .ref (ad E 121)), (2, .int x2), (3, .int x3), (4, .int x4), (5, .int x5)]) hC dX12_judge_58 rfl (by decide) rfl ?_
      refine v_iload_n (pc := 59) hC dX12_judge_59 rfl 2 rfl ?_
      refine v_aload_n (pc := 60) hC dX12_judge_60 rfl 1 rfl ?_
      refine v_get (pc := 61) (v := .ref (ad E 146)) hC fl_X12_84 kq_121 rfl dX12_judge_61 ?_
      refine v_iconst (pc := 64) (v := 2) hC dX12_judge_64 (by decide) ?_
      refine v_iload (pc := 65) hC dX12_judge_65 5 rfl ?_
      refine v_imul (pc := 67) hC dX12_judge_67 ?_
      refine v_iconst (pc := 68) (v := 1) hC dX12_judge_68 (by decide) ?_
      refine v_iadd (pc := 69) hC dX12_judge_69 ?_
      refine v_iald (pc := 70) (n := 32) hC kq_146 (by decide) dX12_judge_70 h (fun h => ?_)
      refine v_iadd (pc := 71) hC dX12_judge_71 ?_
      refine v_nmi h (fun n6 h => ?_)
      refine v_istore_n (pc := 72) (lv' := [(2, .int n6), (1, .int n5), (0, .ref (ad E 121)), (3, .int x3), (4, .int x4), (5, .int x5)]) hC dX12_judge_72 rfl (by decide) rfl ?_
      refine v_aload_n (pc := 73) hC dX12_judge_73 rfl 2 rfl ?_
      refine v_get (pc := 74) (v := .ref (ad E 143)) hC fl_X12_75 kq_121 rfl dX12_judge_74 ?_
      refine v_iload (pc := 77) hC dX12_judge_77 5 rfl ?_
      refine v_iald (pc := 79) (n := 16) hC kq_143 (by decide) dX12_judge_79 h (fun h => ?_)
      refine v_iload_n (pc := 80) hC dX12_judge_80 rfl 3 rfl ?_
      refine v_ic_ge (pc := 81) (tgt := 94) hC dX12_judge_81 (by decide) h (fun h => ?_) (fun h => ?_)
      · skip
        refine v_iload_n (pc := 94) hC dX12_judge_94 rfl 3 rfl ?_
        exact v_sub [2, 1, 0, 4, 5] rfl (j_X12_judge_95 hC hK18 h)
      · skip
        refine v_aload_n (pc := 84) hC dX12_judge_84 rfl 2 rfl ?_
        refine v_get (pc := 85) (v := .ref (ad E 143)) hC fl_X12_75 kq_121 rfl dX12_judge_85 ?_
        refine v_iload (pc := 88) hC dX12_judge_88 5 rfl ?_
        refine v_iald (pc := 90) (n := 16) hC kq_143 (by decide) dX12_judge_90 h (fun h => ?_)
        refine v_goto (pc := 91) (tgt := 95) hC dX12_judge_91 (by decide) ?_
        exact v_sub [2, 1, 0, 4, 5] rfl (j_X12_judge_95 hC hK18 h)
set_option maxRecDepth 20000 in
set_option maxHeartbeats 4000000 in
theorem jl_X12_judge_18 {p : Program} {l : Launch} {e : Env} {s : State} {m : MethodId} {args : Array Value} {below : List Frame} {meth : Method} {c : Code} {E : gE} (hC : CX p s m args meth c cX12_judge RX12 none E 6) {Q : gS → Prop} {F : gS} {x1 : Int32} {x2 : Int32} {x3 : Int32} {x4 : Int32} {x5 : Int32} (h : LP6 (wb_X12_judge_18 Q) F x1 x2 x3 x4 x5) : VV p l e rm_X12_judge s m args below meth c 0 0 (MQ below (va_Qv Q (gB E) (gA E)) args s 0 0 (gA E)) E 6 F 18 [(0, .ref (ad E 121)), (1, .int x1), (2, .int x2), (3, .int x3), (4, .int x4), (5, .int x5)] [] :=
  LP6_go (V := fun (F : gS) (x1 : Int32) (x2 : Int32) (x3 : Int32) (x4 : Int32) (x5 : Int32) => VV p l e rm_X12_judge s m args below meth c 0 0 (MQ below (va_Qv Q (gB E) (gA E)) args s 0 0 (gA E)) E 6 F 18 [(0, .ref (ad E 121)), (1, .int x1), (2, .int x2), (3, .int x3), (4, .int x4), (5, .int x5)] []) (fun K18 hK18 F x1 x2 x3 x4 x5 h => jb_X12_judge_18 hC hK18 h) F x1 x2 x3 x4 x5 h
set_option maxRecDepth 20000 in
set_option maxHeartbeats 4000000 in
theorem c_X12_judge (l : Launch) (E : gE) {F : gS} {Q : gS → Prop} (h : wp_X12_judge F Q) : CtV l E yX12_judge cX12_judge 6 none rm_X12_judge [.ref (ad E 121)] F Q := by
  refine ct_of (by decide) (Nat.le_of_ble_eq_true rfl) (fun p e s m below meth c hC => ?_)
  generalize ([.ref (ad E 121)] : List Value).toArray = args at hC ⊢
  refine v_sub (lv' := [(0, .ref (ad E 121))]) [0] rfl ?_
  unfold wp_X12_judge at h
  refine v_iconst (pc := 0) (v := 0) hC dX12_judge_0 (by decide) ?_
  refine v_istore_n (pc := 1) (lv' := [(1, .int 0), (0, .ref (ad E 121))]) hC dX12_judge_1 rfl (by decide) rfl ?_
  refine v_iconst (pc := 2) (v := 0) hC dX12_judge_2 (by decide) ?_
  refine v_istore_n (pc := 3) (lv' := [(2, .int 0), (1, .int 0), (0, .ref (ad E 121))]) hC dX12_judge_3 rfl (by decide) rfl ?_
  refine v_ldc (pc := 4) hC kc_X12_242 dX12_judge_4 ?_
  refine v_istore_n (pc := 6) (lv' := [(3, .int 268435456), (2, .int 0), (1, .int 0), (0, .ref (ad E 121))]) hC dX12_judge_6 rfl (by decide) rfl ?_
  refine v_iconst (pc := 7) (v := 0) hC dX12_judge_7 (by decide) ?_
  refine v_istore (pc := 8) (lv' := [(4, .int 0), (3, .int 268435456), (2, .int 0), (1, .int 0), (0, .ref (ad E 121))]) hC dX12_judge_8 (by decide) rfl ?_
  refine v_aload_n (pc := 10) hC dX12_judge_10 rfl 4 rfl ?_
  refine v_iconst (pc := 11) (v := 0) hC dX12_judge_11 (by decide) ?_
  refine v_puti (pc := 12) hC fp_X12_243 kq_121 (fs_10_58 E _ _ _) (fn_10_58 E _ _) dX12_judge_12 h (fun F1 h => ?_)
  refine v_iconst (pc := 15) (v := 0) hC dX12_judge_15 (by decide) ?_
  refine v_istore (pc := 16) (lv' := [(5, .int 0), (4, .int 0), (3, .int 268435456), (2, .int 0), (1, .int 0), (0, .ref (ad E 121))]) hC dX12_judge_16 (by decide) rfl ?_
  exact v_sub [5, 4, 3, 2, 1, 0] rfl (jl_X12_judge_18 hC h)
def rm_X12_goCake : Room := { frames := 3, cells := 0, slots := 0, locals := 70 }
def wb_X12_goCake_152 (Q : gS → Prop) (K152 : gS → Int32 → Prop) (F : gS) (x2 : Int32) : Prop :=
  if (F 121 47) ≤ x2 then
    (wp_X12_takeOut F fun F14 =>
    wp_X12_judge F14 fun F15 =>
    Q F15)
  else
    (wp_X12_goTick (F 121 44) 1 F fun F16 =>
    Nm (x2 + 1) fun n17 =>
    K152 F16 n17)
def wb_X12_goCake_127 (Q : gS → Prop) (K127 : gS → Int32 → Prop) (F : gS) (x2 : Int32) : Prop :=
  if (F 121 46) ≤ x2 then
    (LP2 (wb_X12_goCake_152 Q) F 0)
  else
    (wp_X12_goTick (F 121 44) 0 F fun F12 =>
    Nm (x2 + 1) fun n13 =>
    K127 F12 n13)
def wb_X12_goCake_101 (Q : gS → Prop) (K101 : gS → Int32 → Prop) (F : gS) (x2 : Int32) : Prop :=
  if (F 121 48) ≤ x2 then
    (LP2 (wb_X12_goCake_127 Q) F 0)
  else
    (vp_in x2 6 ∧
    wp_X12_goSwing (F 142 x2.toNatClampNeg) F fun F10 =>
    Nm (x2 + 1) fun n11 =>
    K101 F10 n11)
def wp_X12_goCake_48 (Q : gS → Prop) (F : gS) : Prop :=
  Nm ((((F 121 0) / 2) * (F 121 1)) + ((F 121 1) / 2)) fun n6 =>
  vp_in n6 16 ∧ Nm (upF F 143 n6.toNatClampNeg (F 121 45)) fun F7 =>
  vp_in n6 16 ∧
  wp_X12_atLeast ((F7 140 n6.toNatClampNeg) - (2 * (F7 121 45))) F7 fun r8 =>
  vp_in n6 16 ∧ Nm (upF F7 140 n6.toNatClampNeg r8) fun F9 =>
  LP2 (wb_X12_goCake_101 Q) F9 0
def wb_X12_goCake_2 (Q : gS → Prop) (K2 : gS → Int32 → Prop) (F : gS) (x1 : Int32) : Prop :=
  if 16 ≤ x1 then
    (wp_X12_goCake_48 Q F)
  else
    (vp_in x1 16 ∧ Nm (upF F 143 x1.toNatClampNeg 0) fun F1 =>
    vp_in x1 16 ∧ Nm (upF F1 145 x1.toNatClampNeg (vp_nar .boolean 0)) fun F2 =>
    vp_in (2 * x1) 32 ∧ Nm (upF F2 146 (2 * x1).toNatClampNeg 0) fun F3 =>
    vp_in ((2 * x1) + 1) 32 ∧ Nm (upF F3 146 ((2 * x1) + 1).toNatClampNeg 0) fun F4 =>
    Nm (x1 + 1) fun n5 =>
    K2 F4 n5)
def wp_X12_goCake (F : gS) (Q : gS → Prop) : Prop :=
  LP2 (wb_X12_goCake_2 Q) F 0
set_option maxRecDepth 20000 in
set_option maxHeartbeats 4000000 in
theorem jb_X12_goCake_152 {p : Program} {l : Launch} {e : Env} {s : State} {m : MethodId} {args : Array Value} {below : List Frame} {meth : Method} {c : Code} {E : gE} (hC : CX p s m args meth c cX12_goCake RX12 none E 3) {Q : gS → Prop} {F : gS} {x2 : Int32} {K152 : gS → Int32 → Prop} (hK152 : ∀ (F : gS) (x2 : Int32), K152 F x2 → VV p l e rm_X12_goCake s m args below meth c 0 0 (MQ below (va_Qv Q (gB E) (gA E)) args s 0 0 (gA E)) E 3 F 152 [(0, .ref (ad E 121)), (2, .int x2)] []) (h : wb_X12_goCake_152 Q K152 F x2) : VV p l e rm_X12_goCake s m args below meth c 0 0 (MQ below (va_Qv Q (gB E) (gA E)) args s 0 0 (gA E)) E 3 F 152 [(0, .ref (ad E 121)), (2, .int x2)] [] := by
  unfold wb_X12_goCake_152 at h
  refine v_iload_n (pc := 152) hC dX12_goCake_152 rfl 1 rfl ?_
  refine v_aload_n (pc := 153) hC dX12_goCake_153 rfl 0 rfl ?_
  refine v_get (pc := 154) (v := .int (F 121 47)) hC fl_X12_224 kq_121 rfl dX12_goCake_154 ?_
  refine v_ic_ge (pc := 157) (tgt := 175) hC dX12_goCake_157 (by decide) h (fun h => ?_) (fun h => ?_)
  · skip
    refine v_aload_n (pc := 175) hC dX12_goCake_175 rfl 0 rfl ?_
    refine v_cv (pc := 176) (r_V (rest := []) hC ml_X12_268 mv_X12_takeOut (c_X12_takeOut l E h) ⟨rfl, rfl⟩ ⟨Nat.le_of_ble_eq_true rfl, Nat.le_of_ble_eq_true rfl⟩ kq_121 rfl (by decide) rfl rfl (Nat.le_of_ble_eq_true rfl) ⟨Nat.zero_le _, Nat.zero_le _⟩ dX12_goCake_176) (fun F14 h => ?_)
    refine v_aload_n (pc := 179) hC dX12_goCake_179 rfl 0 rfl ?_
    refine v_cv (pc := 180) (r_V (rest := []) hC ml_X12_271 mv_X12_judge (c_X12_judge l E h) ⟨rfl, rfl⟩ ⟨Nat.le_of_ble_eq_true rfl, Nat.le_of_ble_eq_true rfl⟩ kq_121 rfl (by decide) rfl rfl (Nat.le_of_ble_eq_true rfl) ⟨Nat.zero_le _, Nat.zero_le _⟩ dX12_goCake_180) (fun F15 h => ?_)
    exact v_vret (pc := 183) hC dX12_goCake_183 h
  · skip
    refine v_aload_n (pc := 160) hC dX12_goCake_160 rfl 0 rfl ?_
    refine v_aload_n (pc := 161) hC dX12_goCake_161 rfl 0 rfl ?_
    refine v_get (pc := 162) (v := .int (F 121 44)) hC fl_X12_215 kq_121 rfl dX12_goCake_162 ?_
    refine v_iconst (pc := 165) (v := 1) hC dX12_goCake_165 (by decide) ?_
    refine v_cv (pc := 166) (r_V (rest := []) hC ml_X12_233 mv_X12_goTick (c_X12_goTick l E h) ⟨rfl, rfl⟩ ⟨Nat.le_of_ble_eq_true rfl, Nat.le_of_ble_eq_true rfl⟩ kq_121 rfl (by decide) rfl rfl (Nat.le_of_ble_eq_true rfl) ⟨Nat.zero_le _, Nat.zero_le _⟩ dX12_goCake_166) (fun F16 h => ?_)
    refine v_iinc (pc := 169) (v := 1) hC (fun z => [(2, .int z), (0, .ref (ad E 121))]) dX12_goCake_169 1 rfl (by decide) (by decide) (fun _ => rfl) h (fun n17 h => ?_)
    refine v_goto (pc := 172) (tgt := 152) hC dX12_goCake_172 (by decide) ?_
    exact v_sub [1, 0] rfl (hK152 _ _ h)
set_option maxRecDepth 20000 in
set_option maxHeartbeats 4000000 in
theorem jl_X12_goCake_152 {p : Program} {l : Launch} {e : Env} {s : State} {m : MethodId} {args : Array Value} {below : List Frame} {meth : Method} {c : Code} {E : gE} (hC : CX p s m args meth c cX12_goCake RX12 none E 3) {Q : gS → Prop} {F : gS} {x2 : Int32} (h : LP2 (wb_X12_goCake_152 Q) F x2) : VV p l e rm_X12_goCake s m args below meth c 0 0 (MQ below (va_Qv Q (gB E) (gA E)) args s 0 0 (gA E)) E 3 F 152 [(0, .ref (ad E 121)), (2, .int x2)] [] :=
  LP2_go (V := fun (F : gS) (x2 : Int32) => VV p l e rm_X12_goCake s m args below meth c 0 0 (MQ below (va_Qv Q (gB E) (gA E)) args s 0 0 (gA E)) E 3 F 152 [(0, .ref (ad E 121)), (2, .int x2)] []) (fun K152 hK152 F x2 h => jb_X12_goCake_152 hC hK152 h) F x2 h
set_option maxRecDepth 20000 in
set_option maxHeartbeats 4000000 in
theorem jb_X12_goCake_127 {p : Program} {l : Launch} {e : Env} {s : State} {m : MethodId} {args : Array Value} {below : List Frame} {meth : Method} {c : Code} {E : gE} (hC : CX p s m args meth c cX12_goCake RX12 none E 3) {Q : gS → Prop} {F : gS} {x2 : Int32} {K127 : gS → Int32 → Prop} (hK127 : ∀ (F : gS) (x2 : Int32), K127 F x2 → VV p l e rm_X12_goCake s m args below meth c 0 0 (MQ below (va_Qv Q (gB E) (gA E)) args s 0 0 (gA E)) E 3 F 127 [(0, .ref (ad E 121)), (2, .int x2)] []) (h : wb_X12_goCake_127 Q K127 F x2) : VV p l e rm_X12_goCake s m args below meth c 0 0 (MQ below (va_Qv Q (gB E) (gA E)) args s 0 0 (gA E)) E 3 F 127 [(0, .ref (ad E 121)), (2, .int x2)] [] := by
  unfold wb_X12_goCake_127 at h
  refine v_iload_n (pc := 127) hC dX12_goCake_127 rfl 1 rfl ?_
  refine v_aload_n (pc := 128) hC dX12_goCake_128 rfl 0 rfl ?_
  refine v_get (pc := 129) (v := .int (F 121 46)) hC fl_X12_221 kq_121 rfl dX12_goCake_129 ?_
  refine v_ic_ge (pc := 132) (tgt := 150) hC dX12_goCake_132 (by decide) h (fun h => ?_) (fun h => ?_)
  · skip
    refine v_iconst (pc := 150) (v := 0) hC dX12_goCake_150 (by decide) ?_
    refine v_istore_n (pc := 151) (lv' := [(2, .int 0), (0, .ref (ad E 121))]) hC dX12_goCake_151 rfl (by decide) rfl ?_
    exact v_sub [1, 0] rfl (jl_X12_goCake_152 hC h)
  · skip
    refine v_aload_n (pc := 135) hC dX12_goCake_135 rfl 0 rfl ?_
    refine v_aload_n (pc := 136) hC dX12_goCake_136 rfl 0 rfl ?_
    refine v_get (pc := 137) (v := .int (F 121 44)) hC fl_X12_215 kq_121 rfl dX12_goCake_137 ?_
    refine v_iconst (pc := 140) (v := 0) hC dX12_goCake_140 (by decide) ?_
    refine v_cv (pc := 141) (r_V (rest := []) hC ml_X12_233 mv_X12_goTick (c_X12_goTick l E h) ⟨rfl, rfl⟩ ⟨Nat.le_of_ble_eq_true rfl, Nat.le_of_ble_eq_true rfl⟩ kq_121 rfl (by decide) rfl rfl (Nat.le_of_ble_eq_true rfl) ⟨Nat.zero_le _, Nat.zero_le _⟩ dX12_goCake_141) (fun F12 h => ?_)
    refine v_iinc (pc := 144) (v := 1) hC (fun z => [(2, .int z), (0, .ref (ad E 121))]) dX12_goCake_144 1 rfl (by decide) (by decide) (fun _ => rfl) h (fun n13 h => ?_)
    refine v_goto (pc := 147) (tgt := 127) hC dX12_goCake_147 (by decide) ?_
    exact v_sub [1, 0] rfl (hK127 _ _ h)
set_option maxRecDepth 20000 in
set_option maxHeartbeats 4000000 in
theorem jl_X12_goCake_127 {p : Program} {l : Launch} {e : Env} {s : State} {m : MethodId} {args : Array Value} {below : List Frame} {meth : Method} {c : Code} {E : gE} (hC : CX p s m args meth c cX12_goCake RX12 none E 3) {Q : gS → Prop} {F : gS} {x2 : Int32} (h : LP2 (wb_X12_goCake_127 Q) F x2) : VV p l e rm_X12_goCake s m args below meth c 0 0 (MQ below (va_Qv Q (gB E) (gA E)) args s 0 0 (gA E)) E 3 F 127 [(0, .ref (ad E 121)), (2, .int x2)] [] :=
  LP2_go (V := fun (F : gS) (x2 : Int32) => VV p l e rm_X12_goCake s m args below meth c 0 0 (MQ below (va_Qv Q (gB E) (gA E)) args s 0 0 (gA E)) E 3 F 127 [(0, .ref (ad E 121)), (2, .int x2)] []) (fun K127 hK127 F x2 h => jb_X12_goCake_127 hC hK127 h) F x2 h
set_option maxRecDepth 20000 in
set_option maxHeartbeats 4000000 in
theorem jb_X12_goCake_101 {p : Program} {l : Launch} {e : Env} {s : State} {m : MethodId} {args : Array Value} {below : List Frame} {meth : Method} {c : Code} {E : gE} (hC : CX p s m args meth c cX12_goCake RX12 none E 3) {Q : gS → Prop} {F : gS} {x2 : Int32} {K101 : gS → Int32 → Prop} (hK101 : ∀ (F : gS) (x2 : Int32), K101 F x2 → VV p l e rm_X12_goCake s m args below meth c 0 0 (MQ below (va_Qv Q (gB E) (gA E)) args s 0 0 (gA E)) E 3 F 101 [(0, .ref (ad E 121)), (2, .int x2)] []) (h : wb_X12_goCake_101 Q K101 F x2) : VV p l e rm_X12_goCake s m args below meth c 0 0 (MQ below (va_Qv Q (gB E) (gA E)) args s 0 0 (gA E)) E 3 F 101 [(0, .ref (ad E 121)), (2, .int x2)] [] := by
  unfold wb_X12_goCake_101 at h
  refine v_iload_n (pc := 101) hC dX12_goCake_101 rfl 1 rfl ?_
  refine v_aload_n (pc := 102) hC dX12_goCake_102 rfl 0 rfl ?_
  refine v_get (pc := 103) (v := .int (F 121 48)) hC fl_X12_227 kq_121 rfl dX12_goCake_103 ?_
  refine v_ic_ge (pc := 106) (tgt := 125) hC dX12_goCake_106 (by decide) h (fun h => ?_) (fun h => ?_)
  · skip
    refine v_iconst (pc := 125) (v := 0) hC dX12_goCake_125 (by decide) ?_
    refine v_istore_n (pc := 126) (lv' := [(2, .int 0), (0, .ref (ad E 121))]) hC dX12_goCake_126 rfl (by decide) rfl ?_
    exact v_sub [1, 0] rfl (jl_X12_goCake_127 hC h)
  · skip
    refine v_aload_n (pc := 109) hC dX12_goCake_109 rfl 0 rfl ?_
    refine v_aload_n (pc := 110) hC dX12_goCake_110 rfl 0 rfl ?_
    refine v_get (pc := 111) (v := .ref (ad E 142)) hC fl_X12_72 kq_121 rfl dX12_goCake_111 ?_
    refine v_iload_n (pc := 114) hC dX12_goCake_114 rfl 1 rfl ?_
    refine v_iald (pc := 115) (n := 6) hC kq_142 (by decide) dX12_goCake_115 h (fun h => ?_)
    refine v_cv (pc := 116) (r_V (rest := []) hC ml_X12_264 mv_X12_goSwing (c_X12_goSwing l E h) ⟨rfl, rfl⟩ ⟨Nat.le_of_ble_eq_true rfl, Nat.le_of_ble_eq_true rfl⟩ kq_121 rfl (by decide) rfl rfl (Nat.le_of_ble_eq_true rfl) ⟨Nat.zero_le _, Nat.zero_le _⟩ dX12_goCake_116) (fun F10 h => ?_)
    refine v_iinc (pc := 119) (v := 1) hC (fun z => [(2, .int z), (0, .ref (ad E 121))]) dX12_goCake_119 1 rfl (by decide) (by decide) (fun _ => rfl) h (fun n11 h => ?_)
    refine v_goto (pc := 122) (tgt := 101) hC dX12_goCake_122 (by decide) ?_
    exact v_sub [1, 0] rfl (hK101 _ _ h)
set_option maxRecDepth 20000 in
set_option maxHeartbeats 4000000 in
theorem jl_X12_goCake_101 {p : Program} {l : Launch} {e : Env} {s : State} {m : MethodId} {args : Array Value} {below : List Frame} {meth : Method} {c : Code} {E : gE} (hC : CX p s m args meth c cX12_goCake RX12 none E 3) {Q : gS → Prop} {F : gS} {x2 : Int32} (h : LP2 (wb_X12_goCake_101 Q) F x2) : VV p l e rm_X12_goCake s m args below meth c 0 0 (MQ below (va_Qv Q (gB E) (gA E)) args s 0 0 (gA E)) E 3 F 101 [(0, .ref (ad E 121)), (2, .int x2)] [] :=
  LP2_go (V := fun (F : gS) (x2 : Int32) => VV p l e rm_X12_goCake s m args below meth c 0 0 (MQ below (va_Qv Q (gB E) (gA E)) args s 0 0 (gA E)) E 3 F 101 [(0, .ref (ad E 121)), (2, .int x2)] []) (fun K101 hK101 F x2 h => jb_X12_goCake_101 hC hK101 h) F x2 h
set_option maxRecDepth 20000 in
set_option maxHeartbeats 4000000 in
theorem j_X12_goCake_48 {p : Program} {l : Launch} {e : Env} {s : State} {m : MethodId} {args : Array Value} {below : List Frame} {meth : Method} {c : Code} {E : gE} (hC : CX p s m args meth c cX12_goCake RX12 none E 3) {Q : gS → Prop} {F : gS} (h : wp_X12_goCake_48 Q F) : VV p l e rm_X12_goCake s m args below meth c 0 0 (MQ below (va_Qv Q (gB E) (gA E)) args s 0 0 (gA E)) E 3 F 48 [(0, .ref (ad E 121))] [] := by
  unfold wp_X12_goCake_48 at h
  refine v_aload_n (pc := 48) hC dX12_goCake_48 rfl 0 rfl ?_
  refine v_get (pc := 49) (v := .int (F 121 0)) hC fl_X12_178 kq_121 rfl dX12_goCake_49 ?_
  refine v_iconst (pc := 52) (v := 2) hC dX12_goCake_52 (by decide) ?_
  refine v_idiv (pc := 53) hC dX12_goCake_53 ⟨by decide, h⟩ (fun h => ?_)
  refine v_aload_n (pc := 54) hC dX12_goCake_54 rfl 0 rfl ?_
  refine v_get (pc := 55) (v := .int (F 121 1)) hC fl_X12_181 kq_121 rfl dX12_goCake_55 ?_
  refine v_imul (pc := 58) hC dX12_goCake_58 ?_
  refine v_aload_n (pc := 59) hC dX12_goCake_59 rfl 0 rfl ?_
  refine v_get (pc := 60) (v := .int (F 121 1)) hC fl_X12_181 kq_121 rfl dX12_goCake_60 ?_
  refine v_iconst (pc := 63) (v := 2) hC dX12_goCake_63 (by decide) ?_
  refine v_idiv (pc := 64) hC dX12_goCake_64 ⟨by decide, h⟩ (fun h => ?_)
  refine v_iadd (pc := 65) hC dX12_goCake_65 ?_
  refine v_nmi h (fun n6 h => ?_)
  refine v_istore_n (pc := 66) (lv' := [(1, .int n6), (0, .ref (ad E 121))]) hC dX12_goCake_66 rfl (by decide) rfl ?_
  refine v_aload_n (pc := 67) hC dX12_goCake_67 rfl 1 rfl ?_
  refine v_get (pc := 68) (v := .ref (ad E 143)) hC fl_X12_75 kq_121 rfl dX12_goCake_68 ?_
  refine v_iload_n (pc := 71) hC dX12_goCake_71 rfl 0 rfl ?_
  refine v_aload_n (pc := 72) hC dX12_goCake_72 rfl 1 rfl ?_
  refine v_get (pc := 73) (v := .int (F 121 45)) hC fl_X12_218 kq_121 rfl dX12_goCake_73 ?_
  refine v_iast (pc := 76) (n := 16) hC kq_143 (by decide) dX12_goCake_76 h (fun F7 h => ?_)
  refine v_aload_n (pc := 77) hC dX12_goCake_77 rfl 1 rfl ?_
  refine v_get (pc := 78) (v := .ref (ad E 140)) hC fl_X12_66 kq_121 rfl dX12_goCake_78 ?_
  refine v_iload_n (pc := 81) hC dX12_goCake_81 rfl 0 rfl ?_
  refine v_aload_n (pc := 82) hC dX12_goCake_82 rfl 1 rfl ?_
  refine v_get (pc := 83) (v := .ref (ad E 140)) hC fl_X12_66 kq_121 rfl dX12_goCake_83 ?_
  refine v_iload_n (pc := 86) hC dX12_goCake_86 rfl 0 rfl ?_
  refine v_iald (pc := 87) (n := 16) hC kq_140 (by decide) dX12_goCake_87 h (fun h => ?_)
  refine v_iconst (pc := 88) (v := 2) hC dX12_goCake_88 (by decide) ?_
  refine v_aload_n (pc := 89) hC dX12_goCake_89 rfl 1 rfl ?_
  refine v_get (pc := 90) (v := .int (F7 121 45)) hC fl_X12_218 kq_121 rfl dX12_goCake_90 ?_
  refine v_imul (pc := 93) hC dX12_goCake_93 ?_
  refine v_isub (pc := 94) hC dX12_goCake_94 ?_
  refine v_cip (pc := 95) (r_S (rest := [.int n6, .ref (ad E 140)]) hC ml_X12_230 ms_X12_atLeast (c_X12_atLeast l E h) ⟨rfl, rfl⟩ ⟨Nat.le_of_ble_eq_true rfl, Nat.le_of_ble_eq_true rfl⟩ rfl rfl (Nat.le_of_ble_eq_true rfl) ⟨Nat.zero_le _, Nat.zero_le _⟩ dX12_goCake_95) (fun r8 h => ?_)
  refine v_iast (pc := 98) (n := 16) hC kq_140 (by decide) dX12_goCake_98 h (fun F9 h => ?_)
  refine v_iconst (pc := 99) (v := 0) hC dX12_goCake_99 (by decide) ?_
  refine v_istore_n (pc := 100) (lv' := [(2, .int 0), (1, .int n6), (0, .ref (ad E 121))]) hC dX12_goCake_100 rfl (by decide) rfl ?_
  exact v_sub [2, 0] rfl (jl_X12_goCake_101 hC h)
set_option maxRecDepth 20000 in
set_option maxHeartbeats 4000000 in
theorem jb_X12_goCake_2 {p : Program} {l : Launch} {e : Env} {s : State} {m : MethodId} {args : Array Value} {below : List Frame} {meth : Method} {c : Code} {E : gE} (hC : CX p s m args meth c cX12_goCake RX12 none E 3) {Q : gS → Prop} {F : gS} {x1 : Int32} {K2 : gS → Int32 → Prop} (hK2 : ∀ (F : gS) (x1 : Int32), K2 F x1 → VV p l e rm_X12_goCake s m args below meth c 0 0 (MQ below (va_Qv Q (gB E) (gA E)) args s 0 0 (gA E)) E 3 F 2 [(0, .ref (ad E 121)), (1, .int x1)] []) (h : wb_X12_goCake_2 Q K2 F x1) : VV p l e rm_X12_goCake s m args below meth c 0 0 (MQ below (va_Qv Q (gB E) (gA E)) args s 0 0 (gA E)) E 3 F 2 [(0, .ref (ad E 121)), (1, .int x1)] [] := by
  unfold wb_X12_goCake_2 at h
  refine v_iload_n (pc := 2) hC dX12_goCake_2 rfl 1 rfl ?_
  refine v_bipush (pc := 3) (v := 16) hC dX12_goCake_3 (by decide) ?_
  refine v_ic_ge (pc := 5) (tgt := 48) hC dX12_goCake_5 (by decide) h (fun h => ?_) (fun h => ?_)
  · skip
    exact v_sub [0] rfl (j_X12_goCake_48 hC h)
  · skip
    refine v_aload_n (pc := 8) hC dX12_goCake_8 rfl 0 rfl ?_
    refine v_get (pc := 9) (v := .ref (ad E 143)) hC fl_X12_75 kq_121 rfl dX12_goCake_9 ?_
    refine v_iload_n (pc := 12) hC dX12_goCake_12 rfl 1 rfl ?_
    refine v_iconst (pc := 13) (v := 0) hC dX12_goCake_13 (by decide) ?_
    refine v_iast (pc := 14) (n := 16) hC kq_143 (by decide) dX12_goCake_14 h (fun F1 h => ?_)
    refine v_aload_n (pc := 15) hC dX12_goCake_15 rfl 0 rfl ?_
    refine v_get (pc := 16) (v := .ref (ad E 145)) hC fl_X12_81 kq_121 rfl dX12_goCake_16 ?_
    refine v_iload_n (pc := 19) hC dX12_goCake_19 rfl 1 rfl ?_
    refine v_iconst (pc := 20) (v := 0) hC dX12_goCake_20 (by decide) ?_
    refine v_zast (pc := 21) (n := 16) hC kq_145 (by decide) dX12_goCake_21 h (fun F2 h => ?_)
    refine v_aload_n (pc := 22) hC dX12_goCake_22 rfl 0 rfl ?_
    refine v_get (pc := 23) (v := .ref (ad E 146)) hC fl_X12_84 kq_121 rfl dX12_goCake_23 ?_
    refine v_iconst (pc := 26) (v := 2) hC dX12_goCake_26 (by decide) ?_
    refine v_iload_n (pc := 27) hC dX12_goCake_27 rfl 1 rfl ?_
    refine v_imul (pc := 28) hC dX12_goCake_28 ?_
    refine v_iconst (pc := 29) (v := 0) hC dX12_goCake_29 (by decide) ?_
    refine v_iast (pc := 30) (n := 32) hC kq_146 (by decide) dX12_goCake_30 h (fun F3 h => ?_)
    refine v_aload_n (pc := 31) hC dX12_goCake_31 rfl 0 rfl ?_
    refine v_get (pc := 32) (v := .ref (ad E 146)) hC fl_X12_84 kq_121 rfl dX12_goCake_32 ?_
    refine v_iconst (pc := 35) (v := 2) hC dX12_goCake_35 (by decide) ?_
    refine v_iload_n (pc := 36) hC dX12_goCake_36 rfl 1 rfl ?_
    refine v_imul (pc := 37) hC dX12_goCake_37 ?_
    refine v_iconst (pc := 38) (v := 1) hC dX12_goCake_38 (by decide) ?_
    refine v_iadd (pc := 39) hC dX12_goCake_39 ?_
    refine v_iconst (pc := 40) (v := 0) hC dX12_goCake_40 (by decide) ?_
    refine v_iast (pc := 41) (n := 32) hC kq_146 (by decide) dX12_goCake_41 h (fun F4 h => ?_)
    refine v_iinc (pc := 42) (v := 1) hC (fun z => [(1, .int z), (0, .ref (ad E 121))]) dX12_goCake_42 1 rfl (by decide) (by decide) (fun _ => rfl) h (fun n5 h => ?_)
    refine v_goto (pc := 45) (tgt := 2) hC dX12_goCake_45 (by decide) ?_
    exact v_sub [1, 0] rfl (hK2 _ _ h)
set_option maxRecDepth 20000 in
set_option maxHeartbeats 4000000 in
theorem jl_X12_goCake_2 {p : Program} {l : Launch} {e : Env} {s : State} {m : MethodId} {args : Array Value} {below : List Frame} {meth : Method} {c : Code} {E : gE} (hC : CX p s m args meth c cX12_goCake RX12 none E 3) {Q : gS → Prop} {F : gS} {x1 : Int32} (h : LP2 (wb_X12_goCake_2 Q) F x1) : VV p l e rm_X12_goCake s m args below meth c 0 0 (MQ below (va_Qv Q (gB E) (gA E)) args s 0 0 (gA E)) E 3 F 2 [(0, .ref (ad E 121)), (1, .int x1)] [] :=
  LP2_go (V := fun (F : gS) (x1 : Int32) => VV p l e rm_X12_goCake s m args below meth c 0 0 (MQ below (va_Qv Q (gB E) (gA E)) args s 0 0 (gA E)) E 3 F 2 [(0, .ref (ad E 121)), (1, .int x1)] []) (fun K2 hK2 F x1 h => jb_X12_goCake_2 hC hK2 h) F x1 h
set_option maxRecDepth 20000 in
set_option maxHeartbeats 4000000 in
theorem c_X12_goCake (l : Launch) (E : gE) {F : gS} {Q : gS → Prop} (h : wp_X12_goCake F Q) : CtV l E yX12_goCake cX12_goCake 3 none rm_X12_goCake [.ref (ad E 121)] F Q := by
  refine ct_of (by decide) (Nat.le_of_ble_eq_true rfl) (fun p e s m below meth c hC => ?_)
  generalize ([.ref (ad E 121)] : List Value).toArray = args at hC ⊢
  refine v_sub (lv' := [(0, .ref (ad E 121))]) [0] rfl ?_
  unfold wp_X12_goCake at h
  refine v_iconst (pc := 0) (v := 0) hC dX12_goCake_0 (by decide) ?_
  refine v_istore_n (pc := 1) (lv' := [(1, .int 0), (0, .ref (ad E 121))]) hC dX12_goCake_1 rfl (by decide) rfl ?_
  exact v_sub [1, 0] rfl (jl_X12_goCake_2 hC h)
def rm_X12_putPan : Room := { frames := 0, cells := 0, slots := 0, locals := 0 }
def wb_X12_putPan_2 (Q : gS → Prop) (K2 : gS → Int32 → Prop) (F : gS) (x1 : Int32) : Prop :=
  if 16 ≤ x1 then
    (Nm (upF F 121 7 (F 121 43)) fun F1 =>
    Q F1)
  else
    (vp_in x1 16 ∧
    vp_in x1 16 ∧ Nm (upF F 124 x1.toNatClampNeg (F 140 x1.toNatClampNeg)) fun F2 =>
    vp_in x1 16 ∧
    vp_in x1 16 ∧ Nm (upF F2 125 x1.toNatClampNeg (F2 141 x1.toNatClampNeg)) fun F3 =>
    Nm (x1 + 1) fun n4 =>
    K2 F3 n4)
def wp_X12_putPan (F : gS) (Q : gS → Prop) : Prop :=
  LP2 (wb_X12_putPan_2 Q) F 0
set_option maxRecDepth 20000 in
set_option maxHeartbeats 4000000 in
theorem jb_X12_putPan_2 {p : Program} {l : Launch} {e : Env} {s : State} {m : MethodId} {args : Array Value} {below : List Frame} {meth : Method} {c : Code} {E : gE} (hC : CX p s m args meth c cX12_putPan RX12 none E 2) {Q : gS → Prop} {F : gS} {x1 : Int32} {K2 : gS → Int32 → Prop} (hK2 : ∀ (F : gS) (x1 : Int32), K2 F x1 → VV p l e rm_X12_putPan s m args below meth c 0 0 (MQ below (va_Qv Q (gB E) (gA E)) args s 0 0 (gA E)) E 2 F 2 [(0, .ref (ad E 121)), (1, .int x1)] []) (h : wb_X12_putPan_2 Q K2 F x1) : VV p l e rm_X12_putPan s m args below meth c 0 0 (MQ below (va_Qv Q (gB E) (gA E)) args s 0 0 (gA E)) E 2 F 2 [(0, .ref (ad E 121)), (1, .int x1)] [] := by
  unfold wb_X12_putPan_2 at h
  refine v_iload_n (pc := 2) hC dX12_putPan_2 rfl 1 rfl ?_
  refine v_bipush (pc := 3) (v := 16) hC dX12_putPan_3 (by decide) ?_
  refine v_ic_ge (pc := 5) (tgt := 38) hC dX12_putPan_5 (by decide) h (fun h => ?_) (fun h => ?_)
  · skip
    refine v_aload_n (pc := 38) hC dX12_putPan_38 rfl 0 rfl ?_
    refine v_aload_n (pc := 39) hC dX12_putPan_39 rfl 0 rfl ?_
    refine v_get (pc := 40) (v := .int (F 121 43)) hC fl_X12_212 kq_121 rfl dX12_putPan_40 ?_
    refine v_puti (pc := 43) hC fp_X12_184 kq_121 (fs_10_7 E _ _ _) (fn_10_7 E _ _) dX12_putPan_43 h (fun F1 h => ?_)
    exact v_vret (pc := 46) hC dX12_putPan_46 h
  · skip
    refine v_aload_n (pc := 8) hC dX12_putPan_8 rfl 0 rfl ?_
    refine v_get (pc := 9) (v := .ref (ad E 124)) hC fl_X12_17 kq_121 rfl dX12_putPan_9 ?_
    refine v_iload_n (pc := 12) hC dX12_putPan_12 rfl 1 rfl ?_
    refine v_aload_n (pc := 13) hC dX12_putPan_13 rfl 0 rfl ?_
    refine v_get (pc := 14) (v := .ref (ad E 140)) hC fl_X12_66 kq_121 rfl dX12_putPan_14 ?_
    refine v_iload_n (pc := 17) hC dX12_putPan_17 rfl 1 rfl ?_
    refine v_iald (pc := 18) (n := 16) hC kq_140 (by decide) dX12_putPan_18 h (fun h => ?_)
    refine v_iast (pc := 19) (n := 16) hC kq_124 (by decide) dX12_putPan_19 h (fun F2 h => ?_)
    refine v_aload_n (pc := 20) hC dX12_putPan_20 rfl 0 rfl ?_
    refine v_get (pc := 21) (v := .ref (ad E 125)) hC fl_X12_20 kq_121 rfl dX12_putPan_21 ?_
    refine v_iload_n (pc := 24) hC dX12_putPan_24 rfl 1 rfl ?_
    refine v_aload_n (pc := 25) hC dX12_putPan_25 rfl 0 rfl ?_
    refine v_get (pc := 26) (v := .ref (ad E 141)) hC fl_X12_69 kq_121 rfl dX12_putPan_26 ?_
    refine v_iload_n (pc := 29) hC dX12_putPan_29 rfl 1 rfl ?_
    refine v_iald (pc := 30) (n := 16) hC kq_141 (by decide) dX12_putPan_30 h (fun h => ?_)
    refine v_iast (pc := 31) (n := 16) hC kq_125 (by decide) dX12_putPan_31 h (fun F3 h => ?_)
    refine v_iinc (pc := 32) (v := 1) hC (fun z => [(1, .int z), (0, .ref (ad E 121))]) dX12_putPan_32 1 rfl (by decide) (by decide) (fun _ => rfl) h (fun n4 h => ?_)
    refine v_goto (pc := 35) (tgt := 2) hC dX12_putPan_35 (by decide) ?_
    exact v_sub [1, 0] rfl (hK2 _ _ h)
set_option maxRecDepth 20000 in
set_option maxHeartbeats 4000000 in
theorem jl_X12_putPan_2 {p : Program} {l : Launch} {e : Env} {s : State} {m : MethodId} {args : Array Value} {below : List Frame} {meth : Method} {c : Code} {E : gE} (hC : CX p s m args meth c cX12_putPan RX12 none E 2) {Q : gS → Prop} {F : gS} {x1 : Int32} (h : LP2 (wb_X12_putPan_2 Q) F x1) : VV p l e rm_X12_putPan s m args below meth c 0 0 (MQ below (va_Qv Q (gB E) (gA E)) args s 0 0 (gA E)) E 2 F 2 [(0, .ref (ad E 121)), (1, .int x1)] [] :=
  LP2_go (V := fun (F : gS) (x1 : Int32) => VV p l e rm_X12_putPan s m args below meth c 0 0 (MQ below (va_Qv Q (gB E) (gA E)) args s 0 0 (gA E)) E 2 F 2 [(0, .ref (ad E 121)), (1, .int x1)] []) (fun K2 hK2 F x1 h => jb_X12_putPan_2 hC hK2 h) F x1 h
set_option maxRecDepth 20000 in
set_option maxHeartbeats 4000000 in
theorem c_X12_putPan (l : Launch) (E : gE) {F : gS} {Q : gS → Prop} (h : wp_X12_putPan F Q) : CtV l E yX12_putPan cX12_putPan 2 none rm_X12_putPan [.ref (ad E 121)] F Q := by
  refine ct_of (by decide) (Nat.le_of_ble_eq_true rfl) (fun p e s m below meth c hC => ?_)
  generalize ([.ref (ad E 121)] : List Value).toArray = args at hC ⊢
  refine v_sub (lv' := [(0, .ref (ad E 121))]) [0] rfl ?_
  unfold wp_X12_putPan at h
  refine v_iconst (pc := 0) (v := 0) hC dX12_putPan_0 (by decide) ?_
  refine v_istore_n (pc := 1) (lv' := [(1, .int 0), (0, .ref (ad E 121))]) hC dX12_putPan_1 rfl (by decide) rfl ?_
  exact v_sub [1, 0] rfl (jl_X12_putPan_2 hC h)
def rm_X12_warm : Room := { frames := 2, cells := 0, slots := 0, locals := 43 }
def wb_X12_warm_87 (Q : Int32 → gS → Prop) (F : gS) (K87 : Int32 → Int32 → Prop) (x3 : Int32) (x4 : Int32) : Prop :=
  wp_X12_cells F fun r11 =>
  if r11 ≤ x4 then
    (Q x3 F)
  else
    (vp_in x4 16 ∧
    if (F 124 x4.toNatClampNeg) ≤ x3 then
      (Nm (x4 + 1) fun n12 =>
      K87 x3 n12)
    else
      (vp_in x4 16 ∧
      Nm (F 124 x4.toNatClampNeg) fun n13 =>
      Nm (x4 + 1) fun n14 =>
      K87 n13 n14))
def wb_X12_warm_61 (Q : Int32 → gS → Prop) (x1 : Int32) (x2 : Int32) (K61 : gS → Int32 → Prop) (F : gS) (x3 : Int32) : Prop :=
  if x2 ≤ x3 then
    (wp_X12_putPan F fun F8 =>
    LP2 (wb_X12_warm_87 Q F8) 0 0)
  else
    (wp_X12_goTick x1 0 F fun F9 =>
    Nm (x3 + 1) fun n10 =>
    K61 F9 n10)
def wb_X12_warm_40 (Q : Int32 → gS → Prop) (x1 : Int32) (x2 : Int32) (K40 : gS → Int32 → Prop) (F : gS) (x3 : Int32) : Prop :=
  if 16 ≤ x3 then
    (LP2 (wb_X12_warm_61 Q x1 x2) F 0)
  else
    (vp_in x3 16 ∧ Nm (upF F 143 x3.toNatClampNeg 0) fun F6 =>
    Nm (x3 + 1) fun n7 =>
    K40 F6 n7)
def wp_X12_warm (x1 : Int32) (x2 : Int32) (F : gS) (Q : Int32 → gS → Prop) : Prop :=
  if (F 121 2) = 0 then
    (Q (-103) F)
  else
    (wp_X12_within x1 0 9 F fun r1 =>
    if r1 = 0 then
      (Q (-102) F)
    else
      (wp_X12_within x2 1 200 F fun r3 =>
      if r3 = 0 then
        (Q (-102) F)
      else
        (wp_X12_loadPan F fun F5 =>
        LP2 (wb_X12_warm_40 Q x1 x2) F5 0)))
set_option maxRecDepth 20000 in
set_option maxHeartbeats 4000000 in
theorem jb_X12_warm_87 {p : Program} {l : Launch} {e : Env} {s : State} {m : MethodId} {args : Array Value} {below : List Frame} {meth : Method} {c : Code} {E : gE} (hC : CX p s m args meth c cX12_warm RX12 (some .int) E 5) {Q : Int32 → gS → Prop} {F : gS} {x3 : Int32} {x4 : Int32} {K87 : Int32 → Int32 → Prop} (hK87 : ∀ (x3 : Int32) (x4 : Int32), K87 x3 x4 → VV p l e rm_X12_warm s m args below meth c 0 0 (MQ below (va_Qi Q (gB E) (gA E)) args s 0 0 (gA E)) E 5 F 87 [(0, .ref (ad E 121)), (3, .int x3), (4, .int x4)] []) (h : wb_X12_warm_87 Q F K87 x3 x4) : VV p l e rm_X12_warm s m args below meth c 0 0 (MQ below (va_Qi Q (gB E) (gA E)) args s 0 0 (gA E)) E 5 F 87 [(0, .ref (ad E 121)), (3, .int x3), (4, .int x4)] [] := by
  unfold wb_X12_warm_87 at h
  refine v_iload (pc := 87) hC dX12_warm_87 2 rfl ?_
  refine v_aload_n (pc := 89) hC dX12_warm_89 rfl 0 rfl ?_
  refine v_cip (pc := 90) (r_V (rest := [.int x4]) hC ml_X12_202 mv_X12_cells (c_X12_cells l E h) ⟨rfl, rfl⟩ ⟨Nat.le_of_ble_eq_true rfl, Nat.le_of_ble_eq_true rfl⟩ kq_121 rfl (by decide) rfl rfl (Nat.le_of_ble_eq_true rfl) ⟨Nat.zero_le _, Nat.zero_le _⟩ dX12_warm_90) (fun r11 h => ?_)
  refine v_ic_ge (pc := 93) (tgt := 125) hC dX12_warm_93 (by decide) h (fun h => ?_) (fun h => ?_)
  · skip
    refine v_iload_n (pc := 125) hC dX12_warm_125 rfl 1 rfl ?_
    exact v_iret (pc := 126) hC dX12_warm_126 h
  · skip
    refine v_aload_n (pc := 96) hC dX12_warm_96 rfl 0 rfl ?_
    refine v_get (pc := 97) (v := .ref (ad E 124)) hC fl_X12_17 kq_121 rfl dX12_warm_97 ?_
    refine v_iload (pc := 100) hC dX12_warm_100 2 rfl ?_
    refine v_iald (pc := 102) (n := 16) hC kq_124 (by decide) dX12_warm_102 h (fun h => ?_)
    refine v_iload_n (pc := 103) hC dX12_warm_103 rfl 1 rfl ?_
    refine v_ic_le (pc := 104) (tgt := 117) hC dX12_warm_104 (by decide) h (fun h => ?_) (fun h => ?_)
    · skip
      refine v_iload_n (pc := 117) hC dX12_warm_117 rfl 1 rfl ?_
      refine v_istore_n (pc := 118) (lv' := [(3, .int x3), (0, .ref (ad E 121)), (4, .int x4)]) hC dX12_warm_118 rfl (by decide) rfl ?_
      refine v_iinc (pc := 119) (v := 1) hC (fun z => [(4, .int z), (3, .int x3), (0, .ref (ad E 121))]) dX12_warm_119 2 rfl (by decide) (by decide) (fun _ => rfl) h (fun n12 h => ?_)
      refine v_goto (pc := 122) (tgt := 87) hC dX12_warm_122 (by decide) ?_
      exact v_sub [2, 1, 0] rfl (hK87 _ _ h)
    · skip
      refine v_aload_n (pc := 107) hC dX12_warm_107 rfl 0 rfl ?_
      refine v_get (pc := 108) (v := .ref (ad E 124)) hC fl_X12_17 kq_121 rfl dX12_warm_108 ?_
      refine v_iload (pc := 111) hC dX12_warm_111 2 rfl ?_
      refine v_iald (pc := 113) (n := 16) hC kq_124 (by decide) dX12_warm_113 h (fun h => ?_)
      refine v_goto (pc := 114) (tgt := 118) hC dX12_warm_114 (by decide) ?_
      refine v_nmi h (fun n13 h => ?_)
      refine v_istore_n (pc := 118) (lv' := [(3, .int n13), (0, .ref (ad E 121)), (4, .int x4)]) hC dX12_warm_118 rfl (by decide) rfl ?_
      refine v_iinc (pc := 119) (v := 1) hC (fun z => [(4, .int z), (3, .int n13), (0, .ref (ad E 121))]) dX12_warm_119 2 rfl (by decide) (by decide) (fun _ => rfl) h (fun n14 h => ?_)
      refine v_goto (pc := 122) (tgt := 87) hC dX12_warm_122 (by decide) ?_
      exact v_sub [2, 1, 0] rfl (hK87 _ _ h)
set_option maxRecDepth 20000 in
set_option maxHeartbeats 4000000 in
theorem jl_X12_warm_87 {p : Program} {l : Launch} {e : Env} {s : State} {m : MethodId} {args : Array Value} {below : List Frame} {meth : Method} {c : Code} {E : gE} (hC : CX p s m args meth c cX12_warm RX12 (some .int) E 5) {Q : Int32 → gS → Prop} {F : gS} {x3 : Int32} {x4 : Int32} (h : LP2 (wb_X12_warm_87 Q F) x3 x4) : VV p l e rm_X12_warm s m args below meth c 0 0 (MQ below (va_Qi Q (gB E) (gA E)) args s 0 0 (gA E)) E 5 F 87 [(0, .ref (ad E 121)), (3, .int x3), (4, .int x4)] [] :=
  LP2_go (V := fun (x3 : Int32) (x4 : Int32) => VV p l e rm_X12_warm s m args below meth c 0 0 (MQ below (va_Qi Q (gB E) (gA E)) args s 0 0 (gA E)) E 5 F 87 [(0, .ref (ad E 121)), (3, .int x3), (4, .int x4)] []) (fun K87 hK87 x3 x4 h => jb_X12_warm_87 hC hK87 h) x3 x4 h
set_option maxRecDepth 20000 in
set_option maxHeartbeats 4000000 in
theorem jb_X12_warm_61 {p : Program} {l : Launch} {e : Env} {s : State} {m : MethodId} {args : Array Value} {below : List Frame} {meth : Method} {c : Code} {E : gE} (hC : CX p s m args meth c cX12_warm RX12 (some .int) E 5) {Q : Int32 → gS → Prop} {F : gS} {x1 : Int32} {x2 : Int32} {x3 : Int32} {K61 : gS → Int32 → Prop} (hK61 : ∀ (F : gS) (x3 : Int32), K61 F x3 → VV p l e rm_X12_warm s m args below meth c 0 0 (MQ below (va_Qi Q (gB E) (gA E)) args s 0 0 (gA E)) E 5 F 61 [(0, .ref (ad E 121)), (1, .int x1), (2, .int x2), (3, .int x3)] []) (h : wb_X12_warm_61 Q x1 x2 K61 F x3) : VV p l e rm_X12_warm s m args below meth c 0 0 (MQ below (va_Qi Q (gB E) (gA E)) args s 0 0 (gA E)) E 5 F 61 [(0, .ref (ad E 121)), (1, .int x1), (2, .int x2), (3, .int x3)] [] := by
  unfold wb_X12_warm_61 at h
  refine v_iload_n (pc := 61) hC dX12_warm_61 rfl 3 rfl ?_
  refine v_iload_n (pc := 62) hC dX12_warm_62 rfl 2 rfl ?_
  refine v_ic_ge (pc := 63) (tgt := 78) hC dX12_warm_63 (by decide) h (fun h => ?_) (fun h => ?_)
  · skip
    refine v_aload_n (pc := 78) hC dX12_warm_78 rfl 0 rfl ?_
    refine v_cv (pc := 79) (r_V (rest := []) hC ml_X12_277 mv_X12_putPan (c_X12_putPan l E h) ⟨rfl, rfl⟩ ⟨Nat.le_of_ble_eq_true rfl, Nat.le_of_ble_eq_true rfl⟩ kq_121 rfl (by decide) rfl rfl (Nat.le_of_ble_eq_true rfl) ⟨Nat.zero_le _, Nat.zero_le _⟩ dX12_warm_79) (fun F8 h => ?_)
    refine v_iconst (pc := 82) (v := 0) hC dX12_warm_82 (by decide) ?_
    refine v_istore_n (pc := 83) (lv' := [(3, .int 0), (0, .ref (ad E 121)), (1, .int x1), (2, .int x2)]) hC dX12_warm_83 rfl (by decide) rfl ?_
    refine v_iconst (pc := 84) (v := 0) hC dX12_warm_84 (by decide) ?_
    refine v_istore (pc := 85) (lv' := [(4, .int 0), (3, .int 0), (0, .ref (ad E 121)), (1, .int x1), (2, .int x2)]) hC dX12_warm_85 (by decide) rfl ?_
    exact v_sub [2, 1, 0] rfl (jl_X12_warm_87 hC h)
  · skip
    refine v_aload_n (pc := 66) hC dX12_warm_66 rfl 0 rfl ?_
    refine v_iload_n (pc := 67) hC dX12_warm_67 rfl 1 rfl ?_
    refine v_iconst (pc := 68) (v := 0) hC dX12_warm_68 (by decide) ?_
    refine v_cv (pc := 69) (r_V (rest := []) hC ml_X12_233 mv_X12_goTick (c_X12_goTick l E h) ⟨rfl, rfl⟩ ⟨Nat.le_of_ble_eq_true rfl, Nat.le_of_ble_eq_true rfl⟩ kq_121 rfl (by decide) rfl rfl (Nat.le_of_ble_eq_true rfl) ⟨Nat.zero_le _, Nat.zero_le _⟩ dX12_warm_69) (fun F9 h => ?_)
    refine v_iinc (pc := 72) (v := 1) hC (fun z => [(3, .int z), (0, .ref (ad E 121)), (1, .int x1), (2, .int x2)]) dX12_warm_72 3 rfl (by decide) (by decide) (fun _ => rfl) h (fun n10 h => ?_)
    refine v_goto (pc := 75) (tgt := 61) hC dX12_warm_75 (by decide) ?_
    exact v_sub [1, 2, 3, 0] rfl (hK61 _ _ h)
set_option maxRecDepth 20000 in
set_option maxHeartbeats 4000000 in
theorem jl_X12_warm_61 {p : Program} {l : Launch} {e : Env} {s : State} {m : MethodId} {args : Array Value} {below : List Frame} {meth : Method} {c : Code} {E : gE} (hC : CX p s m args meth c cX12_warm RX12 (some .int) E 5) {Q : Int32 → gS → Prop} {F : gS} {x1 : Int32} {x2 : Int32} {x3 : Int32} (h : LP2 (wb_X12_warm_61 Q x1 x2) F x3) : VV p l e rm_X12_warm s m args below meth c 0 0 (MQ below (va_Qi Q (gB E) (gA E)) args s 0 0 (gA E)) E 5 F 61 [(0, .ref (ad E 121)), (1, .int x1), (2, .int x2), (3, .int x3)] [] :=
  LP2_go (V := fun (F : gS) (x3 : Int32) => VV p l e rm_X12_warm s m args below meth c 0 0 (MQ below (va_Qi Q (gB E) (gA E)) args s 0 0 (gA E)) E 5 F 61 [(0, .ref (ad E 121)), (1, .int x1), (2, .int x2), (3, .int x3)] []) (fun K61 hK61 F x3 h => jb_X12_warm_61 hC hK61 h) F x3 h
set_option maxRecDepth 20000 in
set_option maxHeartbeats 4000000 in
theorem jb_X12_warm_40 {p : Program} {l : Launch} {e : Env} {s : State} {m : MethodId} {args : Array Value} {below : List Frame} {meth : Method} {c : Code} {E : gE} (hC : CX p s m args meth c cX12_warm RX12 (some .int) E 5) {Q : Int32 → gS → Prop} {F : gS} {x1 : Int32} {x2 : Int32} {x3 : Int32} {K40 : gS → Int32 → Prop} (hK40 : ∀ (F : gS) (x3 : Int32), K40 F x3 → VV p l e rm_X12_warm s m args below meth c 0 0 (MQ below (va_Qi Q (gB E) (gA E)) args s 0 0 (gA E)) E 5 F 40 [(0, .ref (ad E 121)), (1, .int x1), (2, .int x2), (3, .int x3)] []) (h : wb_X12_warm_40 Q x1 x2 K40 F x3) : VV p l e rm_X12_warm s m args below meth c 0 0 (MQ below (va_Qi Q (gB E) (gA E)) args s 0 0 (gA E)) E 5 F 40 [(0, .ref (ad E 121)), (1, .int x1), (2, .int x2), (3, .int x3)] [] := by
  unfold wb_X12_warm_40 at h
  refine v_iload_n (pc := 40) hC dX12_warm_40 rfl 3 rfl ?_
  refine v_bipush (pc := 41) (v := 16) hC dX12_warm_41 (by decide) ?_
  refine v_ic_ge (pc := 43) (tgt := 59) hC dX12_warm_43 (by decide) h (fun h => ?_) (fun h => ?_)
  · skip
    refine v_iconst (pc := 59) (v := 0) hC dX12_warm_59 (by decide) ?_
    refine v_istore_n (pc := 60) (lv' := [(3, .int 0), (0, .ref (ad E 121)), (1, .int x1), (2, .int x2)]) hC dX12_warm_60 rfl (by decide) rfl ?_
    exact v_sub [1, 2, 3, 0] rfl (jl_X12_warm_61 hC h)
  · skip
    refine v_aload_n (pc := 46) hC dX12_warm_46 rfl 0 rfl ?_
    refine v_get (pc := 47) (v := .ref (ad E 143)) hC fl_X12_75 kq_121 rfl dX12_warm_47 ?_
    refine v_iload_n (pc := 50) hC dX12_warm_50 rfl 3 rfl ?_
    refine v_iconst (pc := 51) (v := 0) hC dX12_warm_51 (by decide) ?_
    refine v_iast (pc := 52) (n := 16) hC kq_143 (by decide) dX12_warm_52 h (fun F6 h => ?_)
    refine v_iinc (pc := 53) (v := 1) hC (fun z => [(3, .int z), (0, .ref (ad E 121)), (1, .int x1), (2, .int x2)]) dX12_warm_53 3 rfl (by decide) (by decide) (fun _ => rfl) h (fun n7 h => ?_)
    refine v_goto (pc := 56) (tgt := 40) hC dX12_warm_56 (by decide) ?_
    exact v_sub [1, 2, 3, 0] rfl (hK40 _ _ h)
set_option maxRecDepth 20000 in
set_option maxHeartbeats 4000000 in
theorem jl_X12_warm_40 {p : Program} {l : Launch} {e : Env} {s : State} {m : MethodId} {args : Array Value} {below : List Frame} {meth : Method} {c : Code} {E : gE} (hC : CX p s m args meth c cX12_warm RX12 (some .int) E 5) {Q : Int32 → gS → Prop} {F : gS} {x1 : Int32} {x2 : Int32} {x3 : Int32} (h : LP2 (wb_X12_warm_40 Q x1 x2) F x3) : VV p l e rm_X12_warm s m args below meth c 0 0 (MQ below (va_Qi Q (gB E) (gA E)) args s 0 0 (gA E)) E 5 F 40 [(0, .ref (ad E 121)), (1, .int x1), (2, .int x2), (3, .int x3)] [] :=
  LP2_go (V := fun (F : gS) (x3 : Int32) => VV p l e rm_X12_warm s m args below meth c 0 0 (MQ below (va_Qi Q (gB E) (gA E)) args s 0 0 (gA E)) E 5 F 40 [(0, .ref (ad E 121)), (1, .int x1), (2, .int x2), (3, .int x3)] []) (fun K40 hK40 F x3 h => jb_X12_warm_40 hC hK40 h) F x3 h
set_option maxRecDepth 20000 in
set_option maxHeartbeats 4000000 in
theorem c_X12_warm (l : Launch) (E : gE) {x1 : Int32} {x2 : Int32} {F : gS} {Q : Int32 → gS → Prop} (h : wp_X12_warm x1 x2 F Q) : CtI l E yX12_warm cX12_warm 5 (some .int) rm_X12_warm [.ref (ad E 121), .int x1, .int x2] F Q := by
  refine ct_of (by decide) (Nat.le_of_ble_eq_true rfl) (fun p e s m below meth c hC => ?_)
  generalize ([.ref (ad E 121), .int x1, .int x2] : List Value).toArray = args at hC ⊢
  refine v_sub (lv' := [(0, .ref (ad E 121)), (1, .int x1), (2, .int x2)]) [0, 1, 2] rfl ?_
  unfold wp_X12_warm at h
  refine v_aload_n (pc := 0) hC dX12_warm_0 rfl 0 rfl ?_
  refine v_get (pc := 1) (v := .int (F 121 2)) hC fl_X12_190 kq_121 rfl dX12_warm_1 ?_
  refine v_if_ne (pc := 4) (tgt := 10) hC dX12_warm_4 (by decide) h (fun h => ?_) (fun h => ?_)
  · skip
    refine v_iload_n (pc := 10) hC dX12_warm_10 rfl 1 rfl ?_
    refine v_iconst (pc := 11) (v := 0) hC dX12_warm_11 (by decide) ?_
    refine v_bipush (pc := 12) (v := 9) hC dX12_warm_12 (by decide) ?_
    refine v_cyp (pc := 14) (r_S (rest := []) hC ml_X12_102 ms_X12_within (c_X12_within l E h) ⟨rfl, rfl⟩ ⟨Nat.le_of_ble_eq_true rfl, Nat.le_of_ble_eq_true rfl⟩ rfl rfl (Nat.le_of_ble_eq_true rfl) ⟨Nat.zero_le _, Nat.zero_le _⟩ dX12_warm_14) (fun r1 b2 h => ?_)
    refine v_if_eq (pc := 17) (tgt := 31) hC dX12_warm_17 (by decide) h (fun h => ?_) (fun h => ?_)
    · skip
      refine v_bipush (pc := 31) (v := (-102)) hC dX12_warm_31 (by decide) ?_
      exact v_iret (pc := 33) hC dX12_warm_33 h
    · skip
      refine v_iload_n (pc := 20) hC dX12_warm_20 rfl 2 rfl ?_
      refine v_iconst (pc := 21) (v := 1) hC dX12_warm_21 (by decide) ?_
      refine v_sipush (pc := 22) (v := 200) hC dX12_warm_22 (by decide) ?_
      refine v_cyp (pc := 25) (r_S (rest := []) hC ml_X12_102 ms_X12_within (c_X12_within l E h) ⟨rfl, rfl⟩ ⟨Nat.le_of_ble_eq_true rfl, Nat.le_of_ble_eq_true rfl⟩ rfl rfl (Nat.le_of_ble_eq_true rfl) ⟨Nat.zero_le _, Nat.zero_le _⟩ dX12_warm_25) (fun r3 b4 h => ?_)
      refine v_if_ne (pc := 28) (tgt := 34) hC dX12_warm_28 (by decide) h (fun h => ?_) (fun h => ?_)
      · skip
        refine v_aload_n (pc := 34) hC dX12_warm_34 rfl 0 rfl ?_
        refine v_cv (pc := 35) (r_V (rest := []) hC ml_X12_274 mv_X12_loadPan (c_X12_loadPan l E h) ⟨rfl, rfl⟩ ⟨Nat.le_of_ble_eq_true rfl, Nat.le_of_ble_eq_true rfl⟩ kq_121 rfl (by decide) rfl rfl (Nat.le_of_ble_eq_true rfl) ⟨Nat.zero_le _, Nat.zero_le _⟩ dX12_warm_35) (fun F5 h => ?_)
        refine v_iconst (pc := 38) (v := 0) hC dX12_warm_38 (by decide) ?_
        refine v_istore_n (pc := 39) (lv' := [(3, .int 0), (0, .ref (ad E 121)), (1, .int x1), (2, .int x2)]) hC dX12_warm_39 rfl (by decide) rfl ?_
        exact v_sub [1, 2, 3, 0] rfl (jl_X12_warm_40 hC h)
      · skip
        refine v_bipush (pc := 31) (v := (-102)) hC dX12_warm_31 (by decide) ?_
        exact v_iret (pc := 33) hC dX12_warm_33 h
  · skip
    refine v_bipush (pc := 7) (v := (-103)) hC dX12_warm_7 (by decide) ?_
    exact v_iret (pc := 9) hC dX12_warm_9 h
def rm_X12_fat : Room := { frames := 1, cells := 0, slots := 0, locals := 22 }
def wp_X12_fat (x1 : Int32) (F : gS) (Q : Int32 → gS → Prop) : Prop :=
  if (F 121 2) = 0 then
    (Q (-103) F)
  else
    (wp_X12_within x1 0 9 F fun r1 =>
    if r1 = 0 then
      (Q (-102) F)
    else
      (Nm (F 121 7) fun n3 =>
      Nm (upF F 121 7 x1) fun F4 =>
      Q n3 F4))
set_option maxRecDepth 20000 in
set_option maxHeartbeats 4000000 in
theorem c_X12_fat (l : Launch) (E : gE) {x1 : Int32} {F : gS} {Q : Int32 → gS → Prop} (h : wp_X12_fat x1 F Q) : CtI l E yX12_fat cX12_fat 3 (some .int) rm_X12_fat [.ref (ad E 121), .int x1] F Q := by
  refine ct_of (by decide) (Nat.le_of_ble_eq_true rfl) (fun p e s m below meth c hC => ?_)
  generalize ([.ref (ad E 121), .int x1] : List Value).toArray = args at hC ⊢
  refine v_sub (lv' := [(0, .ref (ad E 121)), (1, .int x1)]) [0, 1] rfl ?_
  unfold wp_X12_fat at h
  refine v_aload_n (pc := 0) hC dX12_fat_0 rfl 0 rfl ?_
  refine v_get (pc := 1) (v := .int (F 121 2)) hC fl_X12_190 kq_121 rfl dX12_fat_1 ?_
  refine v_if_ne (pc := 4) (tgt := 10) hC dX12_fat_4 (by decide) h (fun h => ?_) (fun h => ?_)
  · skip
    refine v_iload_n (pc := 10) hC dX12_fat_10 rfl 1 rfl ?_
    refine v_iconst (pc := 11) (v := 0) hC dX12_fat_11 (by decide) ?_
    refine v_bipush (pc := 12) (v := 9) hC dX12_fat_12 (by decide) ?_
    refine v_cyp (pc := 14) (r_S (rest := []) hC ml_X12_102 ms_X12_within (c_X12_within l E h) ⟨rfl, rfl⟩ ⟨Nat.le_of_ble_eq_true rfl, Nat.le_of_ble_eq_true rfl⟩ rfl rfl (Nat.le_of_ble_eq_true rfl) ⟨Nat.zero_le _, Nat.zero_le _⟩ dX12_fat_14) (fun r1 b2 h => ?_)
    refine v_if_ne (pc := 17) (tgt := 23) hC dX12_fat_17 (by decide) h (fun h => ?_) (fun h => ?_)
    · skip
      refine v_aload_n (pc := 23) hC dX12_fat_23 rfl 0 rfl ?_
      refine v_get (pc := 24) (v := .int (F 121 7)) hC fl_X12_184 kq_121 rfl dX12_fat_24 ?_
      refine v_nmi h (fun n3 h => ?_)
      refine v_istore_n (pc := 27) (lv' := [(2, .int n3), (0, .ref (ad E 121)), (1, .int x1)]) hC dX12_fat_27 rfl (by decide) rfl ?_
      refine v_aload_n (pc := 28) hC dX12_fat_28 rfl 1 rfl ?_
      refine v_iload_n (pc := 29) hC dX12_fat_29 rfl 2 rfl ?_
      refine v_puti (pc := 30) hC fp_X12_184 kq_121 (fs_10_7 E _ _ _) (fn_10_7 E _ _) dX12_fat_30 h (fun F4 h => ?_)
      refine v_iload_n (pc := 33) hC dX12_fat_33 rfl 0 rfl ?_
      exact v_iret (pc := 34) hC dX12_fat_34 h
    · skip
      refine v_bipush (pc := 20) (v := (-102)) hC dX12_fat_20 (by decide) ?_
      exact v_iret (pc := 22) hC dX12_fat_22 h
  · skip
    refine v_bipush (pc := 7) (v := (-103)) hC dX12_fat_7 (by decide) ?_
    exact v_iret (pc := 9) hC dX12_fat_9 h
def rm_X12_bitsAll : Room := { frames := 1, cells := 0, slots := 0, locals := 20 }
def wb_X12_bitsAll_4 (Q : Int32 → Prop) (F : gS) (K4 : Int32 → Int32 → Prop) (x1 : Int32) (x2 : Int32) : Prop :=
  wp_X12_cells F fun r1 =>
  if r1 ≤ x2 then
    (Q x1)
  else
    (vp_in x2 16 ∧
    Nm (x1 + (F 125 x2.toNatClampNeg)) fun n2 =>
    Nm (x2 + 1) fun n3 =>
    K4 n2 n3)
def wp_X12_bitsAll (F : gS) (Q : Int32 → Prop) : Prop :=
  LP2 (wb_X12_bitsAll_4 Q F) 0 0
set_option maxRecDepth 20000 in
set_option maxHeartbeats 4000000 in
theorem jb_X12_bitsAll_4 {p : Program} {l : Launch} {e : Env} {s : State} {m : MethodId} {args : Array Value} {below : List Frame} {meth : Method} {c : Code} {E : gE} (hC : CX p s m args meth c cX12_bitsAll RX12 (some .int) E 3) {Q : Int32 → Prop} {F : gS} {x1 : Int32} {x2 : Int32} {K4 : Int32 → Int32 → Prop} (hK4 : ∀ (x1 : Int32) (x2 : Int32), K4 x1 x2 → VV p l e rm_X12_bitsAll s m args below meth c 0 0 (MQ below (va_Qi (fun r G => G = F ∧ Q r) (gB E) (gA E)) args s 0 0 (gA E)) E 3 F 4 [(0, .ref (ad E 121)), (1, .int x1), (2, .int x2)] []) (h : wb_X12_bitsAll_4 Q F K4 x1 x2) : VV p l e rm_X12_bitsAll s m args below meth c 0 0 (MQ below (va_Qi (fun r G => G = F ∧ Q r) (gB E) (gA E)) args s 0 0 (gA E)) E 3 F 4 [(0, .ref (ad E 121)), (1, .int x1), (2, .int x2)] [] := by
  unfold wb_X12_bitsAll_4 at h
  refine v_iload_n (pc := 4) hC dX12_bitsAll_4 rfl 2 rfl ?_
  refine v_aload_n (pc := 5) hC dX12_bitsAll_5 rfl 0 rfl ?_
  refine v_cip (pc := 6) (r_V (rest := [.int x2]) hC ml_X12_202 mv_X12_cells (c_X12_cells l E h) ⟨rfl, rfl⟩ ⟨Nat.le_of_ble_eq_true rfl, Nat.le_of_ble_eq_true rfl⟩ kq_121 rfl (by decide) rfl rfl (Nat.le_of_ble_eq_true rfl) ⟨Nat.zero_le _, Nat.zero_le _⟩ dX12_bitsAll_6) (fun r1 h => ?_)
  refine v_ic_ge (pc := 9) (tgt := 27) hC dX12_bitsAll_9 (by decide) h (fun h => ?_) (fun h => ?_)
  · skip
    refine v_iload_n (pc := 27) hC dX12_bitsAll_27 rfl 1 rfl ?_
    exact v_iret (pc := 28) hC dX12_bitsAll_28 ⟨rfl, h⟩
  · skip
    refine v_iload_n (pc := 12) hC dX12_bitsAll_12 rfl 1 rfl ?_
    refine v_aload_n (pc := 13) hC dX12_bitsAll_13 rfl 0 rfl ?_
    refine v_get (pc := 14) (v := .ref (ad E 125)) hC fl_X12_20 kq_121 rfl dX12_bitsAll_14 ?_
    refine v_iload_n (pc := 17) hC dX12_bitsAll_17 rfl 2 rfl ?_
    refine v_iald (pc := 18) (n := 16) hC kq_125 (by decide) dX12_bitsAll_18 h (fun h => ?_)
    refine v_iadd (pc := 19) hC dX12_bitsAll_19 ?_
    refine v_nmi h (fun n2 h => ?_)
    refine v_istore_n (pc := 20) (lv' := [(1, .int n2), (0, .ref (ad E 121)), (2, .int x2)]) hC dX12_bitsAll_20 rfl (by decide) rfl ?_
    refine v_iinc (pc := 21) (v := 1) hC (fun z => [(2, .int z), (1, .int n2), (0, .ref (ad E 121))]) dX12_bitsAll_21 2 rfl (by decide) (by decide) (fun _ => rfl) h (fun n3 h => ?_)
    refine v_goto (pc := 24) (tgt := 4) hC dX12_bitsAll_24 (by decide) ?_
    exact v_sub [2, 1, 0] rfl (hK4 _ _ h)
set_option maxRecDepth 20000 in
set_option maxHeartbeats 4000000 in
theorem jl_X12_bitsAll_4 {p : Program} {l : Launch} {e : Env} {s : State} {m : MethodId} {args : Array Value} {below : List Frame} {meth : Method} {c : Code} {E : gE} (hC : CX p s m args meth c cX12_bitsAll RX12 (some .int) E 3) {Q : Int32 → Prop} {F : gS} {x1 : Int32} {x2 : Int32} (h : LP2 (wb_X12_bitsAll_4 Q F) x1 x2) : VV p l e rm_X12_bitsAll s m args below meth c 0 0 (MQ below (va_Qi (fun r G => G = F ∧ Q r) (gB E) (gA E)) args s 0 0 (gA E)) E 3 F 4 [(0, .ref (ad E 121)), (1, .int x1), (2, .int x2)] [] :=
  LP2_go (V := fun (x1 : Int32) (x2 : Int32) => VV p l e rm_X12_bitsAll s m args below meth c 0 0 (MQ below (va_Qi (fun r G => G = F ∧ Q r) (gB E) (gA E)) args s 0 0 (gA E)) E 3 F 4 [(0, .ref (ad E 121)), (1, .int x1), (2, .int x2)] []) (fun K4 hK4 x1 x2 h => jb_X12_bitsAll_4 hC hK4 h) x1 x2 h
set_option maxRecDepth 20000 in
set_option maxHeartbeats 4000000 in
theorem c_X12_bitsAll (l : Launch) (E : gE) {F : gS} {Q : Int32 → Prop} (h : wp_X12_bitsAll F Q) : CtI l E yX12_bitsAll cX12_bitsAll 3 (some .int) rm_X12_bitsAll [.ref (ad E 121)] F (fun r G => G = F ∧ Q r) := by
  refine ct_of (by decide) (Nat.le_of_ble_eq_true rfl) (fun p e s m below meth c hC => ?_)
  generalize ([.ref (ad E 121)] : List Value).toArray = args at hC ⊢
  refine v_sub (lv' := [(0, .ref (ad E 121))]) [0] rfl ?_
  unfold wp_X12_bitsAll at h
  refine v_iconst (pc := 0) (v := 0) hC dX12_bitsAll_0 (by decide) ?_
  refine v_istore_n (pc := 1) (lv' := [(1, .int 0), (0, .ref (ad E 121))]) hC dX12_bitsAll_1 rfl (by decide) rfl ?_
  refine v_iconst (pc := 2) (v := 0) hC dX12_bitsAll_2 (by decide) ?_
  refine v_istore_n (pc := 3) (lv' := [(2, .int 0), (1, .int 0), (0, .ref (ad E 121))]) hC dX12_bitsAll_3 rfl (by decide) rfl ?_
  exact v_sub [2, 1, 0] rfl (jl_X12_bitsAll_4 hC h)
def rm_X12_scrape : Room := { frames := 2, cells := 0, slots := 0, locals := 42 }
def wb_X12_scrape_17 (Q : Int32 → gS → Prop) (x1 : Int32) (K17 : gS → Int32 → Prop) (F : gS) (x2 : Int32) : Prop :=
  if 16 ≤ x2 then
    (Q x1 F)
  else
    (vp_in x2 16 ∧ Nm (upF F 125 x2.toNatClampNeg 0) fun F2 =>
    Nm (x2 + 1) fun n3 =>
    K17 F2 n3)
def wp_X12_scrape (F : gS) (Q : Int32 → gS → Prop) : Prop :=
  if (F 121 2) = 0 then
    (Q (-103) F)
  else
    (wp_X12_bitsAll F fun r1 =>
    LP2 (wb_X12_scrape_17 Q r1) F 0)
set_option maxRecDepth 20000 in
set_option maxHeartbeats 4000000 in
theorem jb_X12_scrape_17 {p : Program} {l : Launch} {e : Env} {s : State} {m : MethodId} {args : Array Value} {below : List Frame} {meth : Method} {c : Code} {E : gE} (hC : CX p s m args meth c cX12_scrape RX12 (some .int) E 3) {Q : Int32 → gS → Prop} {F : gS} {x1 : Int32} {x2 : Int32} {K17 : gS → Int32 → Prop} (hK17 : ∀ (F : gS) (x2 : Int32), K17 F x2 → VV p l e rm_X12_scrape s m args below meth c 0 0 (MQ below (va_Qi Q (gB E) (gA E)) args s 0 0 (gA E)) E 3 F 17 [(0, .ref (ad E 121)), (1, .int x1), (2, .int x2)] []) (h : wb_X12_scrape_17 Q x1 K17 F x2) : VV p l e rm_X12_scrape s m args below meth c 0 0 (MQ below (va_Qi Q (gB E) (gA E)) args s 0 0 (gA E)) E 3 F 17 [(0, .ref (ad E 121)), (1, .int x1), (2, .int x2)] [] := by
  unfold wb_X12_scrape_17 at h
  refine v_iload_n (pc := 17) hC dX12_scrape_17 rfl 2 rfl ?_
  refine v_bipush (pc := 18) (v := 16) hC dX12_scrape_18 (by decide) ?_
  refine v_ic_ge (pc := 20) (tgt := 36) hC dX12_scrape_20 (by decide) h (fun h => ?_) (fun h => ?_)
  · skip
    refine v_iload_n (pc := 36) hC dX12_scrape_36 rfl 1 rfl ?_
    exact v_iret (pc := 37) hC dX12_scrape_37 h
  · skip
    refine v_aload_n (pc := 23) hC dX12_scrape_23 rfl 0 rfl ?_
    refine v_get (pc := 24) (v := .ref (ad E 125)) hC fl_X12_20 kq_121 rfl dX12_scrape_24 ?_
    refine v_iload_n (pc := 27) hC dX12_scrape_27 rfl 2 rfl ?_
    refine v_iconst (pc := 28) (v := 0) hC dX12_scrape_28 (by decide) ?_
    refine v_iast (pc := 29) (n := 16) hC kq_125 (by decide) dX12_scrape_29 h (fun F2 h => ?_)
    refine v_iinc (pc := 30) (v := 1) hC (fun z => [(2, .int z), (0, .ref (ad E 121)), (1, .int x1)]) dX12_scrape_30 2 rfl (by decide) (by decide) (fun _ => rfl) h (fun n3 h => ?_)
    refine v_goto (pc := 33) (tgt := 17) hC dX12_scrape_33 (by decide) ?_
    exact v_sub [1, 2, 0] rfl (hK17 _ _ h)
set_option maxRecDepth 20000 in
set_option maxHeartbeats 4000000 in
theorem jl_X12_scrape_17 {p : Program} {l : Launch} {e : Env} {s : State} {m : MethodId} {args : Array Value} {below : List Frame} {meth : Method} {c : Code} {E : gE} (hC : CX p s m args meth c cX12_scrape RX12 (some .int) E 3) {Q : Int32 → gS → Prop} {F : gS} {x1 : Int32} {x2 : Int32} (h : LP2 (wb_X12_scrape_17 Q x1) F x2) : VV p l e rm_X12_scrape s m args below meth c 0 0 (MQ below (va_Qi Q (gB E) (gA E)) args s 0 0 (gA E)) E 3 F 17 [(0, .ref (ad E 121)), (1, .int x1), (2, .int x2)] [] :=
  LP2_go (V := fun (F : gS) (x2 : Int32) => VV p l e rm_X12_scrape s m args below meth c 0 0 (MQ below (va_Qi Q (gB E) (gA E)) args s 0 0 (gA E)) E 3 F 17 [(0, .ref (ad E 121)), (1, .int x1), (2, .int x2)] []) (fun K17 hK17 F x2 h => jb_X12_scrape_17 hC hK17 h) F x2 h
set_option maxRecDepth 20000 in
set_option maxHeartbeats 4000000 in
theorem c_X12_scrape (l : Launch) (E : gE) {F : gS} {Q : Int32 → gS → Prop} (h : wp_X12_scrape F Q) : CtI l E yX12_scrape cX12_scrape 3 (some .int) rm_X12_scrape [.ref (ad E 121)] F Q := by
  refine ct_of (by decide) (Nat.le_of_ble_eq_true rfl) (fun p e s m below meth c hC => ?_)
  generalize ([.ref (ad E 121)] : List Value).toArray = args at hC ⊢
  refine v_sub (lv' := [(0, .ref (ad E 121))]) [0] rfl ?_
  unfold wp_X12_scrape at h
  refine v_aload_n (pc := 0) hC dX12_scrape_0 rfl 0 rfl ?_
  refine v_get (pc := 1) (v := .int (F 121 2)) hC fl_X12_190 kq_121 rfl dX12_scrape_1 ?_
  refine v_if_ne (pc := 4) (tgt := 10) hC dX12_scrape_4 (by decide) h (fun h => ?_) (fun h => ?_)
  · skip
    refine v_aload_n (pc := 10) hC dX12_scrape_10 rfl 0 rfl ?_
    refine v_cip (pc := 11) (r_V (rest := []) hC ml_X12_280 mv_X12_bitsAll (c_X12_bitsAll l E h) ⟨rfl, rfl⟩ ⟨Nat.le_of_ble_eq_true rfl, Nat.le_of_ble_eq_true rfl⟩ kq_121 rfl (by decide) rfl rfl (Nat.le_of_ble_eq_true rfl) ⟨Nat.zero_le _, Nat.zero_le _⟩ dX12_scrape_11) (fun r1 h => ?_)
    refine v_istore_n (pc := 14) (lv' := [(1, .int r1), (0, .ref (ad E 121))]) hC dX12_scrape_14 rfl (by decide) rfl ?_
    refine v_iconst (pc := 15) (v := 0) hC dX12_scrape_15 (by decide) ?_
    refine v_istore_n (pc := 16) (lv' := [(2, .int 0), (1, .int r1), (0, .ref (ad E 121))]) hC dX12_scrape_16 rfl (by decide) rfl ?_
    exact v_sub [2, 1, 0] rfl (jl_X12_scrape_17 hC h)
  · skip
    refine v_bipush (pc := 7) (v := (-103)) hC dX12_scrape_7 (by decide) ?_
    exact v_iret (pc := 9) hC dX12_scrape_9 h
def rm_X12_triedNow : Room := { frames := 0, cells := 0, slots := 0, locals := 0 }
def wp_X12_triedNow (x1 : Int32) (F : gS) (Q : Int32 → Prop) : Prop :=
  if x1 = 0 then
    (Q (F 121 54))
  else (if x1 = 1 then
    (Q (F 121 55))
  else (if x1 = 2 then
    (Q (F 121 56))
  else (if x1 = 3 then
    (Q (F 121 57))
  else (if x1 = 4 then
    (Q (F 121 58))
  else (if x1 = 5 then
    (Q (F 121 59))
  else (Q (F 121 60)))))))
set_option maxRecDepth 20000 in
set_option maxHeartbeats 4000000 in
theorem c_X12_triedNow (l : Launch) (E : gE) {x1 : Int32} {F : gS} {Q : Int32 → Prop} (h : wp_X12_triedNow x1 F Q) : CtI l E yX12_triedNow cX12_triedNow 2 (some .int) rm_X12_triedNow [.ref (ad E 121), .int x1] F (fun r G => G = F ∧ Q r) := by
  refine ct_of (by decide) (Nat.le_of_ble_eq_true rfl) (fun p e s m below meth c hC => ?_)
  generalize ([.ref (ad E 121), .int x1] : List Value).toArray = args at hC ⊢
  refine v_sub (lv' := [(0, .ref (ad E 121)), (1, .int x1)]) [0, 1] rfl ?_
  unfold wp_X12_triedNow at h
  refine v_iload_n (pc := 0) hC dX12_triedNow_0 rfl 1 rfl ?_
  by_cases c1 : x1 = 0
  · skip
    rw [if_pos c1] at h
    refine v_tin (pc := 1) (tgt := 40) hC dX12_triedNow_1 0 (by rw [c1]; rfl) (by decide) (by decide) rfl (by decide) ?_
    refine v_aload_n (pc := 40) hC dX12_triedNow_40 rfl 0 rfl ?_
    refine v_get (pc := 41) (v := .int (F 121 54)) hC fl_X12_255 kq_121 rfl dX12_triedNow_41 ?_
    exact v_iret (pc := 44) hC dX12_triedNow_44 ⟨rfl, h⟩
  · skip
    rw [if_neg c1] at h
    by_cases c2 : x1 = 1
    · skip
      rw [if_pos c2] at h
      refine v_tin (pc := 1) (tgt := 45) hC dX12_triedNow_1 1 (by rw [c2]; rfl) (by decide) (by decide) rfl (by decide) ?_
      refine v_aload_n (pc := 45) hC dX12_triedNow_45 rfl 0 rfl ?_
      refine v_get (pc := 46) (v := .int (F 121 55)) hC fl_X12_246 kq_121 rfl dX12_triedNow_46 ?_
      exact v_iret (pc := 49) hC dX12_triedNow_49 ⟨rfl, h⟩
    · skip
      rw [if_neg c2] at h
      by_cases c3 : x1 = 2
      · skip
        rw [if_pos c3] at h
        refine v_tin (pc := 1) (tgt := 50) hC dX12_triedNow_1 2 (by rw [c3]; rfl) (by decide) (by decide) rfl (by decide) ?_
        refine v_aload_n (pc := 50) hC dX12_triedNow_50 rfl 0 rfl ?_
        refine v_get (pc := 51) (v := .int (F 121 56)) hC fl_X12_249 kq_121 rfl dX12_triedNow_51 ?_
        exact v_iret (pc := 54) hC dX12_triedNow_54 ⟨rfl, h⟩
      · skip
        rw [if_neg c3] at h
        by_cases c4 : x1 = 3
        · skip
          rw [if_pos c4] at h
          refine v_tin (pc := 1) (tgt := 55) hC dX12_triedNow_1 3 (by rw [c4]; rfl) (by decide) (by decide) rfl (by decide) ?_
          refine v_aload_n (pc := 55) hC dX12_triedNow_55 rfl 0 rfl ?_
          refine v_get (pc := 56) (v := .int (F 121 57)) hC fl_X12_252 kq_121 rfl dX12_triedNow_56 ?_
          exact v_iret (pc := 59) hC dX12_triedNow_59 ⟨rfl, h⟩
        · skip
          rw [if_neg c4] at h
          by_cases c5 : x1 = 4
          · skip
            rw [if_pos c5] at h
            refine v_tin (pc := 1) (tgt := 60) hC dX12_triedNow_1 4 (by rw [c5]; rfl) (by decide) (by decide) rfl (by decide) ?_
            refine v_aload_n (pc := 60) hC dX12_triedNow_60 rfl 0 rfl ?_
            refine v_get (pc := 61) (v := .int (F 121 58)) hC fl_X12_243 kq_121 rfl dX12_triedNow_61 ?_
            exact v_iret (pc := 64) hC dX12_triedNow_64 ⟨rfl, h⟩
          · skip
            rw [if_neg c5] at h
            by_cases c6 : x1 = 5
            · skip
              rw [if_pos c6] at h
              refine v_tin (pc := 1) (tgt := 65) hC dX12_triedNow_1 5 (by rw [c6]; rfl) (by decide) (by decide) rfl (by decide) ?_
              refine v_aload_n (pc := 65) hC dX12_triedNow_65 rfl 0 rfl ?_
              refine v_get (pc := 66) (v := .int (F 121 59)) hC fl_X12_239 kq_121 rfl dX12_triedNow_66 ?_
              exact v_iret (pc := 69) hC dX12_triedNow_69 ⟨rfl, h⟩
            · skip
              rw [if_neg c6] at h
              refine v_tout (pc := 1) (tgt := 70) hC dX12_triedNow_1 (by have := lv_neT c1 (a := 0) rfl; have := lv_neT c2 (a := 1) rfl; have := lv_neT c3 (a := 2) rfl; have := lv_neT c4 (a := 3) rfl; have := lv_neT c5 (a := 4) rfl; have := lv_neT c6 (a := 5) rfl; omega) (by decide) ?_
              refine v_aload_n (pc := 70) hC dX12_triedNow_70 rfl 0 rfl ?_
              refine v_get (pc := 71) (v := .int (F 121 60)) hC fl_X12_261 kq_121 rfl dX12_triedNow_71 ?_
              exact v_iret (pc := 74) hC dX12_triedNow_74 ⟨rfl, h⟩
def rm_X12_bars : Room := { frames := 2, cells := 0, slots := 0, locals := 43 }
def wp_X12_bars (x1 : Int32) (F : gS) (Q : Int32 → Prop) : Prop :=
  wp_X12_isPlan x1 F fun r1 =>
  if r1 = 0 then
    (Q (-101))
  else
    (if (F 121 2) = 0 then
      (Q (-103))
    else
      (Q 0))
set_option maxRecDepth 20000 in
set_option maxHeartbeats 4000000 in
theorem c_X12_bars (l : Launch) (E : gE) {x1 : Int32} {F : gS} {Q : Int32 → Prop} (h : wp_X12_bars x1 F Q) : CtI l E yX12_bars cX12_bars 2 (some .int) rm_X12_bars [.ref (ad E 121), .int x1] F (fun r G => G = F ∧ Q r) := by
  refine ct_of (by decide) (Nat.le_of_ble_eq_true rfl) (fun p e s m below meth c hC => ?_)
  generalize ([.ref (ad E 121), .int x1] : List Value).toArray = args at hC ⊢
  refine v_sub (lv' := [(0, .ref (ad E 121)), (1, .int x1)]) [0, 1] rfl ?_
  unfold wp_X12_bars at h
  refine v_aload_n (pc := 0) hC dX12_bars_0 rfl 0 rfl ?_
  refine v_iload_n (pc := 1) hC dX12_bars_1 rfl 1 rfl ?_
  refine v_cyp (pc := 2) (r_V (rest := []) hC ml_X12_196 mv_X12_isPlan (c_X12_isPlan l E h) ⟨rfl, rfl⟩ ⟨Nat.le_of_ble_eq_true rfl, Nat.le_of_ble_eq_true rfl⟩ kq_121 rfl (by decide) rfl rfl (Nat.le_of_ble_eq_true rfl) ⟨Nat.zero_le _, Nat.zero_le _⟩ dX12_bars_2) (fun r1 b2 h => ?_)
  refine v_if_ne (pc := 5) (tgt := 13) hC dX12_bars_5 (by decide) h (fun h => ?_) (fun h => ?_)
  · skip
    refine v_aload_n (pc := 13) hC dX12_bars_13 rfl 0 rfl ?_
    refine v_get (pc := 14) (v := .int (F 121 2)) hC fl_X12_190 kq_121 rfl dX12_bars_14 ?_
    refine v_if_ne (pc := 17) (tgt := 25) hC dX12_bars_17 (by decide) h (fun h => ?_) (fun h => ?_)
    · skip
      refine v_iconst (pc := 25) (v := 0) hC dX12_bars_25 (by decide) ?_
      exact v_iret (pc := 26) hC dX12_bars_26 ⟨rfl, h⟩
    · skip
      refine v_bipush (pc := 20) (v := (-103)) hC dX12_bars_20 (by decide) ?_
      refine v_goto (pc := 22) (tgt := 26) hC dX12_bars_22 (by decide) ?_
      exact v_iret (pc := 26) hC dX12_bars_26 ⟨rfl, h⟩
  · skip
    refine v_bipush (pc := 8) (v := (-101)) hC dX12_bars_8 (by decide) ?_
    refine v_goto (pc := 10) (tgt := 26) hC dX12_bars_10 (by decide) ?_
    exact v_iret (pc := 26) hC dX12_bars_26 ⟨rfl, h⟩
def rm_X12_fry : Room := { frames := 4, cells := 0, slots := 0, locals := 92 }
def wb_X12_fry_76 (Q : Int32 → gS → Prop) (K76 : gS → Int32 → Prop) (F : gS) (x3 : Int32) : Prop :=
  if 16 ≤ x3 then
    (Nm (upF F 121 15 ((F 121 15) + 1)) fun F9 =>
    Q (F9 121 54) F9)
  else
    (vp_in x3 16 ∧
    vp_in ((16 * (F 121 15)) + x3) 384 ∧ Nm (upF F 133 ((16 * (F 121 15)) + x3).toNatClampNeg (F 143 x3.toNatClampNeg)) fun F10 =>
    Nm (x3 + 1) fun n11 =>
    K76 F10 n11)
def wb_X12_fry_43 (Q : Int32 → gS → Prop) (K43 : gS → Int32 → Prop) (F : gS) (x3 : Int32) : Prop :=
  if 7 ≤ x3 then
    (LP2 (wb_X12_fry_76 Q) F 0)
  else
    (wp_X12_triedNow x3 F fun r6 =>
    vp_in ((7 * (F 121 15)) + x3) 168 ∧ Nm (upF F 132 ((7 * (F 121 15)) + x3).toNatClampNeg r6) fun F7 =>
    Nm (x3 + 1) fun n8 =>
    K43 F7 n8)
def wp_X12_fry (x1 : Int32) (F : gS) (Q : Int32 → gS → Prop) : Prop :=
  wp_X12_bars x1 F fun r1 =>
  if r1 = 0 then
    (if (F 121 15) = 24 then
      (Q (-104) F)
    else
      (wp_X12_loadPan F fun F2 =>
      wp_X12_loadPlan x1 F2 fun F3 =>
      wp_X12_goCake F3 fun F4 =>
      wp_X12_putPan F4 fun F5 =>
      LP2 (wb_X12_fry_43 Q) F5 0))
  else
    (Q r1 F)
set_option maxRecDepth 20000 in
set_option maxHeartbeats 4000000 in
theorem jb_X12_fry_76 {p : Program} {l : Launch} {e : Env} {s : State} {m : MethodId} {args : Array Value} {below : List Frame} {meth : Method} {c : Code} {E : gE} (hC : CX p s m args meth c cX12_fry RX12 (some .int) E 4) {Q : Int32 → gS → Prop} {F : gS} {x3 : Int32} {K76 : gS → Int32 → Prop} (hK76 : ∀ (F : gS) (x3 : Int32), K76 F x3 → VV p l e rm_X12_fry s m args below meth c 0 0 (MQ below (va_Qi Q (gB E) (gA E)) args s 0 0 (gA E)) E 4 F 76 [(0, .ref (ad E 121)), (3, .int x3)] []) (h : wb_X12_fry_76 Q K76 F x3) : VV p l e rm_X12_fry s m args below meth c 0 0 (MQ below (va_Qi Q (gB E) (gA E)) args s 0 0 (gA E)) E 4 F 76 [(0, .ref (ad E 121)), (3, .int x3)] [] := by
  unfold wb_X12_fry_76 at h
  refine v_iload_n (pc := 76) hC dX12_fry_76 rfl 1 rfl ?_
  refine v_bipush (pc := 77) (v := 16) hC dX12_fry_77 (by decide) ?_
  refine v_ic_ge (pc := 79) (tgt := 108) hC dX12_fry_79 (by decide) h (fun h => ?_) (fun h => ?_)
  · skip
    refine v_aload_n (pc := 108) hC dX12_fry_108 rfl 0 rfl ?_
    refine v_dup (pc := 109) hC dX12_fry_109 rfl ?_
    refine v_get (pc := 110) (v := .int (F 121 15)) hC fl_X12_187 kq_121 rfl dX12_fry_110 ?_
    refine v_iconst (pc := 113) (v := 1) hC dX12_fry_113 (by decide) ?_
    refine v_iadd (pc := 114) hC dX12_fry_114 ?_
    refine v_puti (pc := 115) hC fp_X12_187 kq_121 (fs_10_15 E _ _ _) (fn_10_15 E _ _) dX12_fry_115 h (fun F9 h => ?_)
    refine v_aload_n (pc := 118) hC dX12_fry_118 rfl 0 rfl ?_
    refine v_get (pc := 119) (v := .int (F9 121 54)) hC fl_X12_255 kq_121 rfl dX12_fry_119 ?_
    exact v_iret (pc := 122) hC dX12_fry_122 h
  · skip
    refine v_aload_n (pc := 82) hC dX12_fry_82 rfl 0 rfl ?_
    refine v_get (pc := 83) (v := .ref (ad E 133)) hC fl_X12_44 kq_121 rfl dX12_fry_83 ?_
    refine v_bipush (pc := 86) (v := 16) hC dX12_fry_86 (by decide) ?_
    refine v_aload_n (pc := 88) hC dX12_fry_88 rfl 0 rfl ?_
    refine v_get (pc := 89) (v := .int (F 121 15)) hC fl_X12_187 kq_121 rfl dX12_fry_89 ?_
    refine v_imul (pc := 92) hC dX12_fry_92 ?_
    refine v_iload_n (pc := 93) hC dX12_fry_93 rfl 1 rfl ?_
    refine v_iadd (pc := 94) hC dX12_fry_94 ?_
    refine v_aload_n (pc := 95) hC dX12_fry_95 rfl 0 rfl ?_
    refine v_get (pc := 96) (v := .ref (ad E 143)) hC fl_X12_75 kq_121 rfl dX12_fry_96 ?_
    refine v_iload_n (pc := 99) hC dX12_fry_99 rfl 1 rfl ?_
    refine v_iald (pc := 100) (n := 16) hC kq_143 (by decide) dX12_fry_100 h (fun h => ?_)
    refine v_iast (pc := 101) (n := 384) hC kq_133 (by decide) dX12_fry_101 h (fun F10 h => ?_)
    refine v_iinc (pc := 102) (v := 1) hC (fun z => [(3, .int z), (0, .ref (ad E 121))]) dX12_fry_102 1 rfl (by decide) (by decide) (fun _ => rfl) h (fun n11 h => ?_)
    refine v_goto (pc := 105) (tgt := 76) hC dX12_fry_105 (by decide) ?_
    exact v_sub [1, 0] rfl (hK76 _ _ h)
set_option maxRecDepth 20000 in
set_option maxHeartbeats 4000000 in
theorem jl_X12_fry_76 {p : Program} {l : Launch} {e : Env} {s : State} {m : MethodId} {args : Array Value} {below : List Frame} {meth : Method} {c : Code} {E : gE} (hC : CX p s m args meth c cX12_fry RX12 (some .int) E 4) {Q : Int32 → gS → Prop} {F : gS} {x3 : Int32} (h : LP2 (wb_X12_fry_76 Q) F x3) : VV p l e rm_X12_fry s m args below meth c 0 0 (MQ below (va_Qi Q (gB E) (gA E)) args s 0 0 (gA E)) E 4 F 76 [(0, .ref (ad E 121)), (3, .int x3)] [] :=
  LP2_go (V := fun (F : gS) (x3 : Int32) => VV p l e rm_X12_fry s m args below meth c 0 0 (MQ below (va_Qi Q (gB E) (gA E)) args s 0 0 (gA E)) E 4 F 76 [(0, .ref (ad E 121)), (3, .int x3)] []) (fun K76 hK76 F x3 h => jb_X12_fry_76 hC hK76 h) F x3 h
set_option maxRecDepth 20000 in
set_option maxHeartbeats 4000000 in
theorem jb_X12_fry_43 {p : Program} {l : Launch} {e : Env} {s : State} {m : MethodId} {args : Array Value} {below : List Frame} {meth : Method} {c : Code} {E : gE} (hC : CX p s m args meth c cX12_fry RX12 (some .int) E 4) {Q : Int32 → gS → Prop} {F : gS} {x3 : Int32} {K43 : gS → Int32 → Prop} (hK43 : ∀ (F : gS) (x3 : Int32), K43 F x3 → VV p l e rm_X12_fry s m args below meth c 0 0 (MQ below (va_Qi Q (gB E) (gA E)) args s 0 0 (gA E)) E 4 F 43 [(0, .ref (ad E 121)), (3, .int x3)] []) (h : wb_X12_fry_43 Q K43 F x3) : VV p l e rm_X12_fry s m args below meth c 0 0 (MQ below (va_Qi Q (gB E) (gA E)) args s 0 0 (gA E)) E 4 F 43 [(0, .ref (ad E 121)), (3, .int x3)] [] := by
  unfold wb_X12_fry_43 at h
  refine v_iload_n (pc := 43) hC dX12_fry_43 rfl 1 rfl ?_
  refine v_bipush (pc := 44) (v := 7) hC dX12_fry_44 (by decide) ?_
  refine v_ic_ge (pc := 46) (tgt := 74) hC dX12_fry_46 (by decide) h (fun h => ?_) (fun h => ?_)
  · skip
    refine v_iconst (pc := 74) (v := 0) hC dX12_fry_74 (by decide) ?_
    refine v_istore_n (pc := 75) (lv' := [(3, .int 0), (0, .ref (ad E 121))]) hC dX12_fry_75 rfl (by decide) rfl ?_
    exact v_sub [1, 0] rfl (jl_X12_fry_76 hC h)
  · skip
    refine v_aload_n (pc := 49) hC dX12_fry_49 rfl 0 rfl ?_
    refine v_get (pc := 50) (v := .ref (ad E 132)) hC fl_X12_41 kq_121 rfl dX12_fry_50 ?_
    refine v_bipush (pc := 53) (v := 7) hC dX12_fry_53 (by decide) ?_
    refine v_aload_n (pc := 55) hC dX12_fry_55 rfl 0 rfl ?_
    refine v_get (pc := 56) (v := .int (F 121 15)) hC fl_X12_187 kq_121 rfl dX12_fry_56 ?_
    refine v_imul (pc := 59) hC dX12_fry_59 ?_
    refine v_iload_n (pc := 60) hC dX12_fry_60 rfl 1 rfl ?_
    refine v_iadd (pc := 61) hC dX12_fry_61 ?_
    refine v_aload_n (pc := 62) hC dX12_fry_62 rfl 0 rfl ?_
    refine v_iload_n (pc := 63) hC dX12_fry_63 rfl 1 rfl ?_
    refine v_cip (pc := 64) (r_V (rest := [.int ((7 * (F 121 15)) + x3), .ref (ad E 132)]) hC ml_X12_292 mv_X12_triedNow (c_X12_triedNow l E h) ⟨rfl, rfl⟩ ⟨Nat.le_of_ble_eq_true rfl, Nat.le_of_ble_eq_true rfl⟩ kq_121 rfl (by decide) rfl rfl (Nat.le_of_ble_eq_true rfl) ⟨Nat.zero_le _, Nat.zero_le _⟩ dX12_fry_64) (fun r6 h => ?_)
    refine v_iast (pc := 67) (n := 168) hC kq_132 (by decide) dX12_fry_67 h (fun F7 h => ?_)
    refine v_iinc (pc := 68) (v := 1) hC (fun z => [(3, .int z), (0, .ref (ad E 121))]) dX12_fry_68 1 rfl (by decide) (by decide) (fun _ => rfl) h (fun n8 h => ?_)
    refine v_goto (pc := 71) (tgt := 43) hC dX12_fry_71 (by decide) ?_
    exact v_sub [1, 0] rfl (hK43 _ _ h)
set_option maxRecDepth 20000 in
set_option maxHeartbeats 4000000 in
theorem jl_X12_fry_43 {p : Program} {l : Launch} {e : Env} {s : State} {m : MethodId} {args : Array Value} {below : List Frame} {meth : Method} {c : Code} {E : gE} (hC : CX p s m args meth c cX12_fry RX12 (some .int) E 4) {Q : Int32 → gS → Prop} {F : gS} {x3 : Int32} (h : LP2 (wb_X12_fry_43 Q) F x3) : VV p l e rm_X12_fry s m args below meth c 0 0 (MQ below (va_Qi Q (gB E) (gA E)) args s 0 0 (gA E)) E 4 F 43 [(0, .ref (ad E 121)), (3, .int x3)] [] :=
  LP2_go (V := fun (F : gS) (x3 : Int32) => VV p l e rm_X12_fry s m args below meth c 0 0 (MQ below (va_Qi Q (gB E) (gA E)) args s 0 0 (gA E)) E 4 F 43 [(0, .ref (ad E 121)), (3, .int x3)] []) (fun K43 hK43 F x3 h => jb_X12_fry_43 hC hK43 h) F x3 h
set_option maxRecDepth 20000 in
set_option maxHeartbeats 4000000 in
theorem c_X12_fry (l : Launch) (E : gE) {x1 : Int32} {F : gS} {Q : Int32 → gS → Prop} (h : wp_X12_fry x1 F Q) : CtI l E yX12_fry cX12_fry 4 (some .int) rm_X12_fry [.ref (ad E 121), .int x1] F Q := by
  refine ct_of (by decide) (Nat.le_of_ble_eq_true rfl) (fun p e s m below meth c hC => ?_)
  generalize ([.ref (ad E 121), .int x1] : List Value).toArray = args at hC ⊢
  refine v_sub (lv' := [(0, .ref (ad E 121)), (1, .int x1)]) [0, 1] rfl ?_
  unfold wp_X12_fry at h
  refine v_aload_n (pc := 0) hC dX12_fry_0 rfl 0 rfl ?_
  refine v_iload_n (pc := 1) hC dX12_fry_1 rfl 1 rfl ?_
  refine v_cip (pc := 2) (r_V (rest := []) hC ml_X12_283 mv_X12_bars (c_X12_bars l E h) ⟨rfl, rfl⟩ ⟨Nat.le_of_ble_eq_true rfl, Nat.le_of_ble_eq_true rfl⟩ kq_121 rfl (by decide) rfl rfl (Nat.le_of_ble_eq_true rfl) ⟨Nat.zero_le _, Nat.zero_le _⟩ dX12_fry_2) (fun r1 h => ?_)
  refine v_istore_n (pc := 5) (lv' := [(2, .int r1), (0, .ref (ad E 121)), (1, .int x1)]) hC dX12_fry_5 rfl (by decide) rfl ?_
  refine v_iload_n (pc := 6) hC dX12_fry_6 rfl 0 rfl ?_
  refine v_if_eq (pc := 7) (tgt := 12) hC dX12_fry_7 (by decide) h (fun h => ?_) (fun h => ?_)
  · skip
    refine v_aload_n (pc := 12) hC dX12_fry_12 rfl 1 rfl ?_
    refine v_get (pc := 13) (v := .int (F 121 15)) hC fl_X12_187 kq_121 rfl dX12_fry_13 ?_
    refine v_bipush (pc := 16) (v := 24) hC dX12_fry_16 (by decide) ?_
    refine v_ic_ne (pc := 18) (tgt := 24) hC dX12_fry_18 (by decide) h (fun h => ?_) (fun h => ?_)
    · skip
      refine v_aload_n (pc := 24) hC dX12_fry_24 rfl 1 rfl ?_
      refine v_cv (pc := 25) (r_V (rest := []) hC ml_X12_274 mv_X12_loadPan (c_X12_loadPan l E h) ⟨rfl, rfl⟩ ⟨Nat.le_of_ble_eq_true rfl, Nat.le_of_ble_eq_true rfl⟩ kq_121 rfl (by decide) rfl rfl (Nat.le_of_ble_eq_true rfl) ⟨Nat.zero_le _, Nat.zero_le _⟩ dX12_fry_25) (fun F2 h => ?_)
      refine v_aload_n (pc := 28) hC dX12_fry_28 rfl 1 rfl ?_
      refine v_iload_n (pc := 29) hC dX12_fry_29 rfl 2 rfl ?_
      refine v_cv (pc := 30) (r_V (rest := []) hC ml_X12_286 mv_X12_loadPlan (c_X12_loadPlan l E h) ⟨rfl, rfl⟩ ⟨Nat.le_of_ble_eq_true rfl, Nat.le_of_ble_eq_true rfl⟩ kq_121 rfl (by decide) rfl rfl (Nat.le_of_ble_eq_true rfl) ⟨Nat.zero_le _, Nat.zero_le _⟩ dX12_fry_30) (fun F3 h => ?_)
      refine v_aload_n (pc := 33) hC dX12_fry_33 rfl 1 rfl ?_
      refine v_cv (pc := 34) (r_V (rest := []) hC ml_X12_289 mv_X12_goCake (c_X12_goCake l E h) ⟨rfl, rfl⟩ ⟨Nat.le_of_ble_eq_true rfl, Nat.le_of_ble_eq_true rfl⟩ kq_121 rfl (by decide) rfl rfl (Nat.le_of_ble_eq_true rfl) ⟨Nat.zero_le _, Nat.zero_le _⟩ dX12_fry_34) (fun F4 h => ?_)
      refine v_aload_n (pc := 37) hC dX12_fry_37 rfl 1 rfl ?_
      refine v_cv (pc := 38) (r_V (rest := []) hC ml_X12_277 mv_X12_putPan (c_X12_putPan l E h) ⟨rfl, rfl⟩ ⟨Nat.le_of_ble_eq_true rfl, Nat.le_of_ble_eq_true rfl⟩ kq_121 rfl (by decide) rfl rfl (Nat.le_of_ble_eq_true rfl) ⟨Nat.zero_le _, Nat.zero_le _⟩ dX12_fry_38) (fun F5 h => ?_)
      refine v_iconst (pc := 41) (v := 0) hC dX12_fry_41 (by decide) ?_
      refine v_istore_n (pc := 42) (lv' := [(3, .int 0), (2, .int r1), (0, .ref (ad E 121)), (1, .int x1)]) hC dX12_fry_42 rfl (by decide) rfl ?_
      exact v_sub [2, 0] rfl (jl_X12_fry_43 hC h)
    · skip
      refine v_bipush (pc := 21) (v := (-104)) hC dX12_fry_21 (by decide) ?_
      exact v_iret (pc := 23) hC dX12_fry_23 h
  · skip
    refine v_iload_n (pc := 10) hC dX12_fry_10 rfl 0 rfl ?_
    exact v_iret (pc := 11) hC dX12_fry_11 h
def rm_X12_isCake : Room := { frames := 1, cells := 0, slots := 0, locals := 22 }
def wp_X12_isCake (x1 : Int32) (F : gS) (Q : Int32 → Prop) : Prop :=
  wp_X12_within x1 0 ((F 121 15) - 1) F fun r1 =>
  Q r1
set_option maxRecDepth 20000 in
set_option maxHeartbeats 4000000 in
theorem c_X12_isCake (l : Launch) (E : gE) {x1 : Int32} {F : gS} {Q : Int32 → Prop} (h : wp_X12_isCake x1 F Q) : CtI l E yX12_isCake cX12_isCake 2 (some .boolean) rm_X12_isCake [.ref (ad E 121), .int x1] F (fun r G => (r = 0 ∨ r = 1) ∧ G = F ∧ Q r) := by
  refine ct_of (by decide) (Nat.le_of_ble_eq_true rfl) (fun p e s m below meth c hC => ?_)
  generalize ([.ref (ad E 121), .int x1] : List Value).toArray = args at hC ⊢
  refine v_sub (lv' := [(0, .ref (ad E 121)), (1, .int x1)]) [0, 1] rfl ?_
  unfold wp_X12_isCake at h
  refine v_iload_n (pc := 0) hC dX12_isCake_0 rfl 1 rfl ?_
  refine v_iconst (pc := 1) (v := 0) hC dX12_isCake_1 (by decide) ?_
  refine v_aload_n (pc := 2) hC dX12_isCake_2 rfl 0 rfl ?_
  refine v_get (pc := 3) (v := .int (F 121 15)) hC fl_X12_187 kq_121 rfl dX12_isCake_3 ?_
  refine v_iconst (pc := 6) (v := 1) hC dX12_isCake_6 (by decide) ?_
  refine v_isub (pc := 7) hC dX12_isCake_7 ?_
  refine v_cyp (pc := 8) (r_S (rest := []) hC ml_X12_102 ms_X12_within (c_X12_within l E h) ⟨rfl, rfl⟩ ⟨Nat.le_of_ble_eq_true rfl, Nat.le_of_ble_eq_true rfl⟩ rfl rfl (Nat.le_of_ble_eq_true rfl) ⟨Nat.zero_le _, Nat.zero_le _⟩ dX12_isCake_8) (fun r1 b2 h => ?_)
  exact v_zret (pc := 11) hC dX12_isCake_11 b2 ⟨b2, rfl, h⟩
def rm_X12_cake : Room := { frames := 2, cells := 0, slots := 0, locals := 43 }
def wp_X12_cake (x1 : Int32) (x2 : Int32) (F : gS) (Q : Int32 → Prop) : Prop :=
  wp_X12_isCake x1 F fun r1 =>
  if r1 = 0 then
    (Q (-101))
  else
    (wp_X12_within x2 0 6 F fun r3 =>
    if r3 = 0 then
      (Q (-102))
    else
      (vp_in ((7 * x1) + x2) 168 ∧
      Q (F 132 ((7 * x1) + x2).toNatClampNeg)))
set_option maxRecDepth 20000 in
set_option maxHeartbeats 4000000 in
theorem c_X12_cake (l : Launch) (E : gE) {x1 : Int32} {x2 : Int32} {F : gS} {Q : Int32 → Prop} (h : wp_X12_cake x1 x2 F Q) : CtI l E yX12_cake cX12_cake 3 (some .int) rm_X12_cake [.ref (ad E 121), .int x1, .int x2] F (fun r G => G = F ∧ Q r) := by
  refine ct_of (by decide) (Nat.le_of_ble_eq_true rfl) (fun p e s m below meth c hC => ?_)
  generalize ([.ref (ad E 121), .int x1, .int x2] : List Value).toArray = args at hC ⊢
  refine v_sub (lv' := [(0, .ref (ad E 121)), (1, .int x1), (2, .int x2)]) [0, 1, 2] rfl ?_
  unfold wp_X12_cake at h
  refine v_aload_n (pc := 0) hC dX12_cake_0 rfl 0 rfl ?_
  refine v_iload_n (pc := 1) hC dX12_cake_1 rfl 1 rfl ?_
  refine v_cyp (pc := 2) (r_V (rest := []) hC ml_X12_295 mv_X12_isCake (c_X12_isCake l E h) ⟨rfl, rfl⟩ ⟨Nat.le_of_ble_eq_true rfl, Nat.le_of_ble_eq_true rfl⟩ kq_121 rfl (by decide) rfl rfl (Nat.le_of_ble_eq_true rfl) ⟨Nat.zero_le _, Nat.zero_le _⟩ dX12_cake_2) (fun r1 b2 h => ?_)
  refine v_if_ne (pc := 5) (tgt := 13) hC dX12_cake_5 (by decide) h (fun h => ?_) (fun h => ?_)
  · skip
    refine v_iload_n (pc := 13) hC dX12_cake_13 rfl 2 rfl ?_
    refine v_iconst (pc := 14) (v := 0) hC dX12_cake_14 (by decide) ?_
    refine v_bipush (pc := 15) (v := 6) hC dX12_cake_15 (by decide) ?_
    refine v_cyp (pc := 17) (r_S (rest := []) hC ml_X12_102 ms_X12_within (c_X12_within l E h) ⟨rfl, rfl⟩ ⟨Nat.le_of_ble_eq_true rfl, Nat.le_of_ble_eq_true rfl⟩ rfl rfl (Nat.le_of_ble_eq_true rfl) ⟨Nat.zero_le _, Nat.zero_le _⟩ dX12_cake_17) (fun r3 b4 h => ?_)
    refine v_if_eq (pc := 20) (tgt := 37) hC dX12_cake_20 (by decide) h (fun h => ?_) (fun h => ?_)
    · skip
      refine v_bipush (pc := 37) (v := (-102)) hC dX12_cake_37 (by decide) ?_
      exact v_iret (pc := 39) hC dX12_cake_39 ⟨rfl, h⟩
    · skip
      refine v_aload_n (pc := 23) hC dX12_cake_23 rfl 0 rfl ?_
      refine v_get (pc := 24) (v := .ref (ad E 132)) hC fl_X12_41 kq_121 rfl dX12_cake_24 ?_
      refine v_bipush (pc := 27) (v := 7) hC dX12_cake_27 (by decide) ?_
      refine v_iload_n (pc := 29) hC dX12_cake_29 rfl 1 rfl ?_
      refine v_imul (pc := 30) hC dX12_cake_30 ?_
      refine v_iload_n (pc := 31) hC dX12_cake_31 rfl 2 rfl ?_
      refine v_iadd (pc := 32) hC dX12_cake_32 ?_
      refine v_iald (pc := 33) (n := 168) hC kq_132 (by decide) dX12_cake_33 h (fun h => ?_)
      refine v_goto (pc := 34) (tgt := 39) hC dX12_cake_34 (by decide) ?_
      exact v_iret (pc := 39) hC dX12_cake_39 ⟨rfl, h⟩
  · skip
    refine v_bipush (pc := 8) (v := (-101)) hC dX12_cake_8 (by decide) ?_
    refine v_goto (pc := 10) (tgt := 39) hC dX12_cake_10 (by decide) ?_
    exact v_iret (pc := 39) hC dX12_cake_39 ⟨rfl, h⟩
def rm_X12_as : Room := { frames := 2, cells := 0, slots := 0, locals := 43 }
def wp_X12_as_52 (Q : Int32 → Prop) (F : gS) (x1 : Int32) (x2 : Int32) (x3 : Int32) : Prop :=
  if x2 = 4 then
    (if x3 = 5 then
      (Q x1)
    else
      (Q (-1)))
  else
    (Q (-1))
def wp_X12_as (x1 : Int32) (x2 : Int32) (F : gS) (Q : Int32 → Prop) : Prop :=
  wp_X12_isCake x1 F fun r1 =>
  if r1 = 0 then
    (Q (-101))
  else
    (wp_X12_within x2 0 5 F fun r3 =>
    if r3 = 0 then
      (Q (-102))
    else
      (vp_in (7 * x1) 168 ∧
      Nm (F 132 (7 * x1).toNatClampNeg) fun n5 =>
      if x2 = 0 then
        (Q x1)
      else
        (if n5 = x2 then
          (Q x1)
        else
          (if x2 = 2 then
            (if n5 = 3 then
              (Q x1)
            else
              (wp_X12_as_52 Q F x1 x2 n5))
          else
            (wp_X12_as_52 Q F x1 x2 n5)))))
set_option maxRecDepth 20000 in
set_option maxHeartbeats 4000000 in
theorem j_X12_as_52 {p : Program} {l : Launch} {e : Env} {s : State} {m : MethodId} {args : Array Value} {below : List Frame} {meth : Method} {c : Code} {E : gE} (hC : CX p s m args meth c cX12_as RX12 (some .int) E 4) {Q : Int32 → Prop} {F : gS} {x1 : Int32} {x2 : Int32} {x3 : Int32} (h : wp_X12_as_52 Q F x1 x2 x3) : VV p l e rm_X12_as s m args below meth c 0 0 (MQ below (va_Qi (fun r G => G = F ∧ Q r) (gB E) (gA E)) args s 0 0 (gA E)) E 4 F 52 [(1, .int x1), (2, .int x2), (3, .int x3)] [] := by
  unfold wp_X12_as_52 at h
  refine v_iload_n (pc := 52) hC dX12_as_52 rfl 1 rfl ?_
  refine v_iconst (pc := 53) (v := 4) hC dX12_as_53 (by decide) ?_
  refine v_ic_ne (pc := 54) (tgt := 66) hC dX12_as_54 (by decide) h (fun h => ?_) (fun h => ?_)
  · skip
    refine v_iconst (pc := 66) (v := (-1)) hC dX12_as_66 (by decide) ?_
    exact v_iret (pc := 67) hC dX12_as_67 ⟨rfl, h⟩
  · skip
    refine v_iload_n (pc := 57) hC dX12_as_57 rfl 2 rfl ?_
    refine v_iconst (pc := 58) (v := 5) hC dX12_as_58 (by decide) ?_
    refine v_ic_ne (pc := 59) (tgt := 66) hC dX12_as_59 (by decide) h (fun h => ?_) (fun h => ?_)
    · skip
      refine v_iconst (pc := 66) (v := (-1)) hC dX12_as_66 (by decide) ?_
      exact v_iret (pc := 67) hC dX12_as_67 ⟨rfl, h⟩
    · skip
      refine v_iload_n (pc := 62) hC dX12_as_62 rfl 0 rfl ?_
      refine v_goto (pc := 63) (tgt := 67) hC dX12_as_63 (by decide) ?_
      exact v_iret (pc := 67) hC dX12_as_67 ⟨rfl, h⟩
set_option maxRecDepth 20000 in
set_option maxHeartbeats 4000000 in
theorem c_X12_as (l : Launch) (E : gE) {x1 : Int32} {x2 : Int32} {F : gS} {Q : Int32 → Prop} (h : wp_X12_as x1 x2 F Q) : CtI l E yX12_as cX12_as 4 (some .int) rm_X12_as [.ref (ad E 121), .int x1, .int x2] F (fun r G => G = F ∧ Q r) := by
  refine ct_of (by decide) (Nat.le_of_ble_eq_true rfl) (fun p e s m below meth c hC => ?_)
  generalize ([.ref (ad E 121), .int x1, .int x2] : List Value).toArray = args at hC ⊢
  refine v_sub (lv' := [(0, .ref (ad E 121)), (1, .int x1), (2, .int x2)]) [0, 1, 2] rfl ?_
  unfold wp_X12_as at h
  refine v_aload_n (pc := 0) hC dX12_as_0 rfl 0 rfl ?_
  refine v_iload_n (pc := 1) hC dX12_as_1 rfl 1 rfl ?_
  refine v_cyp (pc := 2) (r_V (rest := []) hC ml_X12_295 mv_X12_isCake (c_X12_isCake l E h) ⟨rfl, rfl⟩ ⟨Nat.le_of_ble_eq_true rfl, Nat.le_of_ble_eq_true rfl⟩ kq_121 rfl (by decide) rfl rfl (Nat.le_of_ble_eq_true rfl) ⟨Nat.zero_le _, Nat.zero_le _⟩ dX12_as_2) (fun r1 b2 h => ?_)
  refine v_if_ne (pc := 5) (tgt := 11) hC dX12_as_5 (by decide) h (fun h => ?_) (fun h => ?_)
  · skip
    refine v_iload_n (pc := 11) hC dX12_as_11 rfl 2 rfl ?_
    refine v_iconst (pc := 12) (v := 0) hC dX12_as_12 (by decide) ?_
    refine v_iconst (pc := 13) (v := 5) hC dX12_as_13 (by decide) ?_
    refine v_cyp (pc := 14) (r_S (rest := []) hC ml_X12_102 ms_X12_within (c_X12_within l E h) ⟨rfl, rfl⟩ ⟨Nat.le_of_ble_eq_true rfl, Nat.le_of_ble_eq_true rfl⟩ rfl rfl (Nat.le_of_ble_eq_true rfl) ⟨Nat.zero_le _, Nat.zero_le _⟩ dX12_as_14) (fun r3 b4 h => ?_)
    refine v_if_ne (pc := 17) (tgt := 23) hC dX12_as_17 (by decide) h (fun h => ?_) (fun h => ?_)
    · skip
      refine v_aload_n (pc := 23) hC dX12_as_23 rfl 0 rfl ?_
      refine v_get (pc := 24) (v := .ref (ad E 132)) hC fl_X12_41 kq_121 rfl dX12_as_24 ?_
      refine v_bipush (pc := 27) (v := 7) hC dX12_as_27 (by decide) ?_
      refine v_iload_n (pc := 29) hC dX12_as_29 rfl 1 rfl ?_
      refine v_imul (pc := 30) hC dX12_as_30 ?_
      refine v_iald (pc := 31) (n := 168) hC kq_132 (by decide) dX12_as_31 h (fun h => ?_)
      refine v_nmi h (fun n5 h => ?_)
      refine v_istore_n (pc := 32) (lv' := [(3, .int n5), (0, .ref (ad E 121)), (1, .int x1), (2, .int x2)]) hC dX12_as_32 rfl (by decide) rfl ?_
      refine v_iload_n (pc := 33) hC dX12_as_33 rfl 3 rfl ?_
      refine v_if_eq (pc := 34) (tgt := 62) hC dX12_as_34 (by decide) h (fun h => ?_) (fun h => ?_)
      · skip
        refine v_iload_n (pc := 62) hC dX12_as_62 rfl 2 rfl ?_
        refine v_goto (pc := 63) (tgt := 67) hC dX12_as_63 (by decide) ?_
        exact v_iret (pc := 67) hC dX12_as_67 ⟨rfl, h⟩
      · skip
        refine v_iload_n (pc := 37) hC dX12_as_37 rfl 0 rfl ?_
        refine v_iload_n (pc := 38) hC dX12_as_38 rfl 3 rfl ?_
        refine v_ic_eq (pc := 39) (tgt := 62) hC dX12_as_39 (by decide) h (fun h => ?_) (fun h => ?_)
        · skip
          refine v_iload_n (pc := 62) hC dX12_as_62 rfl 2 rfl ?_
          refine v_goto (pc := 63) (tgt := 67) hC dX12_as_63 (by decide) ?_
          exact v_iret (pc := 67) hC dX12_as_67 ⟨rfl, h⟩
        · skip
          refine v_iload_n (pc := 42) hC dX12_as_42 rfl 3 rfl ?_
          refine v_iconst (pc := 43) (v := 2) hC dX12_as_43 (by decide) ?_
          refine v_ic_ne (pc := 44) (tgt := 52) hC dX12_as_44 (by decide) h (fun h => ?_) (fun h => ?_)
          · skip
            exact v_sub [2, 3, 0] rfl (j_X12_as_52 hC h)
          · skip
            refine v_iload_n (pc := 47) hC dX12_as_47 rfl 0 rfl ?_
            refine v_iconst (pc := 48) (v := 3) hC dX12_as_48 (by decide) ?_
            refine v_ic_eq (pc := 49) (tgt := 62) hC dX12_as_49 (by decide) h (fun h => ?_) (fun h => ?_)
            · skip
              refine v_iload_n (pc := 62) hC dX12_as_62 rfl 2 rfl ?_
              refine v_goto (pc := 63) (tgt := 67) hC dX12_as_63 (by decide) ?_
              exact v_iret (pc := 67) hC dX12_as_67 ⟨rfl, h⟩
            · skip
              exact v_sub [2, 3, 0] rfl (j_X12_as_52 hC h)
    · skip
      refine v_bipush (pc := 20) (v := (-102)) hC dX12_as_20 (by decide) ?_
      exact v_iret (pc := 22) hC dX12_as_22 ⟨rfl, h⟩
  · skip
    refine v_bipush (pc := 8) (v := (-101)) hC dX12_as_8 (by decide) ?_
    exact v_iret (pc := 10) hC dX12_as_10 ⟨rfl, h⟩
def rm_X12_thick : Room := { frames := 2, cells := 0, slots := 0, locals := 43 }
def wp_X12_thick (x1 : Int32) (x2 : Int32) (F : gS) (Q : Int32 → Prop) : Prop :=
  wp_X12_isCake x1 F fun r1 =>
  if r1 = 0 then
    (Q (-101))
  else
    (wp_X12_isCell x2 F fun r3 =>
    if r3 = 0 then
      (Q (-101))
    else
      (vp_in ((16 * x1) + x2) 384 ∧
      Q (F 133 ((16 * x1) + x2).toNatClampNeg)))
set_option maxRecDepth 20000 in
set_option maxHeartbeats 4000000 in
theorem c_X12_thick (l : Launch) (E : gE) {x1 : Int32} {x2 : Int32} {F : gS} {Q : Int32 → Prop} (h : wp_X12_thick x1 x2 F Q) : CtI l E yX12_thick cX12_thick 3 (some .int) rm_X12_thick [.ref (ad E 121), .int x1, .int x2] F (fun r G => G = F ∧ Q r) := by
  refine ct_of (by decide) (Nat.le_of_ble_eq_true rfl) (fun p e s m below meth c hC => ?_)
  generalize ([.ref (ad E 121), .int x1, .int x2] : List Value).toArray = args at hC ⊢
  refine v_sub (lv' := [(0, .ref (ad E 121)), (1, .int x1), (2, .int x2)]) [0, 1, 2] rfl ?_
  unfold wp_X12_thick at h
  refine v_aload_n (pc := 0) hC dX12_thick_0 rfl 0 rfl ?_
  refine v_iload_n (pc := 1) hC dX12_thick_1 rfl 1 rfl ?_
  refine v_cyp (pc := 2) (r_V (rest := []) hC ml_X12_295 mv_X12_isCake (c_X12_isCake l E h) ⟨rfl, rfl⟩ ⟨Nat.le_of_ble_eq_true rfl, Nat.le_of_ble_eq_true rfl⟩ kq_121 rfl (by decide) rfl rfl (Nat.le_of_ble_eq_true rfl) ⟨Nat.zero_le _, Nat.zero_le _⟩ dX12_thick_2) (fun r1 b2 h => ?_)
  refine v_if_eq (pc := 5) (tgt := 30) hC dX12_thick_5 (by decide) h (fun h => ?_) (fun h => ?_)
  · skip
    refine v_bipush (pc := 30) (v := (-101)) hC dX12_thick_30 (by decide) ?_
    exact v_iret (pc := 32) hC dX12_thick_32 ⟨rfl, h⟩
  · skip
    refine v_aload_n (pc := 8) hC dX12_thick_8 rfl 0 rfl ?_
    refine v_iload_n (pc := 9) hC dX12_thick_9 rfl 2 rfl ?_
    refine v_cyp (pc := 10) (r_V (rest := []) hC ml_X12_206 mv_X12_isCell (c_X12_isCell l E h) ⟨rfl, rfl⟩ ⟨Nat.le_of_ble_eq_true rfl, Nat.le_of_ble_eq_true rfl⟩ kq_121 rfl (by decide) rfl rfl (Nat.le_of_ble_eq_true rfl) ⟨Nat.zero_le _, Nat.zero_le _⟩ dX12_thick_10) (fun r3 b4 h => ?_)
    refine v_if_eq (pc := 13) (tgt := 30) hC dX12_thick_13 (by decide) h (fun h => ?_) (fun h => ?_)
    · skip
      refine v_bipush (pc := 30) (v := (-101)) hC dX12_thick_30 (by decide) ?_
      exact v_iret (pc := 32) hC dX12_thick_32 ⟨rfl, h⟩
    · skip
      refine v_aload_n (pc := 16) hC dX12_thick_16 rfl 0 rfl ?_
      refine v_get (pc := 17) (v := .ref (ad E 133)) hC fl_X12_44 kq_121 rfl dX12_thick_17 ?_
      refine v_bipush (pc := 20) (v := 16) hC dX12_thick_20 (by decide) ?_
      refine v_iload_n (pc := 22) hC dX12_thick_22 rfl 1 rfl ?_
      refine v_imul (pc := 23) hC dX12_thick_23 ?_
      refine v_iload_n (pc := 24) hC dX12_thick_24 rfl 2 rfl ?_
      refine v_iadd (pc := 25) hC dX12_thick_25 ?_
      refine v_iald (pc := 26) (n := 384) hC kq_133 (by decide) dX12_thick_26 h (fun h => ?_)
      refine v_goto (pc := 27) (tgt := 32) hC dX12_thick_27 (by decide) ?_
      exact v_iret (pc := 32) hC dX12_thick_32 ⟨rfl, h⟩
def rm_X12_layNext : Room := { frames := 4, cells := 0, slots := 0, locals := 92 }
def wp_X12_layNext (x1 : Int32) (F : gS) (Q : gS → Prop) : Prop :=
  wp_X12_loadPan F fun F1 =>
  wp_X12_loadPlan x1 F1 fun F2 =>
  wp_X12_goCake F2 fun F3 =>
  Q F3
set_option maxRecDepth 20000 in
set_option maxHeartbeats 4000000 in
theorem c_X12_layNext (l : Launch) (E : gE) {x1 : Int32} {F : gS} {Q : gS → Prop} (h : wp_X12_layNext x1 F Q) : CtV l E yX12_layNext cX12_layNext 2 none rm_X12_layNext [.ref (ad E 121), .int x1] F Q := by
  refine ct_of (by decide) (Nat.le_of_ble_eq_true rfl) (fun p e s m below meth c hC => ?_)
  generalize ([.ref (ad E 121), .int x1] : List Value).toArray = args at hC ⊢
  refine v_sub (lv' := [(0, .ref (ad E 121)), (1, .int x1)]) [0, 1] rfl ?_
  unfold wp_X12_layNext at h
  refine v_aload_n (pc := 0) hC dX12_layNext_0 rfl 0 rfl ?_
  refine v_cv (pc := 1) (r_V (rest := []) hC ml_X12_274 mv_X12_loadPan (c_X12_loadPan l E h) ⟨rfl, rfl⟩ ⟨Nat.le_of_ble_eq_true rfl, Nat.le_of_ble_eq_true rfl⟩ kq_121 rfl (by decide) rfl rfl (Nat.le_of_ble_eq_true rfl) ⟨Nat.zero_le _, Nat.zero_le _⟩ dX12_layNext_1) (fun F1 h => ?_)
  refine v_aload_n (pc := 4) hC dX12_layNext_4 rfl 0 rfl ?_
  refine v_iload_n (pc := 5) hC dX12_layNext_5 rfl 1 rfl ?_
  refine v_cv (pc := 6) (r_V (rest := []) hC ml_X12_286 mv_X12_loadPlan (c_X12_loadPlan l E h) ⟨rfl, rfl⟩ ⟨Nat.le_of_ble_eq_true rfl, Nat.le_of_ble_eq_true rfl⟩ kq_121 rfl (by decide) rfl rfl (Nat.le_of_ble_eq_true rfl) ⟨Nat.zero_le _, Nat.zero_le _⟩ dX12_layNext_6) (fun F2 h => ?_)
  refine v_aload_n (pc := 9) hC dX12_layNext_9 rfl 0 rfl ?_
  refine v_cv (pc := 10) (r_V (rest := []) hC ml_X12_289 mv_X12_goCake (c_X12_goCake l E h) ⟨rfl, rfl⟩ ⟨Nat.le_of_ble_eq_true rfl, Nat.le_of_ble_eq_true rfl⟩ kq_121 rfl (by decide) rfl rfl (Nat.le_of_ble_eq_true rfl) ⟨Nat.zero_le _, Nat.zero_le _⟩ dX12_layNext_10) (fun F3 h => ?_)
  exact v_vret (pc := 13) hC dX12_layNext_13 h
def rm_X12_tried : Room := { frames := 5, cells := 0, slots := 0, locals := 113 }
def wp_X12_tried (x1 : Int32) (x2 : Int32) (F : gS) (Q : Int32 → gS → Prop) : Prop :=
  wp_X12_bars x1 F fun r1 =>
  if r1 = 0 then
    (wp_X12_within x2 0 6 F fun r2 =>
    if r2 = 0 then
      (Q (-102) F)
    else
      (wp_X12_layNext x1 F fun F4 =>
      wp_X12_triedNow x2 F4 fun r5 =>
      Q r5 F4))
  else
    (Q r1 F)
set_option maxRecDepth 20000 in
set_option maxHeartbeats 4000000 in
theorem c_X12_tried (l : Launch) (E : gE) {x1 : Int32} {x2 : Int32} {F : gS} {Q : Int32 → gS → Prop} (h : wp_X12_tried x1 x2 F Q) : CtI l E yX12_tried cX12_tried 4 (some .int) rm_X12_tried [.ref (ad E 121), .int x1, .int x2] F Q := by
  refine ct_of (by decide) (Nat.le_of_ble_eq_true rfl) (fun p e s m below meth c hC => ?_)
  generalize ([.ref (ad E 121), .int x1, .int x2] : List Value).toArray = args at hC ⊢
  refine v_sub (lv' := [(0, .ref (ad E 121)), (1, .int x1), (2, .int x2)]) [0, 1, 2] rfl ?_
  unfold wp_X12_tried at h
  refine v_aload_n (pc := 0) hC dX12_tried_0 rfl 0 rfl ?_
  refine v_iload_n (pc := 1) hC dX12_tried_1 rfl 1 rfl ?_
  refine v_cip (pc := 2) (r_V (rest := []) hC ml_X12_283 mv_X12_bars (c_X12_bars l E h) ⟨rfl, rfl⟩ ⟨Nat.le_of_ble_eq_true rfl, Nat.le_of_ble_eq_true rfl⟩ kq_121 rfl (by decide) rfl rfl (Nat.le_of_ble_eq_true rfl) ⟨Nat.zero_le _, Nat.zero_le _⟩ dX12_tried_2) (fun r1 h => ?_)
  refine v_istore_n (pc := 5) (lv' := [(3, .int r1), (0, .ref (ad E 121)), (1, .int x1), (2, .int x2)]) hC dX12_tried_5 rfl (by decide) rfl ?_
  refine v_iload_n (pc := 6) hC dX12_tried_6 rfl 0 rfl ?_
  refine v_if_eq (pc := 7) (tgt := 12) hC dX12_tried_7 (by decide) h (fun h => ?_) (fun h => ?_)
  · skip
    refine v_iload_n (pc := 12) hC dX12_tried_12 rfl 3 rfl ?_
    refine v_iconst (pc := 13) (v := 0) hC dX12_tried_13 (by decide) ?_
    refine v_bipush (pc := 14) (v := 6) hC dX12_tried_14 (by decide) ?_
    refine v_cyp (pc := 16) (r_S (rest := []) hC ml_X12_102 ms_X12_within (c_X12_within l E h) ⟨rfl, rfl⟩ ⟨Nat.le_of_ble_eq_true rfl, Nat.le_of_ble_eq_true rfl⟩ rfl rfl (Nat.le_of_ble_eq_true rfl) ⟨Nat.zero_le _, Nat.zero_le _⟩ dX12_tried_16) (fun r2 b3 h => ?_)
    refine v_if_ne (pc := 19) (tgt := 25) hC dX12_tried_19 (by decide) h (fun h => ?_) (fun h => ?_)
    · skip
      refine v_aload_n (pc := 25) hC dX12_tried_25 rfl 1 rfl ?_
      refine v_iload_n (pc := 26) hC dX12_tried_26 rfl 2 rfl ?_
      refine v_cv (pc := 27) (r_V (rest := []) hC ml_X12_298 mv_X12_layNext (c_X12_layNext l E h) ⟨rfl, rfl⟩ ⟨Nat.le_of_ble_eq_true rfl, Nat.le_of_ble_eq_true rfl⟩ kq_121 rfl (by decide) rfl rfl (Nat.le_of_ble_eq_true rfl) ⟨Nat.zero_le _, Nat.zero_le _⟩ dX12_tried_27) (fun F4 h => ?_)
      refine v_aload_n (pc := 30) hC dX12_tried_30 rfl 1 rfl ?_
      refine v_iload_n (pc := 31) hC dX12_tried_31 rfl 3 rfl ?_
      refine v_cip (pc := 32) (r_V (rest := []) hC ml_X12_292 mv_X12_triedNow (c_X12_triedNow l E h) ⟨rfl, rfl⟩ ⟨Nat.le_of_ble_eq_true rfl, Nat.le_of_ble_eq_true rfl⟩ kq_121 rfl (by decide) rfl rfl (Nat.le_of_ble_eq_true rfl) ⟨Nat.zero_le _, Nat.zero_le _⟩ dX12_tried_32) (fun r5 h => ?_)
      exact v_iret (pc := 35) hC dX12_tried_35 h
    · skip
      refine v_bipush (pc := 22) (v := (-102)) hC dX12_tried_22 (by decide) ?_
      exact v_iret (pc := 24) hC dX12_tried_24 h
  · skip
    refine v_iload_n (pc := 10) hC dX12_tried_10 rfl 0 rfl ?_
    exact v_iret (pc := 11) hC dX12_tried_11 h
def rm_X12_layTwelve : Room := { frames := 4, cells := 0, slots := 0, locals := 92 }
def wp_X12_layTwelve_69 (K21 : gS → Int32 → Prop) (Q : gS → Prop) (F : gS) (x2 : Int32) (x3 : Int32) (t0 : Int32) : Prop :=
  Nm (upF F 121 61 t0) fun F6 =>
  if x3 = 0 then
    (Nm (upF F6 121 62 ((F6 121 62) + 1)) fun F7 =>
    Nm (x2 + 1) fun n8 =>
    K21 F7 n8)
  else
    (Nm (upF F6 121 62 ((F6 121 62) + 0)) fun F9 =>
    Nm (x2 + 1) fun n10 =>
    K21 F9 n10)
def wp_X12_layTwelve_43 (K21 : gS → Int32 → Prop) (Q : gS → Prop) (F : gS) (x2 : Int32) (t0 : Int32) : Prop :=
  if t0 = 0 then
    (wp_X12_layTwelve_69 K21 Q F x2 t0 (-1))
  else
    (if (F 121 61) = (-1) then
      (wp_X12_layTwelve_69 K21 Q F x2 t0 x2)
    else
      (wp_X12_layTwelve_69 K21 Q F x2 t0 (F 121 61)))
def wb_X12_layTwelve_21 (Q : gS → Prop) (K21 : gS → Int32 → Prop) (F : gS) (x2 : Int32) : Prop :=
  if 12 ≤ x2 then
    (Q F)
  else
    (wp_X12_goCake F fun F5 =>
    if (F5 121 54) = 0 then
      (wp_X12_layTwelve_43 K21 Q F5 x2 1)
    else
      (wp_X12_layTwelve_43 K21 Q F5 x2 0))
def wp_X12_layTwelve (x1 : Int32) (F : gS) (Q : gS → Prop) : Prop :=
  wp_X12_loadPan F fun F1 =>
  wp_X12_loadPlan x1 F1 fun F2 =>
  Nm (upF F2 121 61 (-1)) fun F3 =>
  Nm (upF F3 121 62 0) fun F4 =>
  LP2 (wb_X12_layTwelve_21 Q) F4 0
set_option maxRecDepth 20000 in
set_option maxHeartbeats 4000000 in
theorem j_X12_layTwelve_69 {p : Program} {l : Launch} {e : Env} {s : State} {m : MethodId} {args : Array Value} {below : List Frame} {meth : Method} {c : Code} {E : gE} (hC : CX p s m args meth c cX12_layTwelve RX12 none E 4) {Q : gS → Prop} {F : gS} {x2 : Int32} {x3 : Int32} {t0 : Int32} {K21 : gS → Int32 → Prop} (hK21 : ∀ (F : gS) (x2 : Int32), K21 F x2 → VV p l e rm_X12_layTwelve s m args below meth c 0 0 (MQ below (va_Qv Q (gB E) (gA E)) args s 0 0 (gA E)) E 4 F 21 [(0, .ref (ad E 121)), (2, .int x2)] []) (h : wp_X12_layTwelve_69 K21 Q F x2 x3 t0) : VV p l e rm_X12_layTwelve s m args below meth c 0 0 (MQ below (va_Qv Q (gB E) (gA E)) args s 0 0 (gA E)) E 4 F 69 [(0, .ref (ad E 121)), (2, .int x2), (3, .int x3)] [.int t0, .ref (ad E 121)] := by
  unfold wp_X12_layTwelve_69 at h
  refine v_puti (pc := 69) hC fp_X12_301 kq_121 (fs_10_61 E _ _ _) (fn_10_61 E _ _) dX12_layTwelve_69 h (fun F6 h => ?_)
  refine v_aload_n (pc := 72) hC dX12_layTwelve_72 rfl 0 rfl ?_
  refine v_dup (pc := 73) hC dX12_layTwelve_73 rfl ?_
  refine v_get (pc := 74) (v := .int (F6 121 62)) hC fl_X12_304 kq_121 rfl dX12_layTwelve_74 ?_
  refine v_iload_n (pc := 77) hC dX12_layTwelve_77 rfl 2 rfl ?_
  refine v_if_eq (pc := 78) (tgt := 85) hC dX12_layTwelve_78 (by decide) h (fun h => ?_) (fun h => ?_)
  · skip
    refine v_iconst (pc := 85) (v := 1) hC dX12_layTwelve_85 (by decide) ?_
    refine v_iadd (pc := 86) hC dX12_layTwelve_86 ?_
    refine v_puti (pc := 87) hC fp_X12_304 kq_121 (fs_10_62 E _ _ _) (fn_10_62 E _ _) dX12_layTwelve_87 h (fun F7 h => ?_)
    refine v_iinc (pc := 90) (v := 1) hC (fun z => [(2, .int z), (0, .ref (ad E 121)), (3, .int x3)]) dX12_layTwelve_90 1 rfl (by decide) (by decide) (fun _ => rfl) h (fun n8 h => ?_)
    refine v_goto (pc := 93) (tgt := 21) hC dX12_layTwelve_93 (by decide) ?_
    exact v_sub [1, 0] rfl (hK21 _ _ h)
  · skip
    refine v_iconst (pc := 81) (v := 0) hC dX12_layTwelve_81 (by decide) ?_
    refine v_goto (pc := 82) (tgt := 86) hC dX12_layTwelve_82 (by decide) ?_
    refine v_iadd (pc := 86) hC dX12_layTwelve_86 ?_
    refine v_puti (pc := 87) hC fp_X12_304 kq_121 (fs_10_62 E _ _ _) (fn_10_62 E _ _) dX12_layTwelve_87 h (fun F9 h => ?_)
    refine v_iinc (pc := 90) (v := 1) hC (fun z => [(2, .int z), (0, .ref (ad E 121)), (3, .int x3)]) dX12_layTwelve_90 1 rfl (by decide) (by decide) (fun _ => rfl) h (fun n10 h => ?_)
    refine v_goto (pc := 93) (tgt := 21) hC dX12_layTwelve_93 (by decide) ?_
    exact v_sub [1, 0] rfl (hK21 _ _ h)
set_option maxRecDepth 20000 in
set_option maxHeartbeats 4000000 in
theorem j_X12_layTwelve_43 {p : Program} {l : Launch} {e : Env} {s : State} {m : MethodId} {args : Array Value} {below : List Frame} {meth : Method} {c : Code} {E : gE} (hC : CX p s m args meth c cX12_layTwelve RX12 none E 4) {Q : gS → Prop} {F : gS} {x2 : Int32} {t0 : Int32} {K21 : gS → Int32 → Prop} (hK21 : ∀ (F : gS) (x2 : Int32), K21 F x2 → VV p l e rm_X12_layTwelve s m args below meth c 0 0 (MQ below (va_Qv Q (gB E) (gA E)) args s 0 0 (gA E)) E 4 F 21 [(0, .ref (ad E 121)), (2, .int x2)] []) (h : wp_X12_layTwelve_43 K21 Q F x2 t0) : VV p l e rm_X12_layTwelve s m args below meth c 0 0 (MQ below (va_Qv Q (gB E) (gA E)) args s 0 0 (gA E)) E 4 F 43 [(0, .ref (ad E 121)), (2, .int x2)] [.int t0] := by
  unfold wp_X12_layTwelve_43 at h
  refine v_istore_n (pc := 43) (lv' := [(3, .int t0), (0, .ref (ad E 121)), (2, .int x2)]) hC dX12_layTwelve_43 rfl (by decide) rfl ?_
  refine v_aload_n (pc := 44) hC dX12_layTwelve_44 rfl 1 rfl ?_
  refine v_iload_n (pc := 45) hC dX12_layTwelve_45 rfl 0 rfl ?_
  refine v_if_ne (pc := 46) (tgt := 53) hC dX12_layTwelve_46 (by decide) h (fun h => ?_) (fun h => ?_)
  · skip
    refine v_aload_n (pc := 53) hC dX12_layTwelve_53 rfl 1 rfl ?_
    refine v_get (pc := 54) (v := .int (F 121 61)) hC fl_X12_301 kq_121 rfl dX12_layTwelve_54 ?_
    refine v_iconst (pc := 57) (v := (-1)) hC dX12_layTwelve_57 (by decide) ?_
    refine v_ic_ne (pc := 58) (tgt := 65) hC dX12_layTwelve_58 (by decide) h (fun h => ?_) (fun h => ?_)
    · skip
      refine v_aload_n (pc := 65) hC dX12_layTwelve_65 rfl 1 rfl ?_
      refine v_get (pc := 66) (v := .int (F 121 61)) hC fl_X12_301 kq_121 rfl dX12_layTwelve_66 ?_
      exact v_sub [1, 2, 0] rfl (j_X12_layTwelve_69 hC hK21 h)
    · skip
      refine v_iload_n (pc := 61) hC dX12_layTwelve_61 rfl 2 rfl ?_
      refine v_goto (pc := 62) (tgt := 69) hC dX12_layTwelve_62 (by decide) ?_
      exact v_sub [1, 2, 0] rfl (j_X12_layTwelve_69 hC hK21 h)
  · skip
    refine v_iconst (pc := 49) (v := (-1)) hC dX12_layTwelve_49 (by decide) ?_
    refine v_goto (pc := 50) (tgt := 69) hC dX12_layTwelve_50 (by decide) ?_
    exact v_sub [1, 2, 0] rfl (j_X12_layTwelve_69 hC hK21 h)
set_option maxRecDepth 20000 in
set_option maxHeartbeats 4000000 in
theorem jb_X12_layTwelve_21 {p : Program} {l : Launch} {e : Env} {s : State} {m : MethodId} {args : Array Value} {below : List Frame} {meth : Method} {c : Code} {E : gE} (hC : CX p s m args meth c cX12_layTwelve RX12 none E 4) {Q : gS → Prop} {F : gS} {x2 : Int32} {K21 : gS → Int32 → Prop} (hK21 : ∀ (F : gS) (x2 : Int32), K21 F x2 → VV p l e rm_X12_layTwelve s m args below meth c 0 0 (MQ below (va_Qv Q (gB E) (gA E)) args s 0 0 (gA E)) E 4 F 21 [(0, .ref (ad E 121)), (2, .int x2)] []) (h : wb_X12_layTwelve_21 Q K21 F x2) : VV p l e rm_X12_layTwelve s m args below meth c 0 0 (MQ below (va_Qv Q (gB E) (gA E)) args s 0 0 (gA E)) E 4 F 21 [(0, .ref (ad E 121)), (2, .int x2)] [] := by
  unfold wb_X12_layTwelve_21 at h
  refine v_iload_n (pc := 21) hC dX12_layTwelve_21 rfl 1 rfl ?_
  refine v_bipush (pc := 22) (v := 12) hC dX12_layTwelve_22 (by decide) ?_
  refine v_ic_ge (pc := 24) (tgt := 96) hC dX12_layTwelve_24 (by decide) h (fun h => ?_) (fun h => ?_)
  · skip
    exact v_vret (pc := 96) hC dX12_layTwelve_96 h
  · skip
    refine v_aload_n (pc := 27) hC dX12_layTwelve_27 rfl 0 rfl ?_
    refine v_cv (pc := 28) (r_V (rest := []) hC ml_X12_289 mv_X12_goCake (c_X12_goCake l E h) ⟨rfl, rfl⟩ ⟨Nat.le_of_ble_eq_true rfl, Nat.le_of_ble_eq_true rfl⟩ kq_121 rfl (by decide) rfl rfl (Nat.le_of_ble_eq_true rfl) ⟨Nat.zero_le _, Nat.zero_le _⟩ dX12_layTwelve_28) (fun F5 h => ?_)
    refine v_aload_n (pc := 31) hC dX12_layTwelve_31 rfl 0 rfl ?_
    refine v_get (pc := 32) (v := .int (F5 121 54)) hC fl_X12_255 kq_121 rfl dX12_layTwelve_32 ?_
    refine v_if_ne (pc := 35) (tgt := 42) hC dX12_layTwelve_35 (by decide) h (fun h => ?_) (fun h => ?_)
    · skip
      refine v_iconst (pc := 42) (v := 0) hC dX12_layTwelve_42 (by decide) ?_
      exact v_sub [0, 1] rfl (j_X12_layTwelve_43 hC hK21 h)
    · skip
      refine v_iconst (pc := 38) (v := 1) hC dX12_layTwelve_38 (by decide) ?_
      refine v_goto (pc := 39) (tgt := 43) hC dX12_layTwelve_39 (by decide) ?_
      exact v_sub [0, 1] rfl (j_X12_layTwelve_43 hC hK21 h)
set_option maxRecDepth 20000 in
set_option maxHeartbeats 4000000 in
theorem jl_X12_layTwelve_21 {p : Program} {l : Launch} {e : Env} {s : State} {m : MethodId} {args : Array Value} {below : List Frame} {meth : Method} {c : Code} {E : gE} (hC : CX p s m args meth c cX12_layTwelve RX12 none E 4) {Q : gS → Prop} {F : gS} {x2 : Int32} (h : LP2 (wb_X12_layTwelve_21 Q) F x2) : VV p l e rm_X12_layTwelve s m args below meth c 0 0 (MQ below (va_Qv Q (gB E) (gA E)) args s 0 0 (gA E)) E 4 F 21 [(0, .ref (ad E 121)), (2, .int x2)] [] :=
  LP2_go (V := fun (F : gS) (x2 : Int32) => VV p l e rm_X12_layTwelve s m args below meth c 0 0 (MQ below (va_Qv Q (gB E) (gA E)) args s 0 0 (gA E)) E 4 F 21 [(0, .ref (ad E 121)), (2, .int x2)] []) (fun K21 hK21 F x2 h => jb_X12_layTwelve_21 hC hK21 h) F x2 h
set_option maxRecDepth 20000 in
set_option maxHeartbeats 4000000 in
theorem c_X12_layTwelve (l : Launch) (E : gE) {x1 : Int32} {F : gS} {Q : gS → Prop} (h : wp_X12_layTwelve x1 F Q) : CtV l E yX12_layTwelve cX12_layTwelve 4 none rm_X12_layTwelve [.ref (ad E 121), .int x1] F Q := by
  refine ct_of (by decide) (Nat.le_of_ble_eq_true rfl) (fun p e s m below meth c hC => ?_)
  generalize ([.ref (ad E 121), .int x1] : List Value).toArray = args at hC ⊢
  refine v_sub (lv' := [(0, .ref (ad E 121)), (1, .int x1)]) [0, 1] rfl ?_
  unfold wp_X12_layTwelve at h
  refine v_aload_n (pc := 0) hC dX12_layTwelve_0 rfl 0 rfl ?_
  refine v_cv (pc := 1) (r_V (rest := []) hC ml_X12_274 mv_X12_loadPan (c_X12_loadPan l E h) ⟨rfl, rfl⟩ ⟨Nat.le_of_ble_eq_true rfl, Nat.le_of_ble_eq_true rfl⟩ kq_121 rfl (by decide) rfl rfl (Nat.le_of_ble_eq_true rfl) ⟨Nat.zero_le _, Nat.zero_le _⟩ dX12_layTwelve_1) (fun F1 h => ?_)
  refine v_aload_n (pc := 4) hC dX12_layTwelve_4 rfl 0 rfl ?_
  refine v_iload_n (pc := 5) hC dX12_layTwelve_5 rfl 1 rfl ?_
  refine v_cv (pc := 6) (r_V (rest := []) hC ml_X12_286 mv_X12_loadPlan (c_X12_loadPlan l E h) ⟨rfl, rfl⟩ ⟨Nat.le_of_ble_eq_true rfl, Nat.le_of_ble_eq_true rfl⟩ kq_121 rfl (by decide) rfl rfl (Nat.le_of_ble_eq_true rfl) ⟨Nat.zero_le _, Nat.zero_le _⟩ dX12_layTwelve_6) (fun F2 h => ?_)
  refine v_aload_n (pc := 9) hC dX12_layTwelve_9 rfl 0 rfl ?_
  refine v_iconst (pc := 10) (v := (-1)) hC dX12_layTwelve_10 (by decide) ?_
  refine v_puti (pc := 11) hC fp_X12_301 kq_121 (fs_10_61 E _ _ _) (fn_10_61 E _ _) dX12_layTwelve_11 h (fun F3 h => ?_)
  refine v_aload_n (pc := 14) hC dX12_layTwelve_14 rfl 0 rfl ?_
  refine v_iconst (pc := 15) (v := 0) hC dX12_layTwelve_15 (by decide) ?_
  refine v_puti (pc := 16) hC fp_X12_304 kq_121 (fs_10_62 E _ _ _) (fn_10_62 E _ _) dX12_layTwelve_16 h (fun F4 h => ?_)
  refine v_iconst (pc := 19) (v := 0) hC dX12_layTwelve_19 (by decide) ?_
  refine v_istore_n (pc := 20) (lv' := [(2, .int 0), (0, .ref (ad E 121)), (1, .int x1)]) hC dX12_layTwelve_20 rfl (by decide) rfl ?_
  exact v_sub [1, 0] rfl (jl_X12_layTwelve_21 hC h)
def rm_X12_from : Room := { frames := 5, cells := 0, slots := 0, locals := 115 }
def wp_X12_from (x1 : Int32) (F : gS) (Q : Int32 → gS → Prop) : Prop :=
  wp_X12_bars x1 F fun r1 =>
  if r1 = 0 then
    (wp_X12_layTwelve x1 F fun F2 =>
    Q (F2 121 61) F2)
  else
    (Q r1 F)
set_option maxRecDepth 20000 in
set_option maxHeartbeats 4000000 in
theorem c_X12_from (l : Launch) (E : gE) {x1 : Int32} {F : gS} {Q : Int32 → gS → Prop} (h : wp_X12_from x1 F Q) : CtI l E yX12_from cX12_from 3 (some .int) rm_X12_from [.ref (ad E 121), .int x1] F Q := by
  refine ct_of (by decide) (Nat.le_of_ble_eq_true rfl) (fun p e s m below meth c hC => ?_)
  generalize ([.ref (ad E 121), .int x1] : List Value).toArray = args at hC ⊢
  refine v_sub (lv' := [(0, .ref (ad E 121)), (1, .int x1)]) [0, 1] rfl ?_
  unfold wp_X12_from at h
  refine v_aload_n (pc := 0) hC dX12_from_0 rfl 0 rfl ?_
  refine v_iload_n (pc := 1) hC dX12_from_1 rfl 1 rfl ?_
  refine v_cip (pc := 2) (r_V (rest := []) hC ml_X12_283 mv_X12_bars (c_X12_bars l E h) ⟨rfl, rfl⟩ ⟨Nat.le_of_ble_eq_true rfl, Nat.le_of_ble_eq_true rfl⟩ kq_121 rfl (by decide) rfl rfl (Nat.le_of_ble_eq_true rfl) ⟨Nat.zero_le _, Nat.zero_le _⟩ dX12_from_2) (fun r1 h => ?_)
  refine v_istore_n (pc := 5) (lv' := [(2, .int r1), (0, .ref (ad E 121)), (1, .int x1)]) hC dX12_from_5 rfl (by decide) rfl ?_
  refine v_iload_n (pc := 6) hC dX12_from_6 rfl 0 rfl ?_
  refine v_if_eq (pc := 7) (tgt := 12) hC dX12_from_7 (by decide) h (fun h => ?_) (fun h => ?_)
  · skip
    refine v_aload_n (pc := 12) hC dX12_from_12 rfl 1 rfl ?_
    refine v_iload_n (pc := 13) hC dX12_from_13 rfl 2 rfl ?_
    refine v_cv (pc := 14) (r_V (rest := []) hC ml_X12_307 mv_X12_layTwelve (c_X12_layTwelve l E h) ⟨rfl, rfl⟩ ⟨Nat.le_of_ble_eq_true rfl, Nat.le_of_ble_eq_true rfl⟩ kq_121 rfl (by decide) rfl rfl (Nat.le_of_ble_eq_true rfl) ⟨Nat.zero_le _, Nat.zero_le _⟩ dX12_from_14) (fun F2 h => ?_)
    refine v_aload_n (pc := 17) hC dX12_from_17 rfl 1 rfl ?_
    refine v_get (pc := 18) (v := .int (F2 121 61)) hC fl_X12_301 kq_121 rfl dX12_from_18 ?_
    exact v_iret (pc := 21) hC dX12_from_21 h
  · skip
    refine v_iload_n (pc := 10) hC dX12_from_10 rfl 0 rfl ?_
    exact v_iret (pc := 11) hC dX12_from_11 h
def rm_X12_dogs : Room := { frames := 5, cells := 0, slots := 0, locals := 115 }
def wp_X12_dogs (x1 : Int32) (F : gS) (Q : Int32 → gS → Prop) : Prop :=
  wp_X12_bars x1 F fun r1 =>
  if r1 = 0 then
    (wp_X12_layTwelve x1 F fun F2 =>
    Q (F2 121 62) F2)
  else
    (Q r1 F)
set_option maxRecDepth 20000 in
set_option maxHeartbeats 4000000 in
theorem c_X12_dogs (l : Launch) (E : gE) {x1 : Int32} {F : gS} {Q : Int32 → gS → Prop} (h : wp_X12_dogs x1 F Q) : CtI l E yX12_dogs cX12_dogs 3 (some .int) rm_X12_dogs [.ref (ad E 121), .int x1] F Q := by
  refine ct_of (by decide) (Nat.le_of_ble_eq_true rfl) (fun p e s m below meth c hC => ?_)
  generalize ([.ref (ad E 121), .int x1] : List Value).toArray = args at hC ⊢
  refine v_sub (lv' := [(0, .ref (ad E 121)), (1, .int x1)]) [0, 1] rfl ?_
  unfold wp_X12_dogs at h
  refine v_aload_n (pc := 0) hC dX12_dogs_0 rfl 0 rfl ?_
  refine v_iload_n (pc := 1) hC dX12_dogs_1 rfl 1 rfl ?_
  refine v_cip (pc := 2) (r_V (rest := []) hC ml_X12_283 mv_X12_bars (c_X12_bars l E h) ⟨rfl, rfl⟩ ⟨Nat.le_of_ble_eq_true rfl, Nat.le_of_ble_eq_true rfl⟩ kq_121 rfl (by decide) rfl rfl (Nat.le_of_ble_eq_true rfl) ⟨Nat.zero_le _, Nat.zero_le _⟩ dX12_dogs_2) (fun r1 h => ?_)
  refine v_istore_n (pc := 5) (lv' := [(2, .int r1), (0, .ref (ad E 121)), (1, .int x1)]) hC dX12_dogs_5 rfl (by decide) rfl ?_
  refine v_iload_n (pc := 6) hC dX12_dogs_6 rfl 0 rfl ?_
  refine v_if_eq (pc := 7) (tgt := 12) hC dX12_dogs_7 (by decide) h (fun h => ?_) (fun h => ?_)
  · skip
    refine v_aload_n (pc := 12) hC dX12_dogs_12 rfl 1 rfl ?_
    refine v_iload_n (pc := 13) hC dX12_dogs_13 rfl 2 rfl ?_
    refine v_cv (pc := 14) (r_V (rest := []) hC ml_X12_307 mv_X12_layTwelve (c_X12_layTwelve l E h) ⟨rfl, rfl⟩ ⟨Nat.le_of_ble_eq_true rfl, Nat.le_of_ble_eq_true rfl⟩ kq_121 rfl (by decide) rfl rfl (Nat.le_of_ble_eq_true rfl) ⟨Nat.zero_le _, Nat.zero_le _⟩ dX12_dogs_14) (fun F2 h => ?_)
    refine v_aload_n (pc := 17) hC dX12_dogs_17 rfl 1 rfl ?_
    refine v_get (pc := 18) (v := .int (F2 121 62)) hC fl_X12_304 kq_121 rfl dX12_dogs_18 ?_
    exact v_iret (pc := 21) hC dX12_dogs_21 h
  · skip
    refine v_iload_n (pc := 10) hC dX12_dogs_10 rfl 0 rfl ?_
    exact v_iret (pc := 11) hC dX12_dogs_11 h
def rm_X12_isRightBy : Room := { frames := 4, cells := 0, slots := 0, locals := 92 }
def wp_X12_isRightBy_37 (K6 : gS → Int32 → Prop) (Q : Int32 → gS → Prop) (F : gS) (x1 : Int32) (x2 : Int32) (t0 : Int32) (t1 : Int32) : Prop :=
  vp_in t1 16 ∧ Nm (upF F 140 t1.toNatClampNeg t0) fun F4 =>
  if x1 = 4 then
    (vp_in x2 16 ∧ Nm (upF F4 141 x2.toNatClampNeg 0) fun F7 =>
    Nm (x2 + 1) fun n8 =>
    K6 F7 n8)
  else
    (vp_in x2 16 ∧
    vp_in x2 16 ∧ Nm (upF F4 141 x2.toNatClampNeg (F4 141 x2.toNatClampNeg)) fun F5 =>
    Nm (x2 + 1) fun n6 =>
    K6 F5 n6)
def wp_X12_isRightBy_80 (Q : Int32 → gS → Prop) (F : gS) (t0 : Int32) : Prop :=
  Nm (upF F 121 43 t0) fun F2 =>
  wp_X12_goCake F2 fun F3 =>
  if (F3 121 54) = 0 then
    (Q 1 F3)
  else
    (Q 0 F3)
def wb_X12_isRightBy_6 (Q : Int32 → gS → Prop) (x1 : Int32) (K6 : gS → Int32 → Prop) (F : gS) (x2 : Int32) : Prop :=
  if 16 ≤ x2 then
    (if x1 = 2 then
      (wp_X12_isRightBy_80 Q F 9)
    else
      (wp_X12_isRightBy_80 Q F (F 121 43)))
  else
    (if x1 = 1 then
      (vp_in x2 16 ∧
      wp_X12_isRightBy_37 K6 Q F x1 x2 (F 147 x2.toNatClampNeg) x2)
    else
      (vp_in x2 16 ∧
      wp_X12_isRightBy_37 K6 Q F x1 x2 (F 140 x2.toNatClampNeg) x2))
def wp_X12_isRightBy (x1 : Int32) (F : gS) (Q : Int32 → gS → Prop) : Prop :=
  wp_X12_loadPan F fun F1 =>
  LP2 (wb_X12_isRightBy_6 Q x1) F1 0
set_option maxRecDepth 20000 in
set_option maxHeartbeats 4000000 in
theorem j_X12_isRightBy_37 {p : Program} {l : Launch} {e : Env} {s : State} {m : MethodId} {args : Array Value} {below : List Frame} {meth : Method} {c : Code} {E : gE} (hC : CX p s m args meth c cX12_isRightBy RX12 (some .boolean) E 3) {Q : Int32 → gS → Prop} {F : gS} {x1 : Int32} {x2 : Int32} {t0 : Int32} {t1 : Int32} {K6 : gS → Int32 → Prop} (hK6 : ∀ (F : gS) (x2 : Int32), K6 F x2 → VV p l e rm_X12_isRightBy s m args below meth c 0 0 (MQ below (va_Qi (fun r G => (r = 0 ∨ r = 1) ∧ Q r G) (gB E) (gA E)) args s 0 0 (gA E)) E 3 F 6 [(0, .ref (ad E 121)), (1, .int x1), (2, .int x2)] []) (h : wp_X12_isRightBy_37 K6 Q F x1 x2 t0 t1) : VV p l e rm_X12_isRightBy s m args below meth c 0 0 (MQ below (va_Qi (fun r G => (r = 0 ∨ r = 1) ∧ Q r G) (gB E) (gA E)) args s 0 0 (gA E)) E 3 F 37 [(0, .ref (ad E 121)), (1, .int x1), (2, .int x2)] [.int t0, .int t1, .ref (ad E 140)] := by
  unfold wp_X12_isRightBy_37 at h
  refine v_iast (pc := 37) (n := 16) hC kq_140 (by decide) dX12_isRightBy_37 h (fun F4 h => ?_)
  refine v_aload_n (pc := 38) hC dX12_isRightBy_38 rfl 0 rfl ?_
  refine v_get (pc := 39) (v := .ref (ad E 141)) hC fl_X12_69 kq_121 rfl dX12_isRightBy_39 ?_
  refine v_iload_n (pc := 42) hC dX12_isRightBy_42 rfl 2 rfl ?_
  refine v_iload_n (pc := 43) hC dX12_isRightBy_43 rfl 1 rfl ?_
  refine v_iconst (pc := 44) (v := 4) hC dX12_isRightBy_44 (by decide) ?_
  refine v_ic_ne (pc := 45) (tgt := 52) hC dX12_isRightBy_45 (by decide) h (fun h => ?_) (fun h => ?_)
  · skip
    refine v_aload_n (pc := 52) hC dX12_isRightBy_52 rfl 0 rfl ?_
    refine v_get (pc := 53) (v := .ref (ad E 141)) hC fl_X12_69 kq_121 rfl dX12_isRightBy_53 ?_
    refine v_iload_n (pc := 56) hC dX12_isRightBy_56 rfl 2 rfl ?_
    refine v_iald (pc := 57) (n := 16) hC kq_141 (by decide) dX12_isRightBy_57 h (fun h => ?_)
    refine v_iast (pc := 58) (n := 16) hC kq_141 (by decide) dX12_isRightBy_58 h (fun F5 h => ?_)
    refine v_iinc (pc := 59) (v := 1) hC (fun z => [(2, .int z), (0, .ref (ad E 121)), (1, .int x1)]) dX12_isRightBy_59 2 rfl (by decide) (by decide) (fun _ => rfl) h (fun n6 h => ?_)
    refine v_goto (pc := 62) (tgt := 6) hC dX12_isRightBy_62 (by decide) ?_
    exact v_sub [1, 2, 0] rfl (hK6 _ _ h)
  · skip
    refine v_iconst (pc := 48) (v := 0) hC dX12_isRightBy_48 (by decide) ?_
    refine v_goto (pc := 49) (tgt := 58) hC dX12_isRightBy_49 (by decide) ?_
    refine v_iast (pc := 58) (n := 16) hC kq_141 (by decide) dX12_isRightBy_58 h (fun F7 h => ?_)
    refine v_iinc (pc := 59) (v := 1) hC (fun z => [(2, .int z), (0, .ref (ad E 121)), (1, .int x1)]) dX12_isRightBy_59 2 rfl (by decide) (by decide) (fun _ => rfl) h (fun n8 h => ?_)
    refine v_goto (pc := 62) (tgt := 6) hC dX12_isRightBy_62 (by decide) ?_
    exact v_sub [1, 2, 0] rfl (hK6 _ _ h)
set_option maxRecDepth 20000 in
set_option maxHeartbeats 4000000 in
theorem j_X12_isRightBy_80 {p : Program} {l : Launch} {e : Env} {s : State} {m : MethodId} {args : Array Value} {below : List Frame} {meth : Method} {c : Code} {E : gE} (hC : CX p s m args meth c cX12_isRightBy RX12 (some .boolean) E 3) {Q : Int32 → gS → Prop} {F : gS} {t0 : Int32} (h : wp_X12_isRightBy_80 Q F t0) : VV p l e rm_X12_isRightBy s m args below meth c 0 0 (MQ below (va_Qi (fun r G => (r = 0 ∨ r = 1) ∧ Q r G) (gB E) (gA E)) args s 0 0 (gA E)) E 3 F 80 [(0, .ref (ad E 121))] [.int t0, .ref (ad E 121)] := by
  unfold wp_X12_isRightBy_80 at h
  refine v_puti (pc := 80) hC fp_X12_212 kq_121 (fs_10_43 E _ _ _) (fn_10_43 E _ _) dX12_isRightBy_80 h (fun F2 h => ?_)
  refine v_aload_n (pc := 83) hC dX12_isRightBy_83 rfl 0 rfl ?_
  refine v_cv (pc := 84) (r_V (rest := []) hC ml_X12_289 mv_X12_goCake (c_X12_goCake l E h) ⟨rfl, rfl⟩ ⟨Nat.le_of_ble_eq_true rfl, Nat.le_of_ble_eq_true rfl⟩ kq_121 rfl (by decide) rfl rfl (Nat.le_of_ble_eq_true rfl) ⟨Nat.zero_le _, Nat.zero_le _⟩ dX12_isRightBy_84) (fun F3 h => ?_)
  refine v_aload_n (pc := 87) hC dX12_isRightBy_87 rfl 0 rfl ?_
  refine v_get (pc := 88) (v := .int (F3 121 54)) hC fl_X12_255 kq_121 rfl dX12_isRightBy_88 ?_
  refine v_if_ne (pc := 91) (tgt := 98) hC dX12_isRightBy_91 (by decide) h (fun h => ?_) (fun h => ?_)
  · skip
    refine v_iconst (pc := 98) (v := 0) hC dX12_isRightBy_98 (by decide) ?_
    exact v_zret (pc := 99) hC dX12_isRightBy_99 (Or.inl rfl) ⟨Or.inl rfl, h⟩
  · skip
    refine v_iconst (pc := 94) (v := 1) hC dX12_isRightBy_94 (by decide) ?_
    refine v_goto (pc := 95) (tgt := 99) hC dX12_isRightBy_95 (by decide) ?_
    exact v_zret (pc := 99) hC dX12_isRightBy_99 (Or.inr rfl) ⟨Or.inr rfl, h⟩
set_option maxRecDepth 20000 in
set_option maxHeartbeats 4000000 in
theorem jb_X12_isRightBy_6 {p : Program} {l : Launch} {e : Env} {s : State} {m : MethodId} {args : Array Value} {below : List Frame} {meth : Method} {c : Code} {E : gE} (hC : CX p s m args meth c cX12_isRightBy RX12 (some .boolean) E 3) {Q : Int32 → gS → Prop} {F : gS} {x1 : Int32} {x2 : Int32} {K6 : gS → Int32 → Prop} (hK6 : ∀ (F : gS) (x2 : Int32), K6 F x2 → VV p l e rm_X12_isRightBy s m args below meth c 0 0 (MQ below (va_Qi (fun r G => (r = 0 ∨ r = 1) ∧ Q r G) (gB E) (gA E)) args s 0 0 (gA E)) E 3 F 6 [(0, .ref (ad E 121)), (1, .int x1), (2, .int x2)] []) (h : wb_X12_isRightBy_6 Q x1 K6 F x2) : VV p l e rm_X12_isRightBy s m args below meth c 0 0 (MQ below (va_Qi (fun r G => (r = 0 ∨ r = 1) ∧ Q r G) (gB E) (gA E)) args s 0 0 (gA E)) E 3 F 6 [(0, .ref (ad E 121)), (1, .int x1), (2, .int x2)] [] := by
  unfold wb_X12_isRightBy_6 at h
  refine v_iload_n (pc := 6) hC dX12_isRightBy_6 rfl 2 rfl ?_
  refine v_bipush (pc := 7) (v := 16) hC dX12_isRightBy_7 (by decide) ?_
  refine v_ic_ge (pc := 9) (tgt := 65) hC dX12_isRightBy_9 (by decide) h (fun h => ?_) (fun h => ?_)
  · skip
    refine v_aload_n (pc := 65) hC dX12_isRightBy_65 rfl 0 rfl ?_
    refine v_iload_n (pc := 66) hC dX12_isRightBy_66 rfl 1 rfl ?_
    refine v_iconst (pc := 67) (v := 2) hC dX12_isRightBy_67 (by decide) ?_
    refine v_ic_ne (pc := 68) (tgt := 76) hC dX12_isRightBy_68 (by decide) h (fun h => ?_) (fun h => ?_)
    · skip
      refine v_aload_n (pc := 76) hC dX12_isRightBy_76 rfl 0 rfl ?_
      refine v_get (pc := 77) (v := .int (F 121 43)) hC fl_X12_212 kq_121 rfl dX12_isRightBy_77 ?_
      exact v_sub [0] rfl (j_X12_isRightBy_80 hC h)
    · skip
      refine v_bipush (pc := 71) (v := 9) hC dX12_isRightBy_71 (by decide) ?_
      refine v_goto (pc := 73) (tgt := 80) hC dX12_isRightBy_73 (by decide) ?_
      exact v_sub [0] rfl (j_X12_isRightBy_80 hC h)
  · skip
    refine v_aload_n (pc := 12) hC dX12_isRightBy_12 rfl 0 rfl ?_
    refine v_get (pc := 13) (v := .ref (ad E 140)) hC fl_X12_66 kq_121 rfl dX12_isRightBy_13 ?_
    refine v_iload_n (pc := 16) hC dX12_isRightBy_16 rfl 2 rfl ?_
    refine v_iload_n (pc := 17) hC dX12_isRightBy_17 rfl 1 rfl ?_
    refine v_iconst (pc := 18) (v := 1) hC dX12_isRightBy_18 (by decide) ?_
    refine v_ic_ne (pc := 19) (tgt := 31) hC dX12_isRightBy_19 (by decide) h (fun h => ?_) (fun h => ?_)
    · skip
      refine v_aload_n (pc := 31) hC dX12_isRightBy_31 rfl 0 rfl ?_
      refine v_get (pc := 32) (v := .ref (ad E 140)) hC fl_X12_66 kq_121 rfl dX12_isRightBy_32 ?_
      refine v_iload_n (pc := 35) hC dX12_isRightBy_35 rfl 2 rfl ?_
      refine v_iald (pc := 36) (n := 16) hC kq_140 (by decide) dX12_isRightBy_36 h (fun h => ?_)
      exact v_sub [0, 1, 2] rfl (j_X12_isRightBy_37 hC hK6 h)
    · skip
      refine v_aload_n (pc := 22) hC dX12_isRightBy_22 rfl 0 rfl ?_
      refine v_get (pc := 23) (v := .ref (ad E 147)) hC fl_X12_87 kq_121 rfl dX12_isRightBy_23 ?_
      refine v_iload_n (pc := 26) hC dX12_isRightBy_26 rfl 2 rfl ?_
      refine v_iald (pc := 27) (n := 16) hC kq_147 (by decide) dX12_isRightBy_27 h (fun h => ?_)
      refine v_goto (pc := 28) (tgt := 37) hC dX12_isRightBy_28 (by decide) ?_
      exact v_sub [0, 1, 2] rfl (j_X12_isRightBy_37 hC hK6 h)
set_option maxRecDepth 20000 in
set_option maxHeartbeats 4000000 in
theorem jl_X12_isRightBy_6 {p : Program} {l : Launch} {e : Env} {s : State} {m : MethodId} {args : Array Value} {below : List Frame} {meth : Method} {c : Code} {E : gE} (hC : CX p s m args meth c cX12_isRightBy RX12 (some .boolean) E 3) {Q : Int32 → gS → Prop} {F : gS} {x1 : Int32} {x2 : Int32} (h : LP2 (wb_X12_isRightBy_6 Q x1) F x2) : VV p l e rm_X12_isRightBy s m args below meth c 0 0 (MQ below (va_Qi (fun r G => (r = 0 ∨ r = 1) ∧ Q r G) (gB E) (gA E)) args s 0 0 (gA E)) E 3 F 6 [(0, .ref (ad E 121)), (1, .int x1), (2, .int x2)] [] :=
  LP2_go (V := fun (F : gS) (x2 : Int32) => VV p l e rm_X12_isRightBy s m args below meth c 0 0 (MQ below (va_Qi (fun r G => (r = 0 ∨ r = 1) ∧ Q r G) (gB E) (gA E)) args s 0 0 (gA E)) E 3 F 6 [(0, .ref (ad E 121)), (1, .int x1), (2, .int x2)] []) (fun K6 hK6 F x2 h => jb_X12_isRightBy_6 hC hK6 h) F x2 h
set_option maxRecDepth 20000 in
set_option maxHeartbeats 4000000 in
theorem c_X12_isRightBy (l : Launch) (E : gE) {x1 : Int32} {F : gS} {Q : Int32 → gS → Prop} (h : wp_X12_isRightBy x1 F Q) : CtI l E yX12_isRightBy cX12_isRightBy 3 (some .boolean) rm_X12_isRightBy [.ref (ad E 121), .int x1] F (fun r G => (r = 0 ∨ r = 1) ∧ Q r G) := by
  refine ct_of (by decide) (Nat.le_of_ble_eq_true rfl) (fun p e s m below meth c hC => ?_)
  generalize ([.ref (ad E 121), .int x1] : List Value).toArray = args at hC ⊢
  refine v_sub (lv' := [(0, .ref (ad E 121)), (1, .int x1)]) [0, 1] rfl ?_
  unfold wp_X12_isRightBy at h
  refine v_aload_n (pc := 0) hC dX12_isRightBy_0 rfl 0 rfl ?_
  refine v_cv (pc := 1) (r_V (rest := []) hC ml_X12_274 mv_X12_loadPan (c_X12_loadPan l E h) ⟨rfl, rfl⟩ ⟨Nat.le_of_ble_eq_true rfl, Nat.le_of_ble_eq_true rfl⟩ kq_121 rfl (by decide) rfl rfl (Nat.le_of_ble_eq_true rfl) ⟨Nat.zero_le _, Nat.zero_le _⟩ dX12_isRightBy_1) (fun F1 h => ?_)
  refine v_iconst (pc := 4) (v := 0) hC dX12_isRightBy_4 (by decide) ?_
  refine v_istore_n (pc := 5) (lv' := [(2, .int 0), (0, .ref (ad E 121)), (1, .int x1)]) hC dX12_isRightBy_5 rfl (by decide) rfl ?_
  exact v_sub [1, 2, 0] rfl (jl_X12_isRightBy_6 hC h)
def rm_X12_why : Room := { frames := 5, cells := 0, slots := 0, locals := 114 }
def wp_X12_why_101 (Q : Int32 → gS → Prop) (F : gS) (t0 : Int32) (t1 : Int32) : Prop :=
  wp_X12_isRightBy 4 F fun r20 F21 =>
  if r20 = 0 then
    (Q ((t1 + t0) + 0) F21)
  else
    (Q ((t1 + t0) + 4) F21)
def wp_X12_why_65 (Q : Int32 → gS → Prop) (F : gS) : Prop :=
  wp_X12_isRightBy 0 F fun r8 F9 =>
  if r8 = 0 then
    (wp_X12_isRightBy 1 F9 fun r11 F12 =>
    if r11 = 0 then
      (wp_X12_isRightBy 2 F12 fun r14 F15 =>
      if r14 = 0 then
        (wp_X12_why_101 Q F15 0 0)
      else
        (wp_X12_why_101 Q F15 2 0))
    else
      (wp_X12_isRightBy 2 F12 fun r17 F18 =>
      if r17 = 0 then
        (wp_X12_why_101 Q F18 0 1)
      else
        (wp_X12_why_101 Q F18 2 1)))
  else
    (Q (-1) F9)
def wb_X12_why_41 (Q : Int32 → gS → Prop) (K41 : gS → Int32 → Prop) (F : gS) (x3 : Int32) : Prop :=
  if 16 ≤ x3 then
    (wp_X12_why_65 Q F)
  else
    (vp_in x3 16 ∧
    vp_in x3 16 ∧ Nm (upF F 147 x3.toNatClampNeg (F 140 x3.toNatClampNeg)) fun F6 =>
    Nm (x3 + 1) fun n7 =>
    K41 F6 n7)
def wb_X12_why_23 (Q : Int32 → gS → Prop) (K23 : gS → Int32 → Prop) (F : gS) (x3 : Int32) : Prop :=
  if 6 ≤ x3 then
    (LP2 (wb_X12_why_41 Q) F 0)
  else
    (wp_X12_goCake F fun F4 =>
    Nm (x3 + 1) fun n5 =>
    K23 F4 n5)
def wp_X12_why (x1 : Int32) (F : gS) (Q : Int32 → gS → Prop) : Prop :=
  wp_X12_bars x1 F fun r1 =>
  if r1 = 0 then
    (wp_X12_loadPan F fun F2 =>
    wp_X12_loadPlan x1 F2 fun F3 =>
    LP2 (wb_X12_why_23 Q) F3 0)
  else
    (Q r1 F)
set_option maxRecDepth 20000 in
set_option maxHeartbeats 4000000 in
theorem j_X12_why_101 {p : Program} {l : Launch} {e : Env} {s : State} {m : MethodId} {args : Array Value} {below : List Frame} {meth : Method} {c : Code} {E : gE} (hC : CX p s m args meth c cX12_why RX12 (some .int) E 4) {Q : Int32 → gS → Prop} {F : gS} {t0 : Int32} {t1 : Int32} (h : wp_X12_why_101 Q F t0 t1) : VV p l e rm_X12_why s m args below meth c 0 0 (MQ below (va_Qi Q (gB E) (gA E)) args s 0 0 (gA E)) E 4 F 101 [(0, .ref (ad E 121))] [.int t0, .int t1] := by
  unfold wp_X12_why_101 at h
  refine v_iadd (pc := 101) hC dX12_why_101 ?_
  refine v_aload_n (pc := 102) hC dX12_why_102 rfl 0 rfl ?_
  refine v_iconst (pc := 103) (v := 4) hC dX12_why_103 (by decide) ?_
  refine v_ci (pc := 104) (r_V (rest := [.int (t1 + t0)]) hC ml_X12_310 mv_X12_isRightBy (c_X12_isRightBy l E h) ⟨rfl, rfl⟩ ⟨Nat.le_of_ble_eq_true rfl, Nat.le_of_ble_eq_true rfl⟩ kq_121 rfl (by decide) rfl rfl (Nat.le_of_ble_eq_true rfl) ⟨Nat.zero_le _, Nat.zero_le _⟩ dX12_why_104) (fun r20 F21 h => ?_)
  obtain ⟨b22, h⟩ := h
  refine v_if_eq (pc := 107) (tgt := 114) hC dX12_why_107 (by decide) h (fun h => ?_) (fun h => ?_)
  · skip
    refine v_iconst (pc := 114) (v := 0) hC dX12_why_114 (by decide) ?_
    refine v_iadd (pc := 115) hC dX12_why_115 ?_
    exact v_iret (pc := 116) hC dX12_why_116 h
  · skip
    refine v_iconst (pc := 110) (v := 4) hC dX12_why_110 (by decide) ?_
    refine v_goto (pc := 111) (tgt := 115) hC dX12_why_111 (by decide) ?_
    refine v_iadd (pc := 115) hC dX12_why_115 ?_
    exact v_iret (pc := 116) hC dX12_why_116 h
set_option maxRecDepth 20000 in
set_option maxHeartbeats 4000000 in
theorem j_X12_why_65 {p : Program} {l : Launch} {e : Env} {s : State} {m : MethodId} {args : Array Value} {below : List Frame} {meth : Method} {c : Code} {E : gE} (hC : CX p s m args meth c cX12_why RX12 (some .int) E 4) {Q : Int32 → gS → Prop} {F : gS} (h : wp_X12_why_65 Q F) : VV p l e rm_X12_why s m args below meth c 0 0 (MQ below (va_Qi Q (gB E) (gA E)) args s 0 0 (gA E)) E 4 F 65 [(0, .ref (ad E 121))] [] := by
  unfold wp_X12_why_65 at h
  refine v_aload_n (pc := 65) hC dX12_why_65 rfl 0 rfl ?_
  refine v_iconst (pc := 66) (v := 0) hC dX12_why_66 (by decide) ?_
  refine v_ci (pc := 67) (r_V (rest := []) hC ml_X12_310 mv_X12_isRightBy (c_X12_isRightBy l E h) ⟨rfl, rfl⟩ ⟨Nat.le_of_ble_eq_true rfl, Nat.le_of_ble_eq_true rfl⟩ kq_121 rfl (by decide) rfl rfl (Nat.le_of_ble_eq_true rfl) ⟨Nat.zero_le _, Nat.zero_le _⟩ dX12_why_67) (fun r8 F9 h => ?_)
  obtain ⟨b10, h⟩ := h
  refine v_if_eq (pc := 70) (tgt := 75) hC dX12_why_70 (by decide) h (fun h => ?_) (fun h => ?_)
  · skip
    refine v_aload_n (pc := 75) hC dX12_why_75 rfl 0 rfl ?_
    refine v_iconst (pc := 76) (v := 1) hC dX12_why_76 (by decide) ?_
    refine v_ci (pc := 77) (r_V (rest := []) hC ml_X12_310 mv_X12_isRightBy (c_X12_isRightBy l E h) ⟨rfl, rfl⟩ ⟨Nat.le_of_ble_eq_true rfl, Nat.le_of_ble_eq_true rfl⟩ kq_121 rfl (by decide) rfl rfl (Nat.le_of_ble_eq_true rfl) ⟨Nat.zero_le _, Nat.zero_le _⟩ dX12_why_77) (fun r11 F12 h => ?_)
    obtain ⟨b13, h⟩ := h
    refine v_if_eq (pc := 80) (tgt := 87) hC dX12_why_80 (by decide) h (fun h => ?_) (fun h => ?_)
    · skip
      refine v_iconst (pc := 87) (v := 0) hC dX12_why_87 (by decide) ?_
      refine v_aload_n (pc := 88) hC dX12_why_88 rfl 0 rfl ?_
      refine v_iconst (pc := 89) (v := 2) hC dX12_why_89 (by decide) ?_
      refine v_ci (pc := 90) (r_V (rest := [.int 0]) hC ml_X12_310 mv_X12_isRightBy (c_X12_isRightBy l E h) ⟨rfl, rfl⟩ ⟨Nat.le_of_ble_eq_true rfl, Nat.le_of_ble_eq_true rfl⟩ kq_121 rfl (by decide) rfl rfl (Nat.le_of_ble_eq_true rfl) ⟨Nat.zero_le _, Nat.zero_le _⟩ dX12_why_90) (fun r14 F15 h => ?_)
      obtain ⟨b16, h⟩ := h
      refine v_if_eq (pc := 93) (tgt := 100) hC dX12_why_93 (by decide) h (fun h => ?_) (fun h => ?_)
      · skip
        refine v_iconst (pc := 100) (v := 0) hC dX12_why_100 (by decide) ?_
        exact v_sub [0] rfl (j_X12_why_101 hC h)
      · skip
        refine v_iconst (pc := 96) (v := 2) hC dX12_why_96 (by decide) ?_
        refine v_goto (pc := 97) (tgt := 101) hC dX12_why_97 (by decide) ?_
        exact v_sub [0] rfl (j_X12_why_101 hC h)
    · skip
      refine v_iconst (pc := 83) (v := 1) hC dX12_why_83 (by decide) ?_
      refine v_goto (pc := 84) (tgt := 88) hC dX12_why_84 (by decide) ?_
      refine v_aload_n (pc := 88) hC dX12_why_88 rfl 0 rfl ?_
      refine v_iconst (pc := 89) (v := 2) hC dX12_why_89 (by decide) ?_
      refine v_ci (pc := 90) (r_V (rest := [.int 1]) hC ml_X12_310 mv_X12_isRightBy (c_X12_isRightBy l E h) ⟨rfl, rfl⟩ ⟨Nat.le_of_ble_eq_true rfl, Nat.le_of_ble_eq_true rfl⟩ kq_121 rfl (by decide) rfl rfl (Nat.le_of_ble_eq_true rfl) ⟨Nat.zero_le _, Nat.zero_le _⟩ dX12_why_90) (fun r17 F18 h => ?_)
      obtain ⟨b19, h⟩ := h
      refine v_if_eq (pc := 93) (tgt := 100) hC dX12_why_93 (by decide) h (fun h => ?_) (fun h => ?_)
      · skip
        refine v_iconst (pc := 100) (v := 0) hC dX12_why_100 (by decide) ?_
        exact v_sub [0] rfl (j_X12_why_101 hC h)
      · skip
        refine v_iconst (pc := 96) (v := 2) hC dX12_why_96 (by decide) ?_
        refine v_goto (pc := 97) (tgt := 101) hC dX12_why_97 (by decide) ?_
        exact v_sub [0] rfl (j_X12_why_101 hC h)
  · skip
    refine v_iconst (pc := 73) (v := (-1)) hC dX12_why_73 (by decide) ?_
    exact v_iret (pc := 74) hC dX12_why_74 h
set_option maxRecDepth 20000 in
set_option maxHeartbeats 4000000 in
theorem jb_X12_why_41 {p : Program} {l : Launch} {e : Env} {s : State} {m : MethodId} {args : Array Value} {below : List Frame} {meth : Method} {c : Code} {E : gE} (hC : CX p s m args meth c cX12_why RX12 (some .int) E 4) {Q : Int32 → gS → Prop} {F : gS} {x3 : Int32} {K41 : gS → Int32 → Prop} (hK41 : ∀ (F : gS) (x3 : Int32), K41 F x3 → VV p l e rm_X12_why s m args below meth c 0 0 (MQ below (va_Qi Q (gB E) (gA E)) args s 0 0 (gA E)) E 4 F 41 [(0, .ref (ad E 121)), (3, .int x3)] []) (h : wb_X12_why_41 Q K41 F x3) : VV p l e rm_X12_why s m args below meth c 0 0 (MQ below (va_Qi Q (gB E) (gA E)) args s 0 0 (gA E)) E 4 F 41 [(0, .ref (ad E 121)), (3, .int x3)] [] := by
  unfold wb_X12_why_41 at h
  refine v_iload_n (pc := 41) hC dX12_why_41 rfl 1 rfl ?_
  refine v_bipush (pc := 42) (v := 16) hC dX12_why_42 (by decide) ?_
  refine v_ic_ge (pc := 44) (tgt := 65) hC dX12_why_44 (by decide) h (fun h => ?_) (fun h => ?_)
  · skip
    exact v_sub [0] rfl (j_X12_why_65 hC h)
  · skip
    refine v_aload_n (pc := 47) hC dX12_why_47 rfl 0 rfl ?_
    refine v_get (pc := 48) (v := .ref (ad E 147)) hC fl_X12_87 kq_121 rfl dX12_why_48 ?_
    refine v_iload_n (pc := 51) hC dX12_why_51 rfl 1 rfl ?_
    refine v_aload_n (pc := 52) hC dX12_why_52 rfl 0 rfl ?_
    refine v_get (pc := 53) (v := .ref (ad E 140)) hC fl_X12_66 kq_121 rfl dX12_why_53 ?_
    refine v_iload_n (pc := 56) hC dX12_why_56 rfl 1 rfl ?_
    refine v_iald (pc := 57) (n := 16) hC kq_140 (by decide) dX12_why_57 h (fun h => ?_)
    refine v_iast (pc := 58) (n := 16) hC kq_147 (by decide) dX12_why_58 h (fun F6 h => ?_)
    refine v_iinc (pc := 59) (v := 1) hC (fun z => [(3, .int z), (0, .ref (ad E 121))]) dX12_why_59 1 rfl (by decide) (by decide) (fun _ => rfl) h (fun n7 h => ?_)
    refine v_goto (pc := 62) (tgt := 41) hC dX12_why_62 (by decide) ?_
    exact v_sub [1, 0] rfl (hK41 _ _ h)
set_option maxRecDepth 20000 in
set_option maxHeartbeats 4000000 in
theorem jl_X12_why_41 {p : Program} {l : Launch} {e : Env} {s : State} {m : MethodId} {args : Array Value} {below : List Frame} {meth : Method} {c : Code} {E : gE} (hC : CX p s m args meth c cX12_why RX12 (some .int) E 4) {Q : Int32 → gS → Prop} {F : gS} {x3 : Int32} (h : LP2 (wb_X12_why_41 Q) F x3) : VV p l e rm_X12_why s m args below meth c 0 0 (MQ below (va_Qi Q (gB E) (gA E)) args s 0 0 (gA E)) E 4 F 41 [(0, .ref (ad E 121)), (3, .int x3)] [] :=
  LP2_go (V := fun (F : gS) (x3 : Int32) => VV p l e rm_X12_why s m args below meth c 0 0 (MQ below (va_Qi Q (gB E) (gA E)) args s 0 0 (gA E)) E 4 F 41 [(0, .ref (ad E 121)), (3, .int x3)] []) (fun K41 hK41 F x3 h => jb_X12_why_41 hC hK41 h) F x3 h
set_option maxRecDepth 20000 in
set_option maxHeartbeats 4000000 in
theorem jb_X12_why_23 {p : Program} {l : Launch} {e : Env} {s : State} {m : MethodId} {args : Array Value} {below : List Frame} {meth : Method} {c : Code} {E : gE} (hC : CX p s m args meth c cX12_why RX12 (some .int) E 4) {Q : Int32 → gS → Prop} {F : gS} {x3 : Int32} {K23 : gS → Int32 → Prop} (hK23 : ∀ (F : gS) (x3 : Int32), K23 F x3 → VV p l e rm_X12_why s m args below meth c 0 0 (MQ below (va_Qi Q (gB E) (gA E)) args s 0 0 (gA E)) E 4 F 23 [(0, .ref (ad E 121)), (3, .int x3)] []) (h : wb_X12_why_23 Q K23 F x3) : VV p l e rm_X12_why s m args below meth c 0 0 (MQ below (va_Qi Q (gB E) (gA E)) args s 0 0 (gA E)) E 4 F 23 [(0, .ref (ad E 121)), (3, .int x3)] [] := by
  unfold wb_X12_why_23 at h
  refine v_iload_n (pc := 23) hC dX12_why_23 rfl 1 rfl ?_
  refine v_bipush (pc := 24) (v := 6) hC dX12_why_24 (by decide) ?_
  refine v_ic_ge (pc := 26) (tgt := 39) hC dX12_why_26 (by decide) h (fun h => ?_) (fun h => ?_)
  · skip
    refine v_iconst (pc := 39) (v := 0) hC dX12_why_39 (by decide) ?_
    refine v_istore_n (pc := 40) (lv' := [(3, .int 0), (0, .ref (ad E 121))]) hC dX12_why_40 rfl (by decide) rfl ?_
    exact v_sub [1, 0] rfl (jl_X12_why_41 hC h)
  · skip
    refine v_aload_n (pc := 29) hC dX12_why_29 rfl 0 rfl ?_
    refine v_cv (pc := 30) (r_V (rest := []) hC ml_X12_289 mv_X12_goCake (c_X12_goCake l E h) ⟨rfl, rfl⟩ ⟨Nat.le_of_ble_eq_true rfl, Nat.le_of_ble_eq_true rfl⟩ kq_121 rfl (by decide) rfl rfl (Nat.le_of_ble_eq_true rfl) ⟨Nat.zero_le _, Nat.zero_le _⟩ dX12_why_30) (fun F4 h => ?_)
    refine v_iinc (pc := 33) (v := 1) hC (fun z => [(3, .int z), (0, .ref (ad E 121))]) dX12_why_33 1 rfl (by decide) (by decide) (fun _ => rfl) h (fun n5 h => ?_)
    refine v_goto (pc := 36) (tgt := 23) hC dX12_why_36 (by decide) ?_
    exact v_sub [1, 0] rfl (hK23 _ _ h)
set_option maxRecDepth 20000 in
set_option maxHeartbeats 4000000 in
theorem jl_X12_why_23 {p : Program} {l : Launch} {e : Env} {s : State} {m : MethodId} {args : Array Value} {below : List Frame} {meth : Method} {c : Code} {E : gE} (hC : CX p s m args meth c cX12_why RX12 (some .int) E 4) {Q : Int32 → gS → Prop} {F : gS} {x3 : Int32} (h : LP2 (wb_X12_why_23 Q) F x3) : VV p l e rm_X12_why s m args below meth c 0 0 (MQ below (va_Qi Q (gB E) (gA E)) args s 0 0 (gA E)) E 4 F 23 [(0, .ref (ad E 121)), (3, .int x3)] [] :=
  LP2_go (V := fun (F : gS) (x3 : Int32) => VV p l e rm_X12_why s m args below meth c 0 0 (MQ below (va_Qi Q (gB E) (gA E)) args s 0 0 (gA E)) E 4 F 23 [(0, .ref (ad E 121)), (3, .int x3)] []) (fun K23 hK23 F x3 h => jb_X12_why_23 hC hK23 h) F x3 h
set_option maxRecDepth 20000 in
set_option maxHeartbeats 4000000 in
theorem c_X12_why (l : Launch) (E : gE) {x1 : Int32} {F : gS} {Q : Int32 → gS → Prop} (h : wp_X12_why x1 F Q) : CtI l E yX12_why cX12_why 4 (some .int) rm_X12_why [.ref (ad E 121), .int x1] F Q := by
  refine ct_of (by decide) (Nat.le_of_ble_eq_true rfl) (fun p e s m below meth c hC => ?_)
  generalize ([.ref (ad E 121), .int x1] : List Value).toArray = args at hC ⊢
  refine v_sub (lv' := [(0, .ref (ad E 121)), (1, .int x1)]) [0, 1] rfl ?_
  unfold wp_X12_why at h
  refine v_aload_n (pc := 0) hC dX12_why_0 rfl 0 rfl ?_
  refine v_iload_n (pc := 1) hC dX12_why_1 rfl 1 rfl ?_
  refine v_cip (pc := 2) (r_V (rest := []) hC ml_X12_283 mv_X12_bars (c_X12_bars l E h) ⟨rfl, rfl⟩ ⟨Nat.le_of_ble_eq_true rfl, Nat.le_of_ble_eq_true rfl⟩ kq_121 rfl (by decide) rfl rfl (Nat.le_of_ble_eq_true rfl) ⟨Nat.zero_le _, Nat.zero_le _⟩ dX12_why_2) (fun r1 h => ?_)
  refine v_istore_n (pc := 5) (lv' := [(2, .int r1), (0, .ref (ad E 121)), (1, .int x1)]) hC dX12_why_5 rfl (by decide) rfl ?_
  refine v_iload_n (pc := 6) hC dX12_why_6 rfl 0 rfl ?_
  refine v_if_eq (pc := 7) (tgt := 12) hC dX12_why_7 (by decide) h (fun h => ?_) (fun h => ?_)
  · skip
    refine v_aload_n (pc := 12) hC dX12_why_12 rfl 1 rfl ?_
    refine v_cv (pc := 13) (r_V (rest := []) hC ml_X12_274 mv_X12_loadPan (c_X12_loadPan l E h) ⟨rfl, rfl⟩ ⟨Nat.le_of_ble_eq_true rfl, Nat.le_of_ble_eq_true rfl⟩ kq_121 rfl (by decide) rfl rfl (Nat.le_of_ble_eq_true rfl) ⟨Nat.zero_le _, Nat.zero_le _⟩ dX12_why_13) (fun F2 h => ?_)
    refine v_aload_n (pc := 16) hC dX12_why_16 rfl 1 rfl ?_
    refine v_iload_n (pc := 17) hC dX12_why_17 rfl 2 rfl ?_
    refine v_cv (pc := 18) (r_V (rest := []) hC ml_X12_286 mv_X12_loadPlan (c_X12_loadPlan l E h) ⟨rfl, rfl⟩ ⟨Nat.le_of_ble_eq_true rfl, Nat.le_of_ble_eq_true rfl⟩ kq_121 rfl (by decide) rfl rfl (Nat.le_of_ble_eq_true rfl) ⟨Nat.zero_le _, Nat.zero_le _⟩ dX12_why_18) (fun F3 h => ?_)
    refine v_iconst (pc := 21) (v := 0) hC dX12_why_21 (by decide) ?_
    refine v_istore_n (pc := 22) (lv' := [(3, .int 0), (2, .int r1), (0, .ref (ad E 121)), (1, .int x1)]) hC dX12_why_22 rfl (by decide) rfl ?_
    exact v_sub [2, 0] rfl (jl_X12_why_23 hC h)
  · skip
    refine v_iload_n (pc := 10) hC dX12_why_10 rfl 0 rfl ?_
    exact v_iret (pc := 11) hC dX12_why_11 h
def rm_X12_bestFire : Room := { frames := 4, cells := 0, slots := 0, locals := 92 }
def wp_X12_bestFire_113 (K46 : gS → Int32 → Int32 → Int32 → Prop) (Q : Int32 → gS → Prop) (F : gS) (x1 : Int32) (x2 : Int32) (x3 : Int32) (x6 : Int32) (x7 : Int32) (x8 : Int32) (t0 : Int32) : Prop :=
  if x8 ≤ x6 then
    (Nm (x7 + 1) fun n12 =>
    K46 F t0 x6 n12)
  else
    (Nm (x7 + 1) fun n13 =>
    K46 F t0 x8 n13)
def wb_X12_bestFire_74 (K46 : gS → Int32 → Int32 → Int32 → Prop) (Q : Int32 → gS → Prop) (x1 : Int32) (x2 : Int32) (x3 : Int32) (x5 : Int32) (x6 : Int32) (x7 : Int32) (K74 : gS → Int32 → Int32 → Prop) (F : gS) (x8 : Int32) (x9 : Int32) : Prop :=
  if x2 ≤ x9 then
    (if x8 ≤ x6 then
      (wp_X12_bestFire_113 K46 Q F x1 x2 x3 x6 x7 x8 x5)
    else
      (wp_X12_bestFire_113 K46 Q F x1 x2 x3 x6 x7 x8 x7))
  else
    (wp_X12_goCake F fun F9 =>
    Nm (x8 + (F9 121 60)) fun n10 =>
    Nm (x9 + 1) fun n11 =>
    K74 F9 n10 n11)
def wb_X12_bestFire_46 (Q : Int32 → gS → Prop) (x1 : Int32) (x2 : Int32) (x3 : Int32) (K46 : gS → Int32 → Int32 → Int32 → Prop) (F : gS) (x5 : Int32) (x6 : Int32) (x7 : Int32) : Prop :=
  if 10 ≤ x7 then
    (if x3 = 0 then
      (Q x5 F)
    else
      (Q x6 F))
  else
    (wp_X12_loadPan F fun F6 =>
    wp_X12_loadPlan x1 F6 fun F7 =>
    Nm (upF F7 121 44 x7) fun F8 =>
    LP3 (wb_X12_bestFire_74 K46 Q x1 x2 x3 x5 x6 x7) F8 0 0)
def wp_X12_bestFire (x1 : Int32) (x2 : Int32) (x3 : Int32) (F : gS) (Q : Int32 → gS → Prop) : Prop :=
  wp_X12_bars x1 F fun r1 =>
  if r1 = 0 then
    (wp_X12_within x2 1 12 F fun r2 =>
    if r2 = 0 then
      (Q (-102) F)
    else
      (wp_X12_within x3 0 1 F fun r4 =>
      if r4 = 0 then
        (Q (-102) F)
      else
        (LP4 (wb_X12_bestFire_46 Q x1 x2 x3) F 0 (-1) 1)))
  else
    (Q r1 F)
set_option maxRecDepth 20000 in
set_option maxHeartbeats 4000000 in
theorem j_X12_bestFire_113 {p : Program} {l : Launch} {e : Env} {s : State} {m : MethodId} {args : Array Value} {below : List Frame} {meth : Method} {c : Code} {E : gE} (hC : CX p s m args meth c cX12_bestFire RX12 (some .int) E 10) {Q : Int32 → gS → Prop} {F : gS} {x1 : Int32} {x2 : Int32} {x3 : Int32} {x6 : Int32} {x7 : Int32} {x8 : Int32} {t0 : Int32} {K46 : gS → Int32 → Int32 → Int32 → Prop} (hK46 : ∀ (F : gS) (x5 : Int32) (x6 : Int32) (x7 : Int32), K46 F x5 x6 x7 → VV p l e rm_X12_bestFire s m args below meth c 0 0 (MQ below (va_Qi Q (gB E) (gA E)) args s 0 0 (gA E)) E 10 F 46 [(0, .ref (ad E 121)), (1, .int x1), (2, .int x2), (3, .int x3), (5, .int x5), (6, .int x6), (7, .int x7)] []) (h : wp_X12_bestFire_113 K46 Q F x1 x2 x3 x6 x7 x8 t0) : VV p l e rm_X12_bestFire s m args below meth c 0 0 (MQ below (va_Qi Q (gB E) (gA E)) args s 0 0 (gA E)) E 10 F 113 [(0, .ref (ad E 121)), (1, .int x1), (2, .int x2), (3, .int x3), (6, .int x6), (7, .int x7), (8, .int x8)] [.int t0] := by
  unfold wp_X12_bestFire_113 at h
  refine v_istore (pc := 113) (lv' := [(5, .int t0), (0, .ref (ad E 121)), (1, .int x1), (2, .int x2), (3, .int x3), (6, .int x6), (7, .int x7), (8, .int x8)]) hC dX12_bestFire_113 (by decide) rfl ?_
  refine v_iload (pc := 115) hC dX12_bestFire_115 7 rfl ?_
  refine v_iload (pc := 117) hC dX12_bestFire_117 5 rfl ?_
  refine v_ic_le (pc := 119) (tgt := 127) hC dX12_bestFire_119 (by decide) h (fun h => ?_) (fun h => ?_)
  · skip
    refine v_iload (pc := 127) hC dX12_bestFire_127 5 rfl ?_
    refine v_istore (pc := 129) (lv' := [(6, .int x6), (5, .int t0), (0, .ref (ad E 121)), (1, .int x1), (2, .int x2), (3, .int x3), (7, .int x7), (8, .int x8)]) hC dX12_bestFire_129 (by decide) rfl ?_
    refine v_iinc (pc := 131) (v := 1) hC (fun z => [(7, .int z), (6, .int x6), (5, .int t0), (0, .ref (ad E 121)), (1, .int x1), (2, .int x2), (3, .int x3), (8, .int x8)]) dX12_bestFire_131 6 rfl (by decide) (by decide) (fun _ => rfl) h (fun n12 h => ?_)
    refine v_goto (pc := 134) (tgt := 46) hC dX12_bestFire_134 (by decide) ?_
    exact v_sub [3, 4, 5, 6, 2, 1, 0] rfl (hK46 _ _ _ _ h)
  · skip
    refine v_iload (pc := 122) hC dX12_bestFire_122 7 rfl ?_
    refine v_goto (pc := 124) (tgt := 129) hC dX12_bestFire_124 (by decide) ?_
    refine v_istore (pc := 129) (lv' := [(6, .int x8), (5, .int t0), (0, .ref (ad E 121)), (1, .int x1), (2, .int x2), (3, .int x3), (7, .int x7), (8, .int x8)]) hC dX12_bestFire_129 (by decide) rfl ?_
    refine v_iinc (pc := 131) (v := 1) hC (fun z => [(7, .int z), (6, .int x8), (5, .int t0), (0, .ref (ad E 121)), (1, .int x1), (2, .int x2), (3, .int x3), (8, .int x8)]) dX12_bestFire_131 6 rfl (by decide) (by decide) (fun _ => rfl) h (fun n13 h => ?_)
    refine v_goto (pc := 134) (tgt := 46) hC dX12_bestFire_134 (by decide) ?_
    exact v_sub [3, 4, 5, 6, 2, 1, 0] rfl (hK46 _ _ _ _ h)
set_option maxRecDepth 20000 in
set_option maxHeartbeats 4000000 in
theorem jb_X12_bestFire_74 {p : Program} {l : Launch} {e : Env} {s : State} {m : MethodId} {args : Array Value} {below : List Frame} {meth : Method} {c : Code} {E : gE} (hC : CX p s m args meth c cX12_bestFire RX12 (some .int) E 10) {Q : Int32 → gS → Prop} {F : gS} {x1 : Int32} {x2 : Int32} {x3 : Int32} {x5 : Int32} {x6 : Int32} {x7 : Int32} {x8 : Int32} {x9 : Int32} {K46 : gS → Int32 → Int32 → Int32 → Prop} (hK46 : ∀ (F : gS) (x5 : Int32) (x6 : Int32) (x7 : Int32), K46 F x5 x6 x7 → VV p l e rm_X12_bestFire s m args below meth c 0 0 (MQ below (va_Qi Q (gB E) (gA E)) args s 0 0 (gA E)) E 10 F 46 [(0, .ref (ad E 121)), (1, .int x1), (2, .int x2), (3, .int x3), (5, .int x5), (6, .int x6), (7, .int x7)] []) {K74 : gS → Int32 → Int32 → Prop} (hK74 : ∀ (F : gS) (x8 : Int32) (x9 : Int32), K74 F x8 x9 → VV p l e rm_X12_bestFire s m args below meth c 0 0 (MQ below (va_Qi Q (gB E) (gA E)) args s 0 0 (gA E)) E 10 F 74 [(0, .ref (ad E 121)), (1, .int x1), (2, .int x2), (3, .int x3), (5, .int x5), (6, .int x6), (7, .int x7), (8, .int x8), (9, .int x9)] []) (h : wb_X12_bestFire_74 K46 Q x1 x2 x3 x5 x6 x7 K74 F x8 x9) : VV p l e rm_X12_bestFire s m args below meth c 0 0 (MQ below (va_Qi Q (gB E) (gA E)) args s 0 0 (gA E)) E 10 F 74 [(0, .ref (ad E 121)), (1, .int x1), (2, .int x2), (3, .int x3), (5, .int x5), (6, .int x6), (7, .int x7), (8, .int x8), (9, .int x9)] [] := by
  unfold wb_X12_bestFire_74 at h
  refine v_iload (pc := 74) hC dX12_bestFire_74 8 rfl ?_
  refine v_iload_n (pc := 76) hC dX12_bestFire_76 rfl 2 rfl ?_
  refine v_ic_ge (pc := 77) (tgt := 99) hC dX12_bestFire_77 (by decide) h (fun h => ?_) (fun h => ?_)
  · skip
    refine v_iload (pc := 99) hC dX12_bestFire_99 7 rfl ?_
    refine v_iload (pc := 101) hC dX12_bestFire_101 5 rfl ?_
    refine v_ic_le (pc := 103) (tgt := 111) hC dX12_bestFire_103 (by decide) h (fun h => ?_) (fun h => ?_)
    · skip
      refine v_iload (pc := 111) hC dX12_bestFire_111 4 rfl ?_
      exact v_sub [0, 1, 2, 3, 5, 6, 7] rfl (j_X12_bestFire_113 hC hK46 h)
    · skip
      refine v_iload (pc := 106) hC dX12_bestFire_106 6 rfl ?_
      refine v_goto (pc := 108) (tgt := 113) hC dX12_bestFire_108 (by decide) ?_
      exact v_sub [0, 1, 2, 3, 5, 6, 7] rfl (j_X12_bestFire_113 hC hK46 h)
  · skip
    refine v_aload_n (pc := 80) hC dX12_bestFire_80 rfl 0 rfl ?_
    refine v_cv (pc := 81) (r_V (rest := []) hC ml_X12_289 mv_X12_goCake (c_X12_goCake l E h) ⟨rfl, rfl⟩ ⟨Nat.le_of_ble_eq_true rfl, Nat.le_of_ble_eq_true rfl⟩ kq_121 rfl (by decide) rfl rfl (Nat.le_of_ble_eq_true rfl) ⟨Nat.zero_le _, Nat.zero_le _⟩ dX12_bestFire_81) (fun F9 h => ?_)
    refine v_iload (pc := 84) hC dX12_bestFire_84 7 rfl ?_
    refine v_aload_n (pc := 86) hC dX12_bestFire_86 rfl 0 rfl ?_
    refine v_get (pc := 87) (v := .int (F9 121 60)) hC fl_X12_261 kq_121 rfl dX12_bestFire_87 ?_
    refine v_iadd (pc := 90) hC dX12_bestFire_90 ?_
    refine v_nmi h (fun n10 h => ?_)
    refine v_istore (pc := 91) (lv' := [(8, .int n10), (0, .ref (ad E 121)), (1, .int x1), (2, .int x2), (3, .int x3), (5, .int x5), (6, .int x6), (7, .int x7), (9, .int x9)]) hC dX12_bestFire_91 (by decide) rfl ?_
    refine v_iinc (pc := 93) (v := 1) hC (fun z => [(9, .int z), (8, .int n10), (0, .ref (ad E 121)), (1, .int x1), (2, .int x2), (3, .int x3), (5, .int x5), (6, .int x6), (7, .int x7)]) dX12_bestFire_93 8 rfl (by decide) (by decide) (fun _ => rfl) h (fun n11 h => ?_)
    refine v_goto (pc := 96) (tgt := 74) hC dX12_bestFire_96 (by decide) ?_
    exact v_sub [2, 3, 4, 5, 6, 7, 8, 1, 0] rfl (hK74 _ _ _ h)
set_option maxRecDepth 20000 in
set_option maxHeartbeats 4000000 in
theorem jl_X12_bestFire_74 {p : Program} {l : Launch} {e : Env} {s : State} {m : MethodId} {args : Array Value} {below : List Frame} {meth : Method} {c : Code} {E : gE} (hC : CX p s m args meth c cX12_bestFire RX12 (some .int) E 10) {Q : Int32 → gS → Prop} {F : gS} {x1 : Int32} {x2 : Int32} {x3 : Int32} {x5 : Int32} {x6 : Int32} {x7 : Int32} {x8 : Int32} {x9 : Int32} {K46 : gS → Int32 → Int32 → Int32 → Prop} (hK46 : ∀ (F : gS) (x5 : Int32) (x6 : Int32) (x7 : Int32), K46 F x5 x6 x7 → VV p l e rm_X12_bestFire s m args below meth c 0 0 (MQ below (va_Qi Q (gB E) (gA E)) args s 0 0 (gA E)) E 10 F 46 [(0, .ref (ad E 121)), (1, .int x1), (2, .int x2), (3, .int x3), (5, .int x5), (6, .int x6), (7, .int x7)] []) (h : LP3 (wb_X12_bestFire_74 K46 Q x1 x2 x3 x5 x6 x7) F x8 x9) : VV p l e rm_X12_bestFire s m args below meth c 0 0 (MQ below (va_Qi Q (gB E) (gA E)) args s 0 0 (gA E)) E 10 F 74 [(0, .ref (ad E 121)), (1, .int x1), (2, .int x2), (3, .int x3), (5, .int x5), (6, .int x6), (7, .int x7), (8, .int x8), (9, .int x9)] [] :=
  LP3_go (V := fun (F : gS) (x8 : Int32) (x9 : Int32) => VV p l e rm_X12_bestFire s m args below meth c 0 0 (MQ below (va_Qi Q (gB E) (gA E)) args s 0 0 (gA E)) E 10 F 74 [(0, .ref (ad E 121)), (1, .int x1), (2, .int x2), (3, .int x3), (5, .int x5), (6, .int x6), (7, .int x7), (8, .int x8), (9, .int x9)] []) (fun K74 hK74 F x8 x9 h => jb_X12_bestFire_74 hC hK46 hK74 h) F x8 x9 h
set_option maxRecDepth 20000 in
set_option maxHeartbeats 4000000 in
theorem jb_X12_bestFire_46 {p : Program} {l : Launch} {e : Env} {s : State} {m : MethodId} {args : Array Value} {below : List Frame} {meth : Method} {c : Code} {E : gE} (hC : CX p s m args meth c cX12_bestFire RX12 (some .int) E 10) {Q : Int32 → gS → Prop} {F : gS} {x1 : Int32} {x2 : Int32} {x3 : Int32} {x5 : Int32} {x6 : Int32} {x7 : Int32} {K46 : gS → Int32 → Int32 → Int32 → Prop} (hK46 : ∀ (F : gS) (x5 : Int32) (x6 : Int32) (x7 : Int32), K46 F x5 x6 x7 → VV p l e rm_X12_bestFire s m args below meth c 0 0 (MQ below (va_Qi Q (gB E) (gA E)) args s 0 0 (gA E)) E 10 F 46 [(0, .ref (ad E 121)), (1, .int x1), (2, .int x2), (3, .int x3), (5, .int x5), (6, .int x6), (7, .int x7)] []) (h : wb_X12_bestFire_46 Q x1 x2 x3 K46 F x5 x6 x7) : VV p l e rm_X12_bestFire s m args below meth c 0 0 (MQ below (va_Qi Q (gB E) (gA E)) args s 0 0 (gA E)) E 10 F 46 [(0, .ref (ad E 121)), (1, .int x1), (2, .int x2), (3, .int x3), (5, .int x5), (6, .int x6), (7, .int x7)] [] := by
  unfold wb_X12_bestFire_46 at h
  refine v_iload (pc := 46) hC dX12_bestFire_46 6 rfl ?_
  refine v_bipush (pc := 48) (v := 10) hC dX12_bestFire_48 (by decide) ?_
  refine v_ic_ge (pc := 50) (tgt := 137) hC dX12_bestFire_50 (by decide) h (fun h => ?_) (fun h => ?_)
  · skip
    refine v_iload_n (pc := 137) hC dX12_bestFire_137 rfl 3 rfl ?_
    refine v_if_ne (pc := 138) (tgt := 146) hC dX12_bestFire_138 (by decide) h (fun h => ?_) (fun h => ?_)
    · skip
      refine v_iload (pc := 146) hC dX12_bestFire_146 5 rfl ?_
      exact v_iret (pc := 148) hC dX12_bestFire_148 h
    · skip
      refine v_iload (pc := 141) hC dX12_bestFire_141 4 rfl ?_
      refine v_goto (pc := 143) (tgt := 148) hC dX12_bestFire_143 (by decide) ?_
      exact v_iret (pc := 148) hC dX12_bestFire_148 h
  · skip
    refine v_aload_n (pc := 53) hC dX12_bestFire_53 rfl 0 rfl ?_
    refine v_cv (pc := 54) (r_V (rest := []) hC ml_X12_274 mv_X12_loadPan (c_X12_loadPan l E h) ⟨rfl, rfl⟩ ⟨Nat.le_of_ble_eq_true rfl, Nat.le_of_ble_eq_true rfl⟩ kq_121 rfl (by decide) rfl rfl (Nat.le_of_ble_eq_true rfl) ⟨Nat.zero_le _, Nat.zero_le _⟩ dX12_bestFire_54) (fun F6 h => ?_)
    refine v_aload_n (pc := 57) hC dX12_bestFire_57 rfl 0 rfl ?_
    refine v_iload_n (pc := 58) hC dX12_bestFire_58 rfl 1 rfl ?_
    refine v_cv (pc := 59) (r_V (rest := []) hC ml_X12_286 mv_X12_loadPlan (c_X12_loadPlan l E h) ⟨rfl, rfl⟩ ⟨Nat.le_of_ble_eq_true rfl, Nat.le_of_ble_eq_true rfl⟩ kq_121 rfl (by decide) rfl rfl (Nat.le_of_ble_eq_true rfl) ⟨Nat.zero_le _, Nat.zero_le _⟩ dX12_bestFire_59) (fun F7 h => ?_)
    refine v_aload_n (pc := 62) hC dX12_bestFire_62 rfl 0 rfl ?_
    refine v_iload (pc := 63) hC dX12_bestFire_63 6 rfl ?_
    refine v_puti (pc := 65) hC fp_X12_215 kq_121 (fs_10_44 E _ _ _) (fn_10_44 E _ _) dX12_bestFire_65 h (fun F8 h => ?_)
    refine v_iconst (pc := 68) (v := 0) hC dX12_bestFire_68 (by decide) ?_
    refine v_istore (pc := 69) (lv' := [(8, .int 0), (0, .ref (ad E 121)), (1, .int x1), (2, .int x2), (3, .int x3), (5, .int x5), (6, .int x6), (7, .int x7)]) hC dX12_bestFire_69 (by decide) rfl ?_
    refine v_iconst (pc := 71) (v := 0) hC dX12_bestFire_71 (by decide) ?_
    refine v_istore (pc := 72) (lv' := [(9, .int 0), (8, .int 0), (0, .ref (ad E 121)), (1, .int x1), (2, .int x2), (3, .int x3), (5, .int x5), (6, .int x6), (7, .int x7)]) hC dX12_bestFire_72 (by decide) rfl ?_
    exact v_sub [2, 3, 4, 5, 6, 7, 8, 1, 0] rfl (jl_X12_bestFire_74 hC hK46 h)
set_option maxRecDepth 20000 in
set_option maxHeartbeats 4000000 in
theorem jl_X12_bestFire_46 {p : Program} {l : Launch} {e : Env} {s : State} {m : MethodId} {args : Array Value} {below : List Frame} {meth : Method} {c : Code} {E : gE} (hC : CX p s m args meth c cX12_bestFire RX12 (some .int) E 10) {Q : Int32 → gS → Prop} {F : gS} {x1 : Int32} {x2 : Int32} {x3 : Int32} {x5 : Int32} {x6 : Int32} {x7 : Int32} (h : LP4 (wb_X12_bestFire_46 Q x1 x2 x3) F x5 x6 x7) : VV p l e rm_X12_bestFire s m args below meth c 0 0 (MQ below (va_Qi Q (gB E) (gA E)) args s 0 0 (gA E)) E 10 F 46 [(0, .ref (ad E 121)), (1, .int x1), (2, .int x2), (3, .int x3), (5, .int x5), (6, .int x6), (7, .int x7)] [] :=
  LP4_go (V := fun (F : gS) (x5 : Int32) (x6 : Int32) (x7 : Int32) => VV p l e rm_X12_bestFire s m args below meth c 0 0 (MQ below (va_Qi Q (gB E) (gA E)) args s 0 0 (gA E)) E 10 F 46 [(0, .ref (ad E 121)), (1, .int x1), (2, .int x2), (3, .int x3), (5, .int x5), (6, .int x6), (7, .int x7)] []) (fun K46 hK46 F x5 x6 x7 h => jb_X12_bestFire_46 hC hK46 h) F x5 x6 x7 h
set_option maxRecDepth 20000 in
set_option maxHeartbeats 4000000 in
theorem c_X12_bestFire (l : Launch) (E : gE) {x1 : Int32} {x2 : Int32} {x3 : Int32} {F : gS} {Q : Int32 → gS → Prop} (h : wp_X12_bestFire x1 x2 x3 F Q) : CtI l E yX12_bestFire cX12_bestFire 10 (some .int) rm_X12_bestFire [.ref (ad E 121), .int x1, .int x2, .int x3] F Q := by
  refine ct_of (by decide) (Nat.le_of_ble_eq_true rfl) (fun p e s m below meth c hC => ?_)
  generalize ([.ref (ad E 121), .int x1, .int x2, .int x3] : List Value).toArray = args at hC ⊢
  refine v_sub (lv' := [(0, .ref (ad E 121)), (1, .int x1), (2, .int x2), (3, .int x3)]) [0, 1, 2, 3] rfl ?_
  unfold wp_X12_bestFire at h
  refine v_aload_n (pc := 0) hC dX12_bestFire_0 rfl 0 rfl ?_
  refine v_iload_n (pc := 1) hC dX12_bestFire_1 rfl 1 rfl ?_
  refine v_cip (pc := 2) (r_V (rest := []) hC ml_X12_283 mv_X12_bars (c_X12_bars l E h) ⟨rfl, rfl⟩ ⟨Nat.le_of_ble_eq_true rfl, Nat.le_of_ble_eq_true rfl⟩ kq_121 rfl (by decide) rfl rfl (Nat.le_of_ble_eq_true rfl) ⟨Nat.zero_le _, Nat.zero_le _⟩ dX12_bestFire_2) (fun r1 h => ?_)
  refine v_istore (pc := 5) (lv' := [(4, .int r1), (0, .ref (ad E 121)), (1, .int x1), (2, .int x2), (3, .int x3)]) hC dX12_bestFire_5 (by decide) rfl ?_
  refine v_iload (pc := 7) hC dX12_bestFire_7 0 rfl ?_
  refine v_if_eq (pc := 9) (tgt := 15) hC dX12_bestFire_9 (by decide) h (fun h => ?_) (fun h => ?_)
  · skip
    refine v_iload_n (pc := 15) hC dX12_bestFire_15 rfl 3 rfl ?_
    refine v_iconst (pc := 16) (v := 1) hC dX12_bestFire_16 (by decide) ?_
    refine v_bipush (pc := 17) (v := 12) hC dX12_bestFire_17 (by decide) ?_
    refine v_cyp (pc := 19) (r_S (rest := []) hC ml_X12_102 ms_X12_within (c_X12_within l E h) ⟨rfl, rfl⟩ ⟨Nat.le_of_ble_eq_true rfl, Nat.le_of_ble_eq_true rfl⟩ rfl rfl (Nat.le_of_ble_eq_true rfl) ⟨Nat.zero_le _, Nat.zero_le _⟩ dX12_bestFire_19) (fun r2 b3 h => ?_)
    refine v_if_eq (pc := 22) (tgt := 34) hC dX12_bestFire_22 (by decide) h (fun h => ?_) (fun h => ?_)
    · skip
      refine v_bipush (pc := 34) (v := (-102)) hC dX12_bestFire_34 (by decide) ?_
      exact v_iret (pc := 36) hC dX12_bestFire_36 h
    · skip
      refine v_iload_n (pc := 25) hC dX12_bestFire_25 rfl 4 rfl ?_
      refine v_iconst (pc := 26) (v := 0) hC dX12_bestFire_26 (by decide) ?_
      refine v_iconst (pc := 27) (v := 1) hC dX12_bestFire_27 (by decide) ?_
      refine v_cyp (pc := 28) (r_S (rest := []) hC ml_X12_102 ms_X12_within (c_X12_within l E h) ⟨rfl, rfl⟩ ⟨Nat.le_of_ble_eq_true rfl, Nat.le_of_ble_eq_true rfl⟩ rfl rfl (Nat.le_of_ble_eq_true rfl) ⟨Nat.zero_le _, Nat.zero_le _⟩ dX12_bestFire_28) (fun r4 b5 h => ?_)
      refine v_if_ne (pc := 31) (tgt := 37) hC dX12_bestFire_31 (by decide) h (fun h => ?_) (fun h => ?_)
      · skip
        refine v_iconst (pc := 37) (v := 0) hC dX12_bestFire_37 (by decide) ?_
        refine v_istore (pc := 38) (lv' := [(5, .int 0), (4, .int r1), (0, .ref (ad E 121)), (1, .int x1), (2, .int x2), (3, .int x3)]) hC dX12_bestFire_38 (by decide) rfl ?_
        refine v_iconst (pc := 40) (v := (-1)) hC dX12_bestFire_40 (by decide) ?_
        refine v_istore (pc := 41) (lv' := [(6, .int (-1)), (5, .int 0), (4, .int r1), (0, .ref (ad E 121)), (1, .int x1), (2, .int x2), (3, .int x3)]) hC dX12_bestFire_41 (by decide) rfl ?_
        refine v_iconst (pc := 43) (v := 1) hC dX12_bestFire_43 (by decide) ?_
        refine v_istore (pc := 44) (lv' := [(7, .int 1), (6, .int (-1)), (5, .int 0), (4, .int r1), (0, .ref (ad E 121)), (1, .int x1), (2, .int x2), (3, .int x3)]) hC dX12_bestFire_44 (by decide) rfl ?_
        exact v_sub [4, 5, 6, 7, 2, 1, 0] rfl (jl_X12_bestFire_46 hC h)
      · skip
        refine v_bipush (pc := 34) (v := (-102)) hC dX12_bestFire_34 (by decide) ?_
        exact v_iret (pc := 36) hC dX12_bestFire_36 h
  · skip
    refine v_iload (pc := 12) hC dX12_bestFire_12 0 rfl ?_
    exact v_iret (pc := 14) hC dX12_bestFire_14 h
def rm_X12_bestSwing : Room := { frames := 4, cells := 0, slots := 0, locals := 92 }
def wp_X12_bestSwing_147 (K68 : gS → Int32 → Int32 → Int32 → Prop) (Q : Int32 → gS → Prop) (F : gS) (x1 : Int32) (x2 : Int32) (x3 : Int32) (x6 : Int32) (x7 : Int32) (t0 : Int32) : Prop :=
  if x6 ≤ (F 121 57) then
    (Nm (x7 + 1) fun n13 =>
    K68 F t0 x6 n13)
  else
    (Nm (F 121 57) fun n14 =>
    Nm (x7 + 1) fun n15 =>
    K68 F t0 n14 n15)
def wp_X12_bestSwing_127 (K68 : gS → Int32 → Int32 → Int32 → Prop) (Q : Int32 → gS → Prop) (F : gS) (x1 : Int32) (x2 : Int32) (x3 : Int32) (x5 : Int32) (x6 : Int32) (x7 : Int32) : Prop :=
  wp_X12_goCake F fun F12 =>
  if x6 ≤ (F12 121 57) then
    (wp_X12_bestSwing_147 K68 Q F12 x1 x2 x3 x6 x7 x5)
  else
    (wp_X12_bestSwing_147 K68 Q F12 x1 x2 x3 x6 x7 x7)
def wb_X12_bestSwing_95 (K68 : gS → Int32 → Int32 → Int32 → Prop) (Q : Int32 → gS → Prop) (x1 : Int32) (x2 : Int32) (x3 : Int32) (x5 : Int32) (x6 : Int32) (x7 : Int32) (K95 : gS → Int32 → Prop) (F : gS) (x8 : Int32) : Prop :=
  if x2 ≤ x8 then
    (wp_X12_bestSwing_127 K68 Q F x1 x2 x3 x5 x6 x7)
  else
    (vp_in x8 6 ∧ Nm (upF F 142 x8.toNatClampNeg ((x7 >>> ((2 * ((x2 - 1) - x8)) &&& 31)) &&& 3)) fun F10 =>
    Nm (x8 + 1) fun n11 =>
    K95 F10 n11)
def wp_X12_bestSwing_175 (Q : Int32 → gS → Prop) (F : gS) (x2 : Int32) (x3 : Int32) (x5 : Int32) (x6 : Int32) : Prop :=
  if x3 = 3 then
    (Q x6 F)
  else
    (if x2 ≤ x3 then
      (Q (-1) F)
    else
      (Q ((x5 >>> ((2 * ((x2 - 1) - x3)) &&& 31)) &&& 3) F))
def wb_X12_bestSwing_68 (Q : Int32 → gS → Prop) (x1 : Int32) (x2 : Int32) (x3 : Int32) (K68 : gS → Int32 → Int32 → Int32 → Prop) (F : gS) (x5 : Int32) (x6 : Int32) (x7 : Int32) : Prop :=
  if (1 <<< ((2 * x2) &&& 31)) ≤ x7 then
    (wp_X12_bestSwing_175 Q F x2 x3 x5 x6)
  else
    (wp_X12_loadPan F fun F7 =>
    wp_X12_loadPlan x1 F7 fun F8 =>
    Nm (upF F8 121 48 x2) fun F9 =>
    LP2 (wb_X12_bestSwing_95 K68 Q x1 x2 x3 x5 x6 x7) F9 0)
def wp_X12_bestSwing (x1 : Int32) (x2 : Int32) (x3 : Int32) (F : gS) (Q : Int32 → gS → Prop) : Prop :=
  wp_X12_bars x1 F fun r1 =>
  if r1 = 0 then
    (wp_X12_within x2 1 3 F fun r2 =>
    if r2 = 0 then
      (Q (-102) F)
    else
      (wp_X12_within x3 0 3 F fun r4 =>
      if r4 = 0 then
        (Q (-102) F)
      else
        (if (F 121 18) = 30 then
          (Q (-103) F)
        else
          (Nm (upF F 121 18 ((F 121 18) + 1)) fun F6 =>
          LP4 (wb_X12_bestSwing_68 Q x1 x2 x3) F6 0 268435456 0))))
  else
    (Q r1 F)
set_option maxRecDepth 20000 in
set_option maxHeartbeats 4000000 in
theorem j_X12_bestSwing_147 {p : Program} {l : Launch} {e : Env} {s : State} {m : MethodId} {args : Array Value} {below : List Frame} {meth : Method} {c : Code} {E : gE} (hC : CX p s m args meth c cX12_bestSwing RX12 (some .int) E 9) {Q : Int32 → gS → Prop} {F : gS} {x1 : Int32} {x2 : Int32} {x3 : Int32} {x6 : Int32} {x7 : Int32} {t0 : Int32} {K68 : gS → Int32 → Int32 → Int32 → Prop} (hK68 : ∀ (F : gS) (x5 : Int32) (x6 : Int32) (x7 : Int32), K68 F x5 x6 x7 → VV p l e rm_X12_bestSwing s m args below meth c 0 0 (MQ below (va_Qi Q (gB E) (gA E)) args s 0 0 (gA E)) E 9 F 68 [(0, .ref (ad E 121)), (1, .int x1), (2, .int x2), (3, .int x3), (5, .int x5), (6, .int x6), (7, .int x7)] []) (h : wp_X12_bestSwing_147 K68 Q F x1 x2 x3 x6 x7 t0) : VV p l e rm_X12_bestSwing s m args below meth c 0 0 (MQ below (va_Qi Q (gB E) (gA E)) args s 0 0 (gA E)) E 9 F 147 [(0, .ref (ad E 121)), (1, .int x1), (2, .int x2), (3, .int x3), (6, .int x6), (7, .int x7)] [.int t0] := by
  unfold wp_X12_bestSwing_147 at h
  refine v_istore (pc := 147) (lv' := [(5, .int t0), (0, .ref (ad E 121)), (1, .int x1), (2, .int x2), (3, .int x3), (6, .int x6), (7, .int x7)]) hC dX12_bestSwing_147 (by decide) rfl ?_
  refine v_aload_n (pc := 149) hC dX12_bestSwing_149 rfl 1 rfl ?_
  refine v_get (pc := 150) (v := .int (F 121 57)) hC fl_X12_252 kq_121 rfl dX12_bestSwing_150 ?_
  refine v_iload (pc := 153) hC dX12_bestSwing_153 5 rfl ?_
  refine v_ic_ge (pc := 155) (tgt := 165) hC dX12_bestSwing_155 (by decide) h (fun h => ?_) (fun h => ?_)
  · skip
    refine v_iload (pc := 165) hC dX12_bestSwing_165 5 rfl ?_
    refine v_istore (pc := 167) (lv' := [(6, .int x6), (5, .int t0), (0, .ref (ad E 121)), (1, .int x1), (2, .int x2), (3, .int x3), (7, .int x7)]) hC dX12_bestSwing_167 (by decide) rfl ?_
    refine v_iinc (pc := 169) (v := 1) hC (fun z => [(7, .int z), (6, .int x6), (5, .int t0), (0, .ref (ad E 121)), (1, .int x1), (2, .int x2), (3, .int x3)]) dX12_bestSwing_169 6 rfl (by decide) (by decide) (fun _ => rfl) h (fun n13 h => ?_)
    refine v_goto (pc := 172) (tgt := 68) hC dX12_bestSwing_172 (by decide) ?_
    exact v_sub [3, 4, 5, 6, 2, 1, 0] rfl (hK68 _ _ _ _ h)
  · skip
    refine v_aload_n (pc := 158) hC dX12_bestSwing_158 rfl 1 rfl ?_
    refine v_get (pc := 159) (v := .int (F 121 57)) hC fl_X12_252 kq_121 rfl dX12_bestSwing_159 ?_
    refine v_goto (pc := 162) (tgt := 167) hC dX12_bestSwing_162 (by decide) ?_
    refine v_nmi h (fun n14 h => ?_)
    refine v_istore (pc := 167) (lv' := [(6, .int n14), (5, .int t0), (0, .ref (ad E 121)), (1, .int x1), (2, .int x2), (3, .int x3), (7, .int x7)]) hC dX12_bestSwing_167 (by decide) rfl ?_
    refine v_iinc (pc := 169) (v := 1) hC (fun z => [(7, .int z), (6, .int n14), (5, .int t0), (0, .ref (ad E 121)), (1, .int x1), (2, .int x2), (3, .int x3)]) dX12_bestSwing_169 6 rfl (by decide) (by decide) (fun _ => rfl) h (fun n15 h => ?_)
    refine v_goto (pc := 172) (tgt := 68) hC dX12_bestSwing_172 (by decide) ?_
    exact v_sub [3, 4, 5, 6, 2, 1, 0] rfl (hK68 _ _ _ _ h)
set_option maxRecDepth 20000 in
set_option maxHeartbeats 4000000 in
theorem j_X12_bestSwing_127 {p : Program} {l : Launch} {e : Env} {s : State} {m : MethodId} {args : Array Value} {below : List Frame} {meth : Method} {c : Code} {E : gE} (hC : CX p s m args meth c cX12_bestSwing RX12 (some .int) E 9) {Q : Int32 → gS → Prop} {F : gS} {x1 : Int32} {x2 : Int32} {x3 : Int32} {x5 : Int32} {x6 : Int32} {x7 : Int32} {K68 : gS → Int32 → Int32 → Int32 → Prop} (hK68 : ∀ (F : gS) (x5 : Int32) (x6 : Int32) (x7 : Int32), K68 F x5 x6 x7 → VV p l e rm_X12_bestSwing s m args below meth c 0 0 (MQ below (va_Qi Q (gB E) (gA E)) args s 0 0 (gA E)) E 9 F 68 [(0, .ref (ad E 121)), (1, .int x1), (2, .int x2), (3, .int x3), (5, .int x5), (6, .int x6), (7, .int x7)] []) (h : wp_X12_bestSwing_127 K68 Q F x1 x2 x3 x5 x6 x7) : VV p l e rm_X12_bestSwing s m args below meth c 0 0 (MQ below (va_Qi Q (gB E) (gA E)) args s 0 0 (gA E)) E 9 F 127 [(0, .ref (ad E 121)), (1, .int x1), (2, .int x2), (3, .int x3), (5, .int x5), (6, .int x6), (7, .int x7)] [] := by
  unfold wp_X12_bestSwing_127 at h
  refine v_aload_n (pc := 127) hC dX12_bestSwing_127 rfl 0 rfl ?_
  refine v_cv (pc := 128) (r_V (rest := []) hC ml_X12_289 mv_X12_goCake (c_X12_goCake l E h) ⟨rfl, rfl⟩ ⟨Nat.le_of_ble_eq_true rfl, Nat.le_of_ble_eq_true rfl⟩ kq_121 rfl (by decide) rfl rfl (Nat.le_of_ble_eq_true rfl) ⟨Nat.zero_le _, Nat.zero_le _⟩ dX12_bestSwing_128) (fun F12 h => ?_)
  refine v_aload_n (pc := 131) hC dX12_bestSwing_131 rfl 0 rfl ?_
  refine v_get (pc := 132) (v := .int (F12 121 57)) hC fl_X12_252 kq_121 rfl dX12_bestSwing_132 ?_
  refine v_iload (pc := 135) hC dX12_bestSwing_135 5 rfl ?_
  refine v_ic_ge (pc := 137) (tgt := 145) hC dX12_bestSwing_137 (by decide) h (fun h => ?_) (fun h => ?_)
  · skip
    refine v_iload (pc := 145) hC dX12_bestSwing_145 4 rfl ?_
    exact v_sub [0, 1, 2, 3, 5, 6] rfl (j_X12_bestSwing_147 hC hK68 h)
  · skip
    refine v_iload (pc := 140) hC dX12_bestSwing_140 6 rfl ?_
    refine v_goto (pc := 142) (tgt := 147) hC dX12_bestSwing_142 (by decide) ?_
    exact v_sub [0, 1, 2, 3, 5, 6] rfl (j_X12_bestSwing_147 hC hK68 h)
set_option maxRecDepth 20000 in
set_option maxHeartbeats 4000000 in
theorem jb_X12_bestSwing_95 {p : Program} {l : Launch} {e : Env} {s : State} {m : MethodId} {args : Array Value} {below : List Frame} {meth : Method} {c : Code} {E : gE} (hC : CX p s m args meth c cX12_bestSwing RX12 (some .int) E 9) {Q : Int32 → gS → Prop} {F : gS} {x1 : Int32} {x2 : Int32} {x3 : Int32} {x5 : Int32} {x6 : Int32} {x7 : Int32} {x8 : Int32} {K68 : gS → Int32 → Int32 → Int32 → Prop} (hK68 : ∀ (F : gS) (x5 : Int32) (x6 : Int32) (x7 : Int32), K68 F x5 x6 x7 → VV p l e rm_X12_bestSwing s m args below meth c 0 0 (MQ below (va_Qi Q (gB E) (gA E)) args s 0 0 (gA E)) E 9 F 68 [(0, .ref (ad E 121)), (1, .int x1), (2, .int x2), (3, .int x3), (5, .int x5), (6, .int x6), (7, .int x7)] []) {K95 : gS → Int32 → Prop} (hK95 : ∀ (F : gS) (x8 : Int32), K95 F x8 → VV p l e rm_X12_bestSwing s m args below meth c 0 0 (MQ below (va_Qi Q (gB E) (gA E)) args s 0 0 (gA E)) E 9 F 95 [(0, .ref (ad E 121)), (1, .int x1), (2, .int x2), (3, .int x3), (5, .int x5), (6, .int x6), (7, .int x7), (8, .int x8)] []) (h : wb_X12_bestSwing_95 K68 Q x1 x2 x3 x5 x6 x7 K95 F x8) : VV p l e rm_X12_bestSwing s m args below meth c 0 0 (MQ below (va_Qi Q (gB E) (gA E)) args s 0 0 (gA E)) E 9 F 95 [(0, .ref (ad E 121)), (1, .int x1), (2, .int x2), (3, .int x3), (5, .int x5), (6, .int x6), (7, .int x7), (8, .int x8)] [] := by
  unfold wb_X12_bestSwing_95 at h
  refine v_iload (pc := 95) hC dX12_bestSwing_95 7 rfl ?_
  refine v_iload_n (pc := 97) hC dX12_bestSwing_97 rfl 2 rfl ?_
  refine v_ic_ge (pc := 98) (tgt := 127) hC dX12_bestSwing_98 (by decide) h (fun h => ?_) (fun h => ?_)
  · skip
    exact v_sub [0, 1, 2, 3, 4, 5, 6] rfl (j_X12_bestSwing_127 hC hK68 h)
  · skip
    refine v_aload_n (pc := 101) hC dX12_bestSwing_101 rfl 0 rfl ?_
    refine v_get (pc := 102) (v := .ref (ad E 142)) hC fl_X12_72 kq_121 rfl dX12_bestSwing_102 ?_
    refine v_iload (pc := 105) hC dX12_bestSwing_105 7 rfl ?_
    refine v_iload (pc := 107) hC dX12_bestSwing_107 6 rfl ?_
    refine v_iconst (pc := 109) (v := 2) hC dX12_bestSwing_109 (by decide) ?_
    refine v_iload_n (pc := 110) hC dX12_bestSwing_110 rfl 2 rfl ?_
    refine v_iconst (pc := 111) (v := 1) hC dX12_bestSwing_111 (by decide) ?_
    refine v_isub (pc := 112) hC dX12_bestSwing_112 ?_
    refine v_iload (pc := 113) hC dX12_bestSwing_113 7 rfl ?_
    refine v_isub (pc := 115) hC dX12_bestSwing_115 ?_
    refine v_imul (pc := 116) hC dX12_bestSwing_116 ?_
    refine v_ishr (pc := 117) hC dX12_bestSwing_117 ?_
    refine v_iconst (pc := 118) (v := 3) hC dX12_bestSwing_118 (by decide) ?_
    refine v_iand (pc := 119) hC dX12_bestSwing_119 ?_
    refine v_iast (pc := 120) (n := 6) hC kq_142 (by decide) dX12_bestSwing_120 h (fun F10 h => ?_)
    refine v_iinc (pc := 121) (v := 1) hC (fun z => [(8, .int z), (0, .ref (ad E 121)), (1, .int x1), (2, .int x2), (3, .int x3), (5, .int x5), (6, .int x6), (7, .int x7)]) dX12_bestSwing_121 7 rfl (by decide) (by decide) (fun _ => rfl) h (fun n11 h => ?_)
    refine v_goto (pc := 124) (tgt := 95) hC dX12_bestSwing_124 (by decide) ?_
    exact v_sub [1, 2, 3, 4, 5, 6, 7, 0] rfl (hK95 _ _ h)
set_option maxRecDepth 20000 in
set_option maxHeartbeats 4000000 in
theorem jl_X12_bestSwing_95 {p : Program} {l : Launch} {e : Env} {s : State} {m : MethodId} {args : Array Value} {below : List Frame} {meth : Method} {c : Code} {E : gE} (hC : CX p s m args meth c cX12_bestSwing RX12 (some .int) E 9) {Q : Int32 → gS → Prop} {F : gS} {x1 : Int32} {x2 : Int32} {x3 : Int32} {x5 : Int32} {x6 : Int32} {x7 : Int32} {x8 : Int32} {K68 : gS → Int32 → Int32 → Int32 → Prop} (hK68 : ∀ (F : gS) (x5 : Int32) (x6 : Int32) (x7 : Int32), K68 F x5 x6 x7 → VV p l e rm_X12_bestSwing s m args below meth c 0 0 (MQ below (va_Qi Q (gB E) (gA E)) args s 0 0 (gA E)) E 9 F 68 [(0, .ref (ad E 121)), (1, .int x1), (2, .int x2), (3, .int x3), (5, .int x5), (6, .int x6), (7, .int x7)] []) (h : LP2 (wb_X12_bestSwing_95 K68 Q x1 x2 x3 x5 x6 x7) F x8) : VV p l e rm_X12_bestSwing s m args below meth c 0 0 (MQ below (va_Qi Q (gB E) (gA E)) args s 0 0 (gA E)) E 9 F 95 [(0, .ref (ad E 121)), (1, .int x1), (2, .int x2), (3, .int x3), (5, .int x5), (6, .int x6), (7, .int x7), (8, .int x8)] [] :=
  LP2_go (V := fun (F : gS) (x8 : Int32) => VV p l e rm_X12_bestSwing s m args below meth c 0 0 (MQ below (va_Qi Q (gB E) (gA E)) args s 0 0 (gA E)) E 9 F 95 [(0, .ref (ad E 121)), (1, .int x1), (2, .int x2), (3, .int x3), (5, .int x5), (6, .int x6), (7, .int x7), (8, .int x8)] []) (fun K95 hK95 F x8 h => jb_X12_bestSwing_95 hC hK68 hK95 h) F x8 h
set_option maxRecDepth 20000 in
set_option maxHeartbeats 4000000 in
theorem j_X12_bestSwing_175 {p : Program} {l : Launch} {e : Env} {s : State} {m : MethodId} {args : Array Value} {below : List Frame} {meth : Method} {c : Code} {E : gE} (hC : CX p s m args meth c cX12_bestSwing RX12 (some .int) E 9) {Q : Int32 → gS → Prop} {F : gS} {x2 : Int32} {x3 : Int32} {x5 : Int32} {x6 : Int32} (h : wp_X12_bestSwing_175 Q F x2 x3 x5 x6) : VV p l e rm_X12_bestSwing s m args below meth c 0 0 (MQ below (va_Qi Q (gB E) (gA E)) args s 0 0 (gA E)) E 9 F 175 [(2, .int x2), (3, .int x3), (5, .int x5), (6, .int x6)] [] := by
  unfold wp_X12_bestSwing_175 at h
  refine v_iload_n (pc := 175) hC dX12_bestSwing_175 rfl 1 rfl ?_
  refine v_iconst (pc := 176) (v := 3) hC dX12_bestSwing_176 (by decide) ?_
  refine v_ic_ne (pc := 177) (tgt := 185) hC dX12_bestSwing_177 (by decide) h (fun h => ?_) (fun h => ?_)
  · skip
    refine v_iload_n (pc := 185) hC dX12_bestSwing_185 rfl 1 rfl ?_
    refine v_iload_n (pc := 186) hC dX12_bestSwing_186 rfl 0 rfl ?_
    refine v_ic_ge (pc := 187) (tgt := 205) hC dX12_bestSwing_187 (by decide) h (fun h => ?_) (fun h => ?_)
    · skip
      refine v_iconst (pc := 205) (v := (-1)) hC dX12_bestSwing_205 (by decide) ?_
      exact v_iret (pc := 206) hC dX12_bestSwing_206 h
    · skip
      refine v_iload (pc := 190) hC dX12_bestSwing_190 2 rfl ?_
      refine v_iconst (pc := 192) (v := 2) hC dX12_bestSwing_192 (by decide) ?_
      refine v_iload_n (pc := 193) hC dX12_bestSwing_193 rfl 0 rfl ?_
      refine v_iconst (pc := 194) (v := 1) hC dX12_bestSwing_194 (by decide) ?_
      refine v_isub (pc := 195) hC dX12_bestSwing_195 ?_
      refine v_iload_n (pc := 196) hC dX12_bestSwing_196 rfl 1 rfl ?_
      refine v_isub (pc := 197) hC dX12_bestSwing_197 ?_
      refine v_imul (pc := 198) hC dX12_bestSwing_198 ?_
      refine v_ishr (pc := 199) hC dX12_bestSwing_199 ?_
      refine v_iconst (pc := 200) (v := 3) hC dX12_bestSwing_200 (by decide) ?_
      refine v_iand (pc := 201) hC dX12_bestSwing_201 ?_
      refine v_goto (pc := 202) (tgt := 206) hC dX12_bestSwing_202 (by decide) ?_
      exact v_iret (pc := 206) hC dX12_bestSwing_206 h
  · skip
    refine v_iload (pc := 180) hC dX12_bestSwing_180 3 rfl ?_
    refine v_goto (pc := 182) (tgt := 206) hC dX12_bestSwing_182 (by decide) ?_
    exact v_iret (pc := 206) hC dX12_bestSwing_206 h
set_option maxRecDepth 20000 in
set_option maxHeartbeats 4000000 in
theorem jb_X12_bestSwing_68 {p : Program} {l : Launch} {e : Env} {s : State} {m : MethodId} {args : Array Value} {below : List Frame} {meth : Method} {c : Code} {E : gE} (hC : CX p s m args meth c cX12_bestSwing RX12 (some .int) E 9) {Q : Int32 → gS → Prop} {F : gS} {x1 : Int32} {x2 : Int32} {x3 : Int32} {x5 : Int32} {x6 : Int32} {x7 : Int32} {K68 : gS → Int32 → Int32 → Int32 → Prop} (hK68 : ∀ (F : gS) (x5 : Int32) (x6 : Int32) (x7 : Int32), K68 F x5 x6 x7 → VV p l e rm_X12_bestSwing s m args below meth c 0 0 (MQ below (va_Qi Q (gB E) (gA E)) args s 0 0 (gA E)) E 9 F 68 [(0, .ref (ad E 121)), (1, .int x1), (2, .int x2), (3, .int x3), (5, .int x5), (6, .int x6), (7, .int x7)] []) (h : wb_X12_bestSwing_68 Q x1 x2 x3 K68 F x5 x6 x7) : VV p l e rm_X12_bestSwing s m args below meth c 0 0 (MQ below (va_Qi Q (gB E) (gA E)) args s 0 0 (gA E)) E 9 F 68 [(0, .ref (ad E 121)), (1, .int x1), (2, .int x2), (3, .int x3), (5, .int x5), (6, .int x6), (7, .int x7)] [] := by
  unfold wb_X12_bestSwing_68 at h
  refine v_iload (pc := 68) hC dX12_bestSwing_68 6 rfl ?_
  refine v_iconst (pc := 70) (v := 1) hC dX12_bestSwing_70 (by decide) ?_
  refine v_iconst (pc := 71) (v := 2) hC dX12_bestSwing_71 (by decide) ?_
  refine v_iload_n (pc := 72) hC dX12_bestSwing_72 rfl 2 rfl ?_
  refine v_imul (pc := 73) hC dX12_bestSwing_73 ?_
  refine v_ishl (pc := 74) hC dX12_bestSwing_74 ?_
  refine v_ic_ge (pc := 75) (tgt := 175) hC dX12_bestSwing_75 (by decide) h (fun h => ?_) (fun h => ?_)
  · skip
    exact v_sub [2, 3, 4, 5] rfl (j_X12_bestSwing_175 hC h)
  · skip
    refine v_aload_n (pc := 78) hC dX12_bestSwing_78 rfl 0 rfl ?_
    refine v_cv (pc := 79) (r_V (rest := []) hC ml_X12_274 mv_X12_loadPan (c_X12_loadPan l E h) ⟨rfl, rfl⟩ ⟨Nat.le_of_ble_eq_true rfl, Nat.le_of_ble_eq_true rfl⟩ kq_121 rfl (by decide) rfl rfl (Nat.le_of_ble_eq_true rfl) ⟨Nat.zero_le _, Nat.zero_le _⟩ dX12_bestSwing_79) (fun F7 h => ?_)
    refine v_aload_n (pc := 82) hC dX12_bestSwing_82 rfl 0 rfl ?_
    refine v_iload_n (pc := 83) hC dX12_bestSwing_83 rfl 1 rfl ?_
    refine v_cv (pc := 84) (r_V (rest := []) hC ml_X12_286 mv_X12_loadPlan (c_X12_loadPlan l E h) ⟨rfl, rfl⟩ ⟨Nat.le_of_ble_eq_true rfl, Nat.le_of_ble_eq_true rfl⟩ kq_121 rfl (by decide) rfl rfl (Nat.le_of_ble_eq_true rfl) ⟨Nat.zero_le _, Nat.zero_le _⟩ dX12_bestSwing_84) (fun F8 h => ?_)
    refine v_aload_n (pc := 87) hC dX12_bestSwing_87 rfl 0 rfl ?_
    refine v_iload_n (pc := 88) hC dX12_bestSwing_88 rfl 2 rfl ?_
    refine v_puti (pc := 89) hC fp_X12_227 kq_121 (fs_10_48 E _ _ _) (fn_10_48 E _ _) dX12_bestSwing_89 h (fun F9 h => ?_)
    refine v_iconst (pc := 92) (v := 0) hC dX12_bestSwing_92 (by decide) ?_
    refine v_istore (pc := 93) (lv' := [(8, .int 0), (0, .ref (ad E 121)), (1, .int x1), (2, .int x2), (3, .int x3), (5, .int x5), (6, .int x6), (7, .int x7)]) hC dX12_bestSwing_93 (by decide) rfl ?_
    exact v_sub [1, 2, 3, 4, 5, 6, 7, 0] rfl (jl_X12_bestSwing_95 hC hK68 h)
set_option maxRecDepth 20000 in
set_option maxHeartbeats 4000000 in
theorem jl_X12_bestSwing_68 {p : Program} {l : Launch} {e : Env} {s : State} {m : MethodId} {args : Array Value} {below : List Frame} {meth : Method} {c : Code} {E : gE} (hC : CX p s m args meth c cX12_bestSwing RX12 (some .int) E 9) {Q : Int32 → gS → Prop} {F : gS} {x1 : Int32} {x2 : Int32} {x3 : Int32} {x5 : Int32} {x6 : Int32} {x7 : Int32} (h : LP4 (wb_X12_bestSwing_68 Q x1 x2 x3) F x5 x6 x7) : VV p l e rm_X12_bestSwing s m args below meth c 0 0 (MQ below (va_Qi Q (gB E) (gA E)) args s 0 0 (gA E)) E 9 F 68 [(0, .ref (ad E 121)), (1, .int x1), (2, .int x2), (3, .int x3), (5, .int x5), (6, .int x6), (7, .int x7)] [] :=
  LP4_go (V := fun (F : gS) (x5 : Int32) (x6 : Int32) (x7 : Int32) => VV p l e rm_X12_bestSwing s m args below meth c 0 0 (MQ below (va_Qi Q (gB E) (gA E)) args s 0 0 (gA E)) E 9 F 68 [(0, .ref (ad E 121)), (1, .int x1), (2, .int x2), (3, .int x3), (5, .int x5), (6, .int x6), (7, .int x7)] []) (fun K68 hK68 F x5 x6 x7 h => jb_X12_bestSwing_68 hC hK68 h) F x5 x6 x7 h
set_option maxRecDepth 20000 in
set_option maxHeartbeats 4000000 in
theorem c_X12_bestSwing (l : Launch) (E : gE) {x1 : Int32} {x2 : Int32} {x3 : Int32} {F : gS} {Q : Int32 → gS → Prop} (h : wp_X12_bestSwing x1 x2 x3 F Q) : CtI l E yX12_bestSwing cX12_bestSwing 9 (some .int) rm_X12_bestSwing [.ref (ad E 121), .int x1, .int x2, .int x3] F Q := by
  refine ct_of (by decide) (Nat.le_of_ble_eq_true rfl) (fun p e s m below meth c hC => ?_)
  generalize ([.ref (ad E 121), .int x1, .int x2, .int x3] : List Value).toArray = args at hC ⊢
  refine v_sub (lv' := [(0, .ref (ad E 121)), (1, .int x1), (2, .int x2), (3, .int x3)]) [0, 1, 2, 3] rfl ?_
  unfold wp_X12_bestSwing at h
  refine v_aload_n (pc := 0) hC dX12_bestSwing_0 rfl 0 rfl ?_
  refine v_iload_n (pc := 1) hC dX12_bestSwing_1 rfl 1 rfl ?_
  refine v_cip (pc := 2) (r_V (rest := []) hC ml_X12_283 mv_X12_bars (c_X12_bars l E h) ⟨rfl, rfl⟩ ⟨Nat.le_of_ble_eq_true rfl, Nat.le_of_ble_eq_true rfl⟩ kq_121 rfl (by decide) rfl rfl (Nat.le_of_ble_eq_true rfl) ⟨Nat.zero_le _, Nat.zero_le _⟩ dX12_bestSwing_2) (fun r1 h => ?_)
  refine v_istore (pc := 5) (lv' := [(4, .int r1), (0, .ref (ad E 121)), (1, .int x1), (2, .int x2), (3, .int x3)]) hC dX12_bestSwing_5 (by decide) rfl ?_
  refine v_iload (pc := 7) hC dX12_bestSwing_7 0 rfl ?_
  refine v_if_eq (pc := 9) (tgt := 15) hC dX12_bestSwing_9 (by decide) h (fun h => ?_) (fun h => ?_)
  · skip
    refine v_iload_n (pc := 15) hC dX12_bestSwing_15 rfl 3 rfl ?_
    refine v_iconst (pc := 16) (v := 1) hC dX12_bestSwing_16 (by decide) ?_
    refine v_iconst (pc := 17) (v := 3) hC dX12_bestSwing_17 (by decide) ?_
    refine v_cyp (pc := 18) (r_S (rest := []) hC ml_X12_102 ms_X12_within (c_X12_within l E h) ⟨rfl, rfl⟩ ⟨Nat.le_of_ble_eq_true rfl, Nat.le_of_ble_eq_true rfl⟩ rfl rfl (Nat.le_of_ble_eq_true rfl) ⟨Nat.zero_le _, Nat.zero_le _⟩ dX12_bestSwing_18) (fun r2 b3 h => ?_)
    refine v_if_eq (pc := 21) (tgt := 33) hC dX12_bestSwing_21 (by decide) h (fun h => ?_) (fun h => ?_)
    · skip
      refine v_bipush (pc := 33) (v := (-102)) hC dX12_bestSwing_33 (by decide) ?_
      exact v_iret (pc := 35) hC dX12_bestSwing_35 h
    · skip
      refine v_iload_n (pc := 24) hC dX12_bestSwing_24 rfl 4 rfl ?_
      refine v_iconst (pc := 25) (v := 0) hC dX12_bestSwing_25 (by decide) ?_
      refine v_iconst (pc := 26) (v := 3) hC dX12_bestSwing_26 (by decide) ?_
      refine v_cyp (pc := 27) (r_S (rest := []) hC ml_X12_102 ms_X12_within (c_X12_within l E h) ⟨rfl, rfl⟩ ⟨Nat.le_of_ble_eq_true rfl, Nat.le_of_ble_eq_true rfl⟩ rfl rfl (Nat.le_of_ble_eq_true rfl) ⟨Nat.zero_le _, Nat.zero_le _⟩ dX12_bestSwing_27) (fun r4 b5 h => ?_)
      refine v_if_ne (pc := 30) (tgt := 36) hC dX12_bestSwing_30 (by decide) h (fun h => ?_) (fun h => ?_)
      · skip
        refine v_aload_n (pc := 36) hC dX12_bestSwing_36 rfl 1 rfl ?_
        refine v_get (pc := 37) (v := .int (F 121 18)) hC fl_X12_313 kq_121 rfl dX12_bestSwing_37 ?_
        refine v_bipush (pc := 40) (v := 30) hC dX12_bestSwing_40 (by decide) ?_
        refine v_ic_ne (pc := 42) (tgt := 48) hC dX12_bestSwing_42 (by decide) h (fun h => ?_) (fun h => ?_)
        · skip
          refine v_aload_n (pc := 48) hC dX12_bestSwing_48 rfl 1 rfl ?_
          refine v_dup (pc := 49) hC dX12_bestSwing_49 rfl ?_
          refine v_get (pc := 50) (v := .int (F 121 18)) hC fl_X12_313 kq_121 rfl dX12_bestSwing_50 ?_
          refine v_iconst (pc := 53) (v := 1) hC dX12_bestSwing_53 (by decide) ?_
          refine v_iadd (pc := 54) hC dX12_bestSwing_54 ?_
          refine v_puti (pc := 55) hC fp_X12_313 kq_121 (fs_10_18 E _ _ _) (fn_10_18 E _ _) dX12_bestSwing_55 h (fun F6 h => ?_)
          refine v_iconst (pc := 58) (v := 0) hC dX12_bestSwing_58 (by decide) ?_
          refine v_istore (pc := 59) (lv' := [(5, .int 0), (4, .int r1), (0, .ref (ad E 121)), (1, .int x1), (2, .int x2), (3, .int x3)]) hC dX12_bestSwing_59 (by decide) rfl ?_
          refine v_ldc (pc := 61) hC kc_X12_242 dX12_bestSwing_61 ?_
          refine v_istore (pc := 63) (lv' := [(6, .int 268435456), (5, .int 0), (4, .int r1), (0, .ref (ad E 121)), (1, .int x1), (2, .int x2), (3, .int x3)]) hC dX12_bestSwing_63 (by decide) rfl ?_
          refine v_iconst (pc := 65) (v := 0) hC dX12_bestSwing_65 (by decide) ?_
          refine v_istore (pc := 66) (lv' := [(7, .int 0), (6, .int 268435456), (5, .int 0), (4, .int r1), (0, .ref (ad E 121)), (1, .int x1), (2, .int x2), (3, .int x3)]) hC dX12_bestSwing_66 (by decide) rfl ?_
          exact v_sub [4, 5, 6, 7, 2, 1, 0] rfl (jl_X12_bestSwing_68 hC h)
        · skip
          refine v_bipush (pc := 45) (v := (-103)) hC dX12_bestSwing_45 (by decide) ?_
          exact v_iret (pc := 47) hC dX12_bestSwing_47 h
      · skip
        refine v_bipush (pc := 33) (v := (-102)) hC dX12_bestSwing_33 (by decide) ?_
        exact v_iret (pc := 35) hC dX12_bestSwing_35 h
  · skip
    refine v_iload (pc := 12) hC dX12_bestSwing_12 0 rfl ?_
    exact v_iret (pc := 14) hC dX12_bestSwing_14 h
def rm_X12_nextTwo : Room := { frames := 5, cells := 0, slots := 0, locals := 113 }
def wp_X12_nextTwo_125 (K58 : gS → Int32 → Int32 → Int32 → Prop) (Q : Int32 → gS → Prop) (F : gS) (x1 : Int32) (x3 : Int32) (x4 : Int32) (x5 : Int32) (t0 : Int32) : Prop :=
  if x5 ≤ x3 then
    (Nm (x4 + 1) fun n9 =>
    K58 F t0 x3 n9)
  else
    (Nm (x4 + 1) fun n10 =>
    K58 F t0 x5 n10)
def wp_X12_nextTwo_145 (Q : Int32 → gS → Prop) (F : gS) (x1 : Int32) (x2 : Int32) (x3 : Int32) : Prop :=
  if x1 = 0 then
    (¬ (F 121 8) = 0 ∧
    Q (x2 / (F 121 8)) F)
  else
    (if x1 = 1 then
      (¬ (F 121 8) = 0 ∧
      Q (x2 - x2 / (F 121 8) * (F 121 8)) F)
    else
      (Q x3 F))
def wb_X12_nextTwo_58 (Q : Int32 → gS → Prop) (x1 : Int32) (K58 : gS → Int32 → Int32 → Int32 → Prop) (F : gS) (x2 : Int32) (x3 : Int32) (x4 : Int32) : Prop :=
  if ((F 121 8) * (F 121 8)) ≤ x4 then
    (wp_X12_nextTwo_145 Q F x1 x2 x3)
  else
    (¬ (F 121 8) = 0 ∧
    wp_X12_layNext (x4 / (F 121 8)) F fun F4 =>
    Nm (F4 121 60) fun n5 =>
    ¬ (F4 121 8) = 0 ∧
    wp_X12_loadPlan (x4 - x4 / (F4 121 8) * (F4 121 8)) F4 fun F6 =>
    wp_X12_goCake F6 fun F7 =>
    Nm (n5 + (F7 121 60)) fun n8 =>
    if n8 ≤ x3 then
      (wp_X12_nextTwo_125 K58 Q F7 x1 x3 x4 n8 x2)
    else
      (wp_X12_nextTwo_125 K58 Q F7 x1 x3 x4 n8 x4))
def wp_X12_nextTwo (x1 : Int32) (F : gS) (Q : Int32 → gS → Prop) : Prop :=
  if (F 121 2) = 0 then
    (Q (-103) F)
  else
    (if (F 121 8) = 0 then
      (Q (-103) F)
    else
      (wp_X12_within x1 0 2 F fun r1 =>
      if r1 = 0 then
        (Q (-102) F)
      else
        (if (F 121 18) = 30 then
          (Q (-103) F)
        else
          (Nm (upF F 121 18 ((F 121 18) + 1)) fun F3 =>
          LP4 (wb_X12_nextTwo_58 Q x1) F3 0 (-1) 0))))
set_option maxRecDepth 20000 in
set_option maxHeartbeats 4000000 in
theorem j_X12_nextTwo_125 {p : Program} {l : Launch} {e : Env} {s : State} {m : MethodId} {args : Array Value} {below : List Frame} {meth : Method} {c : Code} {E : gE} (hC : CX p s m args meth c cX12_nextTwo RX12 (some .int) E 6) {Q : Int32 → gS → Prop} {F : gS} {x1 : Int32} {x3 : Int32} {x4 : Int32} {x5 : Int32} {t0 : Int32} {K58 : gS → Int32 → Int32 → Int32 → Prop} (hK58 : ∀ (F : gS) (x2 : Int32) (x3 : Int32) (x4 : Int32), K58 F x2 x3 x4 → VV p l e rm_X12_nextTwo s m args below meth c 0 0 (MQ below (va_Qi Q (gB E) (gA E)) args s 0 0 (gA E)) E 6 F 58 [(0, .ref (ad E 121)), (1, .int x1), (2, .int x2), (3, .int x3), (4, .int x4)] []) (h : wp_X12_nextTwo_125 K58 Q F x1 x3 x4 x5 t0) : VV p l e rm_X12_nextTwo s m args below meth c 0 0 (MQ below (va_Qi Q (gB E) (gA E)) args s 0 0 (gA E)) E 6 F 125 [(0, .ref (ad E 121)), (1, .int x1), (3, .int x3), (4, .int x4), (5, .int x5)] [.int t0] := by
  unfold wp_X12_nextTwo_125 at h
  refine v_istore_n (pc := 125) (lv' := [(2, .int t0), (0, .ref (ad E 121)), (1, .int x1), (3, .int x3), (4, .int x4), (5, .int x5)]) hC dX12_nextTwo_125 rfl (by decide) rfl ?_
  refine v_iload (pc := 126) hC dX12_nextTwo_126 5 rfl ?_
  refine v_iload_n (pc := 128) hC dX12_nextTwo_128 rfl 3 rfl ?_
  refine v_ic_le (pc := 129) (tgt := 137) hC dX12_nextTwo_129 (by decide) h (fun h => ?_) (fun h => ?_)
  · skip
    refine v_iload_n (pc := 137) hC dX12_nextTwo_137 rfl 3 rfl ?_
    refine v_istore_n (pc := 138) (lv' := [(3, .int x3), (2, .int t0), (0, .ref (ad E 121)), (1, .int x1), (4, .int x4), (5, .int x5)]) hC dX12_nextTwo_138 rfl (by decide) rfl ?_
    refine v_iinc (pc := 139) (v := 1) hC (fun z => [(4, .int z), (3, .int x3), (2, .int t0), (0, .ref (ad E 121)), (1, .int x1), (5, .int x5)]) dX12_nextTwo_139 4 rfl (by decide) (by decide) (fun _ => rfl) h (fun n9 h => ?_)
    refine v_goto (pc := 142) (tgt := 58) hC dX12_nextTwo_142 (by decide) ?_
    exact v_sub [3, 4, 2, 1, 0] rfl (hK58 _ _ _ _ h)
  · skip
    refine v_iload (pc := 132) hC dX12_nextTwo_132 5 rfl ?_
    refine v_goto (pc := 134) (tgt := 138) hC dX12_nextTwo_134 (by decide) ?_
    refine v_istore_n (pc := 138) (lv' := [(3, .int x5), (2, .int t0), (0, .ref (ad E 121)), (1, .int x1), (4, .int x4), (5, .int x5)]) hC dX12_nextTwo_138 rfl (by decide) rfl ?_
    refine v_iinc (pc := 139) (v := 1) hC (fun z => [(4, .int z), (3, .int x5), (2, .int t0), (0, .ref (ad E 121)), (1, .int x1), (5, .int x5)]) dX12_nextTwo_139 4 rfl (by decide) (by decide) (fun _ => rfl) h (fun n10 h => ?_)
    refine v_goto (pc := 142) (tgt := 58) hC dX12_nextTwo_142 (by decide) ?_
    exact v_sub [3, 4, 2, 1, 0] rfl (hK58 _ _ _ _ h)
set_option maxRecDepth 20000 in
set_option maxHeartbeats 4000000 in
theorem j_X12_nextTwo_145 {p : Program} {l : Launch} {e : Env} {s : State} {m : MethodId} {args : Array Value} {below : List Frame} {meth : Method} {c : Code} {E : gE} (hC : CX p s m args meth c cX12_nextTwo RX12 (some .int) E 6) {Q : Int32 → gS → Prop} {F : gS} {x1 : Int32} {x2 : Int32} {x3 : Int32} (h : wp_X12_nextTwo_145 Q F x1 x2 x3) : VV p l e rm_X12_nextTwo s m args below meth c 0 0 (MQ below (va_Qi Q (gB E) (gA E)) args s 0 0 (gA E)) E 6 F 145 [(0, .ref (ad E 121)), (1, .int x1), (2, .int x2), (3, .int x3)] [] := by
  unfold wp_X12_nextTwo_145 at h
  refine v_iload_n (pc := 145) hC dX12_nextTwo_145 rfl 1 rfl ?_
  refine v_if_ne (pc := 146) (tgt := 158) hC dX12_nextTwo_146 (by decide) h (fun h => ?_) (fun h => ?_)
  · skip
    refine v_iload_n (pc := 158) hC dX12_nextTwo_158 rfl 1 rfl ?_
    refine v_iconst (pc := 159) (v := 1) hC dX12_nextTwo_159 (by decide) ?_
    refine v_ic_ne (pc := 160) (tgt := 172) hC dX12_nextTwo_160 (by decide) h (fun h => ?_) (fun h => ?_)
    · skip
      refine v_iload_n (pc := 172) hC dX12_nextTwo_172 rfl 3 rfl ?_
      exact v_iret (pc := 173) hC dX12_nextTwo_173 h
    · skip
      refine v_iload_n (pc := 163) hC dX12_nextTwo_163 rfl 2 rfl ?_
      refine v_aload_n (pc := 164) hC dX12_nextTwo_164 rfl 0 rfl ?_
      refine v_get (pc := 165) (v := .int (F 121 8)) hC fl_X12_193 kq_121 rfl dX12_nextTwo_165 ?_
      refine v_irem (pc := 168) hC dX12_nextTwo_168 h (fun h => ?_)
      refine v_goto (pc := 169) (tgt := 173) hC dX12_nextTwo_169 (by decide) ?_
      exact v_iret (pc := 173) hC dX12_nextTwo_173 h
  · skip
    refine v_iload_n (pc := 149) hC dX12_nextTwo_149 rfl 2 rfl ?_
    refine v_aload_n (pc := 150) hC dX12_nextTwo_150 rfl 0 rfl ?_
    refine v_get (pc := 151) (v := .int (F 121 8)) hC fl_X12_193 kq_121 rfl dX12_nextTwo_151 ?_
    refine v_idiv (pc := 154) hC dX12_nextTwo_154 h (fun h => ?_)
    refine v_goto (pc := 155) (tgt := 173) hC dX12_nextTwo_155 (by decide) ?_
    exact v_iret (pc := 173) hC dX12_nextTwo_173 h
set_option maxRecDepth 20000 in
set_option maxHeartbeats 4000000 in
theorem jb_X12_nextTwo_58 {p : Program} {l : Launch} {e : Env} {s : State} {m : MethodId} {args : Array Value} {below : List Frame} {meth : Method} {c : Code} {E : gE} (hC : CX p s m args meth c cX12_nextTwo RX12 (some .int) E 6) {Q : Int32 → gS → Prop} {F : gS} {x1 : Int32} {x2 : Int32} {x3 : Int32} {x4 : Int32} {K58 : gS → Int32 → Int32 → Int32 → Prop} (hK58 : ∀ (F : gS) (x2 : Int32) (x3 : Int32) (x4 : Int32), K58 F x2 x3 x4 → VV p l e rm_X12_nextTwo s m args below meth c 0 0 (MQ below (va_Qi Q (gB E) (gA E)) args s 0 0 (gA E)) E 6 F 58 [(0, .ref (ad E 121)), (1, .int x1), (2, .int x2), (3, .int x3), (4, .int x4)] []) (h : wb_X12_nextTwo_58 Q x1 K58 F x2 x3 x4) : VV p l e rm_X12_nextTwo s m args below meth c 0 0 (MQ below (va_Qi Q (gB E) (gA E)) args s 0 0 (gA E)) E 6 F 58 [(0, .ref (ad E 121)), (1, .int x1), (2, .int x2), (3, .int x3), (4, .int x4)] [] := by
  unfold wb_X12_nextTwo_58 at h
  refine v_iload (pc := 58) hC dX12_nextTwo_58 4 rfl ?_
  refine v_aload_n (pc := 60) hC dX12_nextTwo_60 rfl 0 rfl ?_
  refine v_get (pc := 61) (v := .int (F 121 8)) hC fl_X12_193 kq_121 rfl dX12_nextTwo_61 ?_
  refine v_aload_n (pc := 64) hC dX12_nextTwo_64 rfl 0 rfl ?_
  refine v_get (pc := 65) (v := .int (F 121 8)) hC fl_X12_193 kq_121 rfl dX12_nextTwo_65 ?_
  refine v_imul (pc := 68) hC dX12_nextTwo_68 ?_
  refine v_ic_ge (pc := 69) (tgt := 145) hC dX12_nextTwo_69 (by decide) h (fun h => ?_) (fun h => ?_)
  · skip
    exact v_sub [0, 1, 2, 3] rfl (j_X12_nextTwo_145 hC h)
  · skip
    refine v_aload_n (pc := 72) hC dX12_nextTwo_72 rfl 0 rfl ?_
    refine v_iload (pc := 73) hC dX12_nextTwo_73 4 rfl ?_
    refine v_aload_n (pc := 75) hC dX12_nextTwo_75 rfl 0 rfl ?_
    refine v_get (pc := 76) (v := .int (F 121 8)) hC fl_X12_193 kq_121 rfl dX12_nextTwo_76 ?_
    refine v_idiv (pc := 79) hC dX12_nextTwo_79 h (fun h => ?_)
    refine v_cv (pc := 80) (r_V (rest := []) hC ml_X12_298 mv_X12_layNext (c_X12_layNext l E h) ⟨rfl, rfl⟩ ⟨Nat.le_of_ble_eq_true rfl, Nat.le_of_ble_eq_true rfl⟩ kq_121 rfl (by decide) rfl rfl (Nat.le_of_ble_eq_true rfl) ⟨Nat.zero_le _, Nat.zero_le _⟩ dX12_nextTwo_80) (fun F4 h => ?_)
    refine v_aload_n (pc := 83) hC dX12_nextTwo_83 rfl 0 rfl ?_
    refine v_get (pc := 84) (v := .int (F4 121 60)) hC fl_X12_261 kq_121 rfl dX12_nextTwo_84 ?_
    refine v_nmi h (fun n5 h => ?_)
    refine v_istore (pc := 87) (lv' := [(5, .int n5), (0, .ref (ad E 121)), (1, .int x1), (2, .int x2), (3, .int x3), (4, .int x4)]) hC dX12_nextTwo_87 (by decide) rfl ?_
    refine v_aload_n (pc := 89) hC dX12_nextTwo_89 rfl 1 rfl ?_
    refine v_iload (pc := 90) hC dX12_nextTwo_90 5 rfl ?_
    refine v_aload_n (pc := 92) hC dX12_nextTwo_92 rfl 1 rfl ?_
    refine v_get (pc := 93) (v := .int (F4 121 8)) hC fl_X12_193 kq_121 rfl dX12_nextTwo_93 ?_
    refine v_irem (pc := 96) hC dX12_nextTwo_96 h (fun h => ?_)
    refine v_cv (pc := 97) (r_V (rest := []) hC ml_X12_286 mv_X12_loadPlan (c_X12_loadPlan l E h) ⟨rfl, rfl⟩ ⟨Nat.le_of_ble_eq_true rfl, Nat.le_of_ble_eq_true rfl⟩ kq_121 rfl (by decide) rfl rfl (Nat.le_of_ble_eq_true rfl) ⟨Nat.zero_le _, Nat.zero_le _⟩ dX12_nextTwo_97) (fun F6 h => ?_)
    refine v_aload_n (pc := 100) hC dX12_nextTwo_100 rfl 1 rfl ?_
    refine v_cv (pc := 101) (r_V (rest := []) hC ml_X12_289 mv_X12_goCake (c_X12_goCake l E h) ⟨rfl, rfl⟩ ⟨Nat.le_of_ble_eq_true rfl, Nat.le_of_ble_eq_true rfl⟩ kq_121 rfl (by decide) rfl rfl (Nat.le_of_ble_eq_true rfl) ⟨Nat.zero_le _, Nat.zero_le _⟩ dX12_nextTwo_101) (fun F7 h => ?_)
    refine v_iload (pc := 104) hC dX12_nextTwo_104 0 rfl ?_
    refine v_aload_n (pc := 106) hC dX12_nextTwo_106 rfl 1 rfl ?_
    refine v_get (pc := 107) (v := .int (F7 121 60)) hC fl_X12_261 kq_121 rfl dX12_nextTwo_107 ?_
    refine v_iadd (pc := 110) hC dX12_nextTwo_110 ?_
    refine v_nmi h (fun n8 h => ?_)
    refine v_istore (pc := 111) (lv' := [(5, .int n8), (0, .ref (ad E 121)), (1, .int x1), (2, .int x2), (3, .int x3), (4, .int x4)]) hC dX12_nextTwo_111 (by decide) rfl ?_
    refine v_iload (pc := 113) hC dX12_nextTwo_113 0 rfl ?_
    refine v_iload_n (pc := 115) hC dX12_nextTwo_115 rfl 4 rfl ?_
    refine v_ic_le (pc := 116) (tgt := 124) hC dX12_nextTwo_116 (by decide) h (fun h => ?_) (fun h => ?_)
    · skip
      refine v_iload_n (pc := 124) hC dX12_nextTwo_124 rfl 3 rfl ?_
      exact v_sub [1, 2, 4, 5, 0] rfl (j_X12_nextTwo_125 hC hK58 h)
    · skip
      refine v_iload (pc := 119) hC dX12_nextTwo_119 5 rfl ?_
      refine v_goto (pc := 121) (tgt := 125) hC dX12_nextTwo_121 (by decide) ?_
      exact v_sub [1, 2, 4, 5, 0] rfl (j_X12_nextTwo_125 hC hK58 h)
set_option maxRecDepth 20000 in
set_option maxHeartbeats 4000000 in
theorem jl_X12_nextTwo_58 {p : Program} {l : Launch} {e : Env} {s : State} {m : MethodId} {args : Array Value} {below : List Frame} {meth : Method} {c : Code} {E : gE} (hC : CX p s m args meth c cX12_nextTwo RX12 (some .int) E 6) {Q : Int32 → gS → Prop} {F : gS} {x1 : Int32} {x2 : Int32} {x3 : Int32} {x4 : Int32} (h : LP4 (wb_X12_nextTwo_58 Q x1) F x2 x3 x4) : VV p l e rm_X12_nextTwo s m args below meth c 0 0 (MQ below (va_Qi Q (gB E) (gA E)) args s 0 0 (gA E)) E 6 F 58 [(0, .ref (ad E 121)), (1, .int x1), (2, .int x2), (3, .int x3), (4, .int x4)] [] :=
  LP4_go (V := fun (F : gS) (x2 : Int32) (x3 : Int32) (x4 : Int32) => VV p l e rm_X12_nextTwo s m args below meth c 0 0 (MQ below (va_Qi Q (gB E) (gA E)) args s 0 0 (gA E)) E 6 F 58 [(0, .ref (ad E 121)), (1, .int x1), (2, .int x2), (3, .int x3), (4, .int x4)] []) (fun K58 hK58 F x2 x3 x4 h => jb_X12_nextTwo_58 hC hK58 h) F x2 x3 x4 h
set_option maxRecDepth 20000 in
set_option maxHeartbeats 4000000 in
theorem c_X12_nextTwo (l : Launch) (E : gE) {x1 : Int32} {F : gS} {Q : Int32 → gS → Prop} (h : wp_X12_nextTwo x1 F Q) : CtI l E yX12_nextTwo cX12_nextTwo 6 (some .int) rm_X12_nextTwo [.ref (ad E 121), .int x1] F Q := by
  refine ct_of (by decide) (Nat.le_of_ble_eq_true rfl) (fun p e s m below meth c hC => ?_)
  generalize ([.ref (ad E 121), .int x1] : List Value).toArray = args at hC ⊢
  refine v_sub (lv' := [(0, .ref (ad E 121)), (1, .int x1)]) [0, 1] rfl ?_
  unfold wp_X12_nextTwo at h
  refine v_aload_n (pc := 0) hC dX12_nextTwo_0 rfl 0 rfl ?_
  refine v_get (pc := 1) (v := .int (F 121 2)) hC fl_X12_190 kq_121 rfl dX12_nextTwo_1 ?_
  refine v_if_eq (pc := 4) (tgt := 14) hC dX12_nextTwo_4 (by decide) h (fun h => ?_) (fun h => ?_)
  · skip
    refine v_bipush (pc := 14) (v := (-103)) hC dX12_nextTwo_14 (by decide) ?_
    exact v_iret (pc := 16) hC dX12_nextTwo_16 h
  · skip
    refine v_aload_n (pc := 7) hC dX12_nextTwo_7 rfl 0 rfl ?_
    refine v_get (pc := 8) (v := .int (F 121 8)) hC fl_X12_193 kq_121 rfl dX12_nextTwo_8 ?_
    refine v_if_ne (pc := 11) (tgt := 17) hC dX12_nextTwo_11 (by decide) h (fun h => ?_) (fun h => ?_)
    · skip
      refine v_iload_n (pc := 17) hC dX12_nextTwo_17 rfl 1 rfl ?_
      refine v_iconst (pc := 18) (v := 0) hC dX12_nextTwo_18 (by decide) ?_
      refine v_iconst (pc := 19) (v := 2) hC dX12_nextTwo_19 (by decide) ?_
      refine v_cyp (pc := 20) (r_S (rest := []) hC ml_X12_102 ms_X12_within (c_X12_within l E h) ⟨rfl, rfl⟩ ⟨Nat.le_of_ble_eq_true rfl, Nat.le_of_ble_eq_true rfl⟩ rfl rfl (Nat.le_of_ble_eq_true rfl) ⟨Nat.zero_le _, Nat.zero_le _⟩ dX12_nextTwo_20) (fun r1 b2 h => ?_)
      refine v_if_ne (pc := 23) (tgt := 29) hC dX12_nextTwo_23 (by decide) h (fun h => ?_) (fun h => ?_)
      · skip
        refine v_aload_n (pc := 29) hC dX12_nextTwo_29 rfl 0 rfl ?_
        refine v_get (pc := 30) (v := .int (F 121 18)) hC fl_X12_313 kq_121 rfl dX12_nextTwo_30 ?_
        refine v_bipush (pc := 33) (v := 30) hC dX12_nextTwo_33 (by decide) ?_
        refine v_ic_ne (pc := 35) (tgt := 41) hC dX12_nextTwo_35 (by decide) h (fun h => ?_) (fun h => ?_)
        · skip
          refine v_aload_n (pc := 41) hC dX12_nextTwo_41 rfl 0 rfl ?_
          refine v_dup (pc := 42) hC dX12_nextTwo_42 rfl ?_
          refine v_get (pc := 43) (v := .int (F 121 18)) hC fl_X12_313 kq_121 rfl dX12_nextTwo_43 ?_
          refine v_iconst (pc := 46) (v := 1) hC dX12_nextTwo_46 (by decide) ?_
          refine v_iadd (pc := 47) hC dX12_nextTwo_47 ?_
          refine v_puti (pc := 48) hC fp_X12_313 kq_121 (fs_10_18 E _ _ _) (fn_10_18 E _ _) dX12_nextTwo_48 h (fun F3 h => ?_)
          refine v_iconst (pc := 51) (v := 0) hC dX12_nextTwo_51 (by decide) ?_
          refine v_istore_n (pc := 52) (lv' := [(2, .int 0), (0, .ref (ad E 121)), (1, .int x1)]) hC dX12_nextTwo_52 rfl (by decide) rfl ?_
          refine v_iconst (pc := 53) (v := (-1)) hC dX12_nextTwo_53 (by decide) ?_
          refine v_istore_n (pc := 54) (lv' := [(3, .int (-1)), (2, .int 0), (0, .ref (ad E 121)), (1, .int x1)]) hC dX12_nextTwo_54 rfl (by decide) rfl ?_
          refine v_iconst (pc := 55) (v := 0) hC dX12_nextTwo_55 (by decide) ?_
          refine v_istore (pc := 56) (lv' := [(4, .int 0), (3, .int (-1)), (2, .int 0), (0, .ref (ad E 121)), (1, .int x1)]) hC dX12_nextTwo_56 (by decide) rfl ?_
          exact v_sub [3, 4, 2, 1, 0] rfl (jl_X12_nextTwo_58 hC h)
        · skip
          refine v_bipush (pc := 38) (v := (-103)) hC dX12_nextTwo_38 (by decide) ?_
          exact v_iret (pc := 40) hC dX12_nextTwo_40 h
      · skip
        refine v_bipush (pc := 26) (v := (-102)) hC dX12_nextTwo_26 (by decide) ?_
        exact v_iret (pc := 28) hC dX12_nextTwo_28 h
    · skip
      refine v_bipush (pc := 14) (v := (-103)) hC dX12_nextTwo_14 (by decide) ?_
      exact v_iret (pc := 16) hC dX12_nextTwo_16 h
def rm_X12_longest : Room := { frames := 0, cells := 0, slots := 0, locals := 0 }
def wb_X12_longest_4 (Q : Int32 → Prop) (F : gS) (x1 : Int32) (K4 : Int32 → Int32 → Prop) (x2 : Int32) (x3 : Int32) : Prop :=
  if x1 ≤ x3 then
    (Q x2)
  else
    (vp_in x3 9 ∧
    vp_in x2 9 ∧
    if (F 148 x2.toNatClampNeg) ≤ (F 148 x3.toNatClampNeg) then
      (Nm (x3 + 1) fun n1 =>
      K4 x2 n1)
    else
      (Nm (x3 + 1) fun n2 =>
      K4 x3 n2))
def wp_X12_longest (x1 : Int32) (F : gS) (Q : Int32 → Prop) : Prop :=
  LP2 (wb_X12_longest_4 Q F x1) 0 1
set_option maxRecDepth 20000 in
set_option maxHeartbeats 4000000 in
theorem jb_X12_longest_4 {p : Program} {l : Launch} {e : Env} {s : State} {m : MethodId} {args : Array Value} {below : List Frame} {meth : Method} {c : Code} {E : gE} (hC : CX p s m args meth c cX12_longest RX12 (some .int) E 4) {Q : Int32 → Prop} {F : gS} {x1 : Int32} {x2 : Int32} {x3 : Int32} {K4 : Int32 → Int32 → Prop} (hK4 : ∀ (x2 : Int32) (x3 : Int32), K4 x2 x3 → VV p l e rm_X12_longest s m args below meth c 0 0 (MQ below (va_Qi (fun r G => G = F ∧ Q r) (gB E) (gA E)) args s 0 0 (gA E)) E 4 F 4 [(0, .ref (ad E 121)), (1, .int x1), (2, .int x2), (3, .int x3)] []) (h : wb_X12_longest_4 Q F x1 K4 x2 x3) : VV p l e rm_X12_longest s m args below meth c 0 0 (MQ below (va_Qi (fun r G => G = F ∧ Q r) (gB E) (gA E)) args s 0 0 (gA E)) E 4 F 4 [(0, .ref (ad E 121)), (1, .int x1), (2, .int x2), (3, .int x3)] [] := by
  unfold wb_X12_longest_4 at h
  refine v_iload_n (pc := 4) hC dX12_longest_4 rfl 3 rfl ?_
  refine v_iload_n (pc := 5) hC dX12_longest_5 rfl 1 rfl ?_
  refine v_ic_ge (pc := 6) (tgt := 36) hC dX12_longest_6 (by decide) h (fun h => ?_) (fun h => ?_)
  · skip
    refine v_iload_n (pc := 36) hC dX12_longest_36 rfl 2 rfl ?_
    exact v_iret (pc := 37) hC dX12_longest_37 ⟨rfl, h⟩
  · skip
    refine v_aload_n (pc := 9) hC dX12_longest_9 rfl 0 rfl ?_
    refine v_get (pc := 10) (v := .ref (ad E 148)) hC fl_X12_90 kq_121 rfl dX12_longest_10 ?_
    refine v_iload_n (pc := 13) hC dX12_longest_13 rfl 3 rfl ?_
    refine v_iald (pc := 14) (n := 9) hC kq_148 (by decide) dX12_longest_14 h (fun h => ?_)
    refine v_aload_n (pc := 15) hC dX12_longest_15 rfl 0 rfl ?_
    refine v_get (pc := 16) (v := .ref (ad E 148)) hC fl_X12_90 kq_121 rfl dX12_longest_16 ?_
    refine v_iload_n (pc := 19) hC dX12_longest_19 rfl 2 rfl ?_
    refine v_iald (pc := 20) (n := 9) hC kq_148 (by decide) dX12_longest_20 h (fun h => ?_)
    refine v_ic_ge (pc := 21) (tgt := 28) hC dX12_longest_21 (by decide) h (fun h => ?_) (fun h => ?_)
    · skip
      refine v_iload_n (pc := 28) hC dX12_longest_28 rfl 2 rfl ?_
      refine v_istore_n (pc := 29) (lv' := [(2, .int x2), (0, .ref (ad E 121)), (1, .int x1), (3, .int x3)]) hC dX12_longest_29 rfl (by decide) rfl ?_
      refine v_iinc (pc := 30) (v := 1) hC (fun z => [(3, .int z), (2, .int x2), (0, .ref (ad E 121)), (1, .int x1)]) dX12_longest_30 3 rfl (by decide) (by decide) (fun _ => rfl) h (fun n1 h => ?_)
      refine v_goto (pc := 33) (tgt := 4) hC dX12_longest_33 (by decide) ?_
      exact v_sub [2, 3, 1, 0] rfl (hK4 _ _ h)
    · skip
      refine v_iload_n (pc := 24) hC dX12_longest_24 rfl 3 rfl ?_
      refine v_goto (pc := 25) (tgt := 29) hC dX12_longest_25 (by decide) ?_
      refine v_istore_n (pc := 29) (lv' := [(2, .int x3), (0, .ref (ad E 121)), (1, .int x1), (3, .int x3)]) hC dX12_longest_29 rfl (by decide) rfl ?_
      refine v_iinc (pc := 30) (v := 1) hC (fun z => [(3, .int z), (2, .int x3), (0, .ref (ad E 121)), (1, .int x1)]) dX12_longest_30 3 rfl (by decide) (by decide) (fun _ => rfl) h (fun n2 h => ?_)
      refine v_goto (pc := 33) (tgt := 4) hC dX12_longest_33 (by decide) ?_
      exact v_sub [2, 3, 1, 0] rfl (hK4 _ _ h)
set_option maxRecDepth 20000 in
set_option maxHeartbeats 4000000 in
theorem jl_X12_longest_4 {p : Program} {l : Launch} {e : Env} {s : State} {m : MethodId} {args : Array Value} {below : List Frame} {meth : Method} {c : Code} {E : gE} (hC : CX p s m args meth c cX12_longest RX12 (some .int) E 4) {Q : Int32 → Prop} {F : gS} {x1 : Int32} {x2 : Int32} {x3 : Int32} (h : LP2 (wb_X12_longest_4 Q F x1) x2 x3) : VV p l e rm_X12_longest s m args below meth c 0 0 (MQ below (va_Qi (fun r G => G = F ∧ Q r) (gB E) (gA E)) args s 0 0 (gA E)) E 4 F 4 [(0, .ref (ad E 121)), (1, .int x1), (2, .int x2), (3, .int x3)] [] :=
  LP2_go (V := fun (x2 : Int32) (x3 : Int32) => VV p l e rm_X12_longest s m args below meth c 0 0 (MQ below (va_Qi (fun r G => G = F ∧ Q r) (gB E) (gA E)) args s 0 0 (gA E)) E 4 F 4 [(0, .ref (ad E 121)), (1, .int x1), (2, .int x2), (3, .int x3)] []) (fun K4 hK4 x2 x3 h => jb_X12_longest_4 hC hK4 h) x2 x3 h
set_option maxRecDepth 20000 in
set_option maxHeartbeats 4000000 in
theorem c_X12_longest (l : Launch) (E : gE) {x1 : Int32} {F : gS} {Q : Int32 → Prop} (h : wp_X12_longest x1 F Q) : CtI l E yX12_longest cX12_longest 4 (some .int) rm_X12_longest [.ref (ad E 121), .int x1] F (fun r G => G = F ∧ Q r) := by
  refine ct_of (by decide) (Nat.le_of_ble_eq_true rfl) (fun p e s m below meth c hC => ?_)
  generalize ([.ref (ad E 121), .int x1] : List Value).toArray = args at hC ⊢
  refine v_sub (lv' := [(0, .ref (ad E 121)), (1, .int x1)]) [0, 1] rfl ?_
  unfold wp_X12_longest at h
  refine v_iconst (pc := 0) (v := 0) hC dX12_longest_0 (by decide) ?_
  refine v_istore_n (pc := 1) (lv' := [(2, .int 0), (0, .ref (ad E 121)), (1, .int x1)]) hC dX12_longest_1 rfl (by decide) rfl ?_
  refine v_iconst (pc := 2) (v := 1) hC dX12_longest_2 (by decide) ?_
  refine v_istore_n (pc := 3) (lv' := [(3, .int 1), (2, .int 0), (0, .ref (ad E 121)), (1, .int x1)]) hC dX12_longest_3 rfl (by decide) rfl ?_
  exact v_sub [2, 3, 1, 0] rfl (jl_X12_longest_4 hC h)
def rm_X12_rounds : Room := { frames := 1, cells := 0, slots := 0, locals := 23 }
def wp_X12_rounds_280 (K122 : gS → Int32 → Int32 → Int32 → Int32 → Prop) (Q : Int32 → gS → Prop) (F : gS) (x1 : Int32) (x2 : Int32) (x3 : Int32) (x4 : Int32) (x5 : Int32) (x6 : Int32) (x8 : Int32) (x9 : Int32) (x10 : Int32) (x11 : Int32) (x12 : Int32) (t0 : Int32) (t1 : Int32) (t2 : Int32) : Prop :=
  vp_in t2 9 ∧ Nm (upF F 148 t2.toNatClampNeg (t1 + t0)) fun F21 =>
  vp_in x12 9 ∧
  vp_in x12 9 ∧ Nm (upF F21 149 x12.toNatClampNeg (((F21 149 x12.toNatClampNeg) + 1) - ((F21 149 x12.toNatClampNeg) + 1) / 3 * 3)) fun F22 =>
  K122 F22 x8 x9 x10 x11
def wp_X12_rounds_239 (K122 : gS → Int32 → Int32 → Int32 → Int32 → Prop) (Q : Int32 → gS → Prop) (F : gS) (x1 : Int32) (x2 : Int32) (x3 : Int32) (x4 : Int32) (x5 : Int32) (x6 : Int32) (x9 : Int32) (x10 : Int32) (x11 : Int32) (x12 : Int32) (t0 : Int32) (t1 : Int32) : Prop :=
  Nm (t1 + t0) fun n20 =>
  vp_in x12 9 ∧
  if (F 149 x12.toNatClampNeg) = 0 then
    (wp_X12_rounds_280 K122 Q F x1 x2 x3 x4 x5 x6 n20 x9 x10 x11 x12 x2 x10 x12)
  else
    (vp_in x12 9 ∧
    if (F 149 x12.toNatClampNeg) = 1 then
      (wp_X12_rounds_280 K122 Q F x1 x2 x3 x4 x5 x6 n20 x9 x10 x11 x12 x3 x10 x12)
    else
      (wp_X12_rounds_280 K122 Q F x1 x2 x3 x4 x5 x6 n20 x9 x10 x11 x12 0 x10 x12))
def wp_X12_rounds_205 (K122 : gS → Int32 → Int32 → Int32 → Int32 → Prop) (Q : Int32 → gS → Prop) (F : gS) (x1 : Int32) (x2 : Int32) (x3 : Int32) (x4 : Int32) (x5 : Int32) (x6 : Int32) (x8 : Int32) (x11 : Int32) (x12 : Int32) (x13 : Int32) (t0 : Int32) : Prop :=
  Nm (x13 + x4) fun n19 =>
  vp_in x12 9 ∧
  if (F 149 x12.toNatClampNeg) = 2 then
    (if x5 < n19 then
      (wp_X12_rounds_239 K122 Q F x1 x2 x3 x4 x5 x6 t0 n19 x11 x12 0 x8)
    else
      (wp_X12_rounds_239 K122 Q F x1 x2 x3 x4 x5 x6 t0 n19 x11 x12 1 x8))
  else
    (wp_X12_rounds_239 K122 Q F x1 x2 x3 x4 x5 x6 t0 n19 x11 x12 0 x8)
def wp_X12_rounds_172 (K122 : gS → Int32 → Int32 → Int32 → Int32 → Prop) (Q : Int32 → gS → Prop) (F : gS) (x1 : Int32) (x2 : Int32) (x3 : Int32) (x4 : Int32) (x5 : Int32) (x6 : Int32) (x8 : Int32) (x9 : Int32) (x10 : Int32) (x12 : Int32) (x13 : Int32) (t0 : Int32) : Prop :=
  if t0 = 0 then
    (K122 F x8 x9 x10 t0)
  else
    (vp_in x12 9 ∧
    Nm (x13 - (F 148 x12.toNatClampNeg)) fun n18 =>
    if n18 ≤ x9 then
      (wp_X12_rounds_205 K122 Q F x1 x2 x3 x4 x5 x6 x8 t0 x12 x13 x9)
    else
      (wp_X12_rounds_205 K122 Q F x1 x2 x3 x4 x5 x6 x8 t0 x12 x13 n18))
def wb_X12_rounds_122 (Q : Int32 → gS → Prop) (x1 : Int32) (x2 : Int32) (x3 : Int32) (x4 : Int32) (x5 : Int32) (x6 : Int32) (K122 : gS → Int32 → Int32 → Int32 → Int32 → Prop) (F : gS) (x8 : Int32) (x9 : Int32) (x10 : Int32) (x11 : Int32) : Prop :=
  if x11 = 0 then
    (if x6 = 0 then
      (Q x8 F)
    else
      (Q x9 F))
  else
    (wp_X12_longest x1 F fun r16 =>
    vp_in r16 9 ∧
    if (F 148 r16.toNatClampNeg) ≤ x10 then
      (if x5 ≤ x10 then
        (wp_X12_rounds_172 K122 Q F x1 x2 x3 x4 x5 x6 x8 x9 x10 r16 x10 0)
      else
        (wp_X12_rounds_172 K122 Q F x1 x2 x3 x4 x5 x6 x8 x9 x10 r16 x10 1))
    else
      (vp_in r16 9 ∧
      Nm (F 148 r16.toNatClampNeg) fun n17 =>
      if x5 ≤ n17 then
        (wp_X12_rounds_172 K122 Q F x1 x2 x3 x4 x5 x6 x8 x9 x10 r16 n17 0)
      else
        (wp_X12_rounds_172 K122 Q F x1 x2 x3 x4 x5 x6 x8 x9 x10 r16 n17 1)))
def wb_X12_rounds_81 (Q : Int32 → gS → Prop) (x1 : Int32) (x2 : Int32) (x3 : Int32) (x4 : Int32) (x5 : Int32) (x6 : Int32) (K81 : gS → Int32 → Prop) (F : gS) (x8 : Int32) : Prop :=
  if 9 ≤ x8 then
    (LP5 (wb_X12_rounds_122 Q x1 x2 x3 x4 x5 x6) F 0 0 0 1)
  else
    (vp_in x8 9 ∧ Nm (upF F 148 x8.toNatClampNeg 0) fun F13 =>
    vp_in x8 9 ∧ Nm (upF F13 149 x8.toNatClampNeg 0) fun F14 =>
    Nm (x8 + 1) fun n15 =>
    K81 F14 n15)
def wp_X12_rounds_35 (Q : Int32 → gS → Prop) (F : gS) (x1 : Int32) (x2 : Int32) (x3 : Int32) (x4 : Int32) (x5 : Int32) (x6 : Int32) (t0 : Int32) : Prop :=
  if t0 = 0 then
    (Q (-102) F)
  else
    (wp_X12_within x4 1 9 F fun r7 =>
    if r7 = 0 then
      (Q (-102) F)
    else
      (wp_X12_within x5 0 999 F fun r9 =>
      if r9 = 0 then
        (Q (-102) F)
      else
        (wp_X12_within x6 0 1 F fun r11 =>
        if r11 = 0 then
          (Q (-102) F)
        else
          (LP2 (wb_X12_rounds_81 Q x1 x2 x3 x4 x5 x6) F 0))))
def wp_X12_rounds (x1 : Int32) (x2 : Int32) (x3 : Int32) (x4 : Int32) (x5 : Int32) (x6 : Int32) (F : gS) (Q : Int32 → gS → Prop) : Prop :=
  wp_X12_within x1 1 9 F fun r1 =>
  if r1 = 0 then
    (wp_X12_rounds_35 Q F x1 x2 x3 x4 x5 x6 0)
  else
    (wp_X12_within x2 1 99 F fun r3 =>
    if r3 = 0 then
      (wp_X12_rounds_35 Q F x1 x2 x3 x4 x5 x6 0)
    else
      (wp_X12_within x3 1 99 F fun r5 =>
      if r5 = 0 then
        (wp_X12_rounds_35 Q F x1 x2 x3 x4 x5 x6 0)
      else
        (wp_X12_rounds_35 Q F x1 x2 x3 x4 x5 x6 1)))
set_option maxRecDepth 20000 in
set_option maxHeartbeats 4000000 in
theorem j_X12_rounds_280 {p : Program} {l : Launch} {e : Env} {s : State} {m : MethodId} {args : Array Value} {below : List Frame} {meth : Method} {c : Code} {E : gE} (hC : CX p s m args meth c cX12_rounds RX12 (some .int) E 15) {Q : Int32 → gS → Prop} {F : gS} {x1 : Int32} {x2 : Int32} {x3 : Int32} {x4 : Int32} {x5 : Int32} {x6 : Int32} {x8 : Int32} {x9 : Int32} {x10 : Int32} {x11 : Int32} {x12 : Int32} {t0 : Int32} {t1 : Int32} {t2 : Int32} {K122 : gS → Int32 → Int32 → Int32 → Int32 → Prop} (hK122 : ∀ (F : gS) (x8 : Int32) (x9 : Int32) (x10 : Int32) (x11 : Int32), K122 F x8 x9 x10 x11 → VV p l e rm_X12_rounds s m args below meth c 0 0 (MQ below (va_Qi Q (gB E) (gA E)) args s 0 0 (gA E)) E 15 F 122 [(0, .ref (ad E 121)), (1, .int x1), (2, .int x2), (3, .int x3), (4, .int x4), (5, .int x5), (6, .int x6), (8, .int x8), (9, .int x9), (10, .int x10), (11, .int x11)] []) (h : wp_X12_rounds_280 K122 Q F x1 x2 x3 x4 x5 x6 x8 x9 x10 x11 x12 t0 t1 t2) : VV p l e rm_X12_rounds s m args below meth c 0 0 (MQ below (va_Qi Q (gB E) (gA E)) args s 0 0 (gA E)) E 15 F 280 [(0, .ref (ad E 121)), (1, .int x1), (2, .int x2), (3, .int x3), (4, .int x4), (5, .int x5), (6, .int x6), (8, .int x8), (9, .int x9), (10, .int x10), (11, .int x11), (12, .int x12)] [.int t0, .int t1, .int t2, .ref (ad E 148)] := by
  unfold wp_X12_rounds_280 at h
  refine v_iadd (pc := 280) hC dX12_rounds_280 ?_
  refine v_iast (pc := 281) (n := 9) hC kq_148 (by decide) dX12_rounds_281 h (fun F21 h => ?_)
  refine v_aload_n (pc := 282) hC dX12_rounds_282 rfl 0 rfl ?_
  refine v_get (pc := 283) (v := .ref (ad E 149)) hC fl_X12_93 kq_121 rfl dX12_rounds_283 ?_
  refine v_iload (pc := 286) hC dX12_rounds_286 11 rfl ?_
  refine v_aload_n (pc := 288) hC dX12_rounds_288 rfl 0 rfl ?_
  refine v_get (pc := 289) (v := .ref (ad E 149)) hC fl_X12_93 kq_121 rfl dX12_rounds_289 ?_
  refine v_iload (pc := 292) hC dX12_rounds_292 11 rfl ?_
  refine v_iald (pc := 294) (n := 9) hC kq_149 (by decide) dX12_rounds_294 h (fun h => ?_)
  refine v_iconst (pc := 295) (v := 1) hC dX12_rounds_295 (by decide) ?_
  refine v_iadd (pc := 296) hC dX12_rounds_296 ?_
  refine v_iconst (pc := 297) (v := 3) hC dX12_rounds_297 (by decide) ?_
  refine v_irem (pc := 298) hC dX12_rounds_298 ⟨by decide, h⟩ (fun h => ?_)
  refine v_iast (pc := 299) (n := 9) hC kq_149 (by decide) dX12_rounds_299 h (fun F22 h => ?_)
  refine v_goto (pc := 300) (tgt := 122) hC dX12_rounds_300 (by decide) ?_
  exact v_sub [0, 1, 2, 3, 4, 5, 6, 7, 8, 9, 10] rfl (hK122 _ _ _ _ _ h)
set_option maxRecDepth 20000 in
set_option maxHeartbeats 4000000 in
theorem j_X12_rounds_239 {p : Program} {l : Launch} {e : Env} {s : State} {m : MethodId} {args : Array Value} {below : List Frame} {meth : Method} {c : Code} {E : gE} (hC : CX p s m args meth c cX12_rounds RX12 (some .int) E 15) {Q : Int32 → gS → Prop} {F : gS} {x1 : Int32} {x2 : Int32} {x3 : Int32} {x4 : Int32} {x5 : Int32} {x6 : Int32} {x9 : Int32} {x10 : Int32} {x11 : Int32} {x12 : Int32} {t0 : Int32} {t1 : Int32} {K122 : gS → Int32 → Int32 → Int32 → Int32 → Prop} (hK122 : ∀ (F : gS) (x8 : Int32) (x9 : Int32) (x10 : Int32) (x11 : Int32), K122 F x8 x9 x10 x11 → VV p l e rm_X12_rounds s m args below meth c 0 0 (MQ below (va_Qi Q (gB E) (gA E)) args s 0 0 (gA E)) E 15 F 122 [(0, .ref (ad E 121)), (1, .int x1), (2, .int x2), (3, .int x3), (4, .int x4), (5, .int x5), (6, .int x6), (8, .int x8), (9, .int x9), (10, .int x10), (11, .int x11)] []) (h : wp_X12_rounds_239 K122 Q F x1 x2 x3 x4 x5 x6 x9 x10 x11 x12 t0 t1) : VV p l e rm_X12_rounds s m args below meth c 0 0 (MQ below (va_Qi Q (gB E) (gA E)) args s 0 0 (gA E)) E 15 F 239 [(0, .ref (ad E 121)), (1, .int x1), (2, .int x2), (3, .int x3), (4, .int x4), (5, .int x5), (6, .int x6), (9, .int x9), (10, .int x10), (11, .int x11), (12, .int x12)] [.int t0, .int t1] := by
  unfold wp_X12_rounds_239 at h
  refine v_iadd (pc := 239) hC dX12_rounds_239 ?_
  refine v_nmi h (fun n20 h => ?_)
  refine v_istore (pc := 240) (lv' := [(8, .int n20), (0, .ref (ad E 121)), (1, .int x1), (2, .int x2), (3, .int x3), (4, .int x4), (5, .int x5), (6, .int x6), (9, .int x9), (10, .int x10), (11, .int x11), (12, .int x12)]) hC dX12_rounds_240 (by decide) rfl ?_
  refine v_aload_n (pc := 242) hC dX12_rounds_242 rfl 1 rfl ?_
  refine v_get (pc := 243) (v := .ref (ad E 148)) hC fl_X12_90 kq_121 rfl dX12_rounds_243 ?_
  refine v_iload (pc := 246) hC dX12_rounds_246 11 rfl ?_
  refine v_iload (pc := 248) hC dX12_rounds_248 9 rfl ?_
  refine v_aload_n (pc := 250) hC dX12_rounds_250 rfl 1 rfl ?_
  refine v_get (pc := 251) (v := .ref (ad E 149)) hC fl_X12_93 kq_121 rfl dX12_rounds_251 ?_
  refine v_iload (pc := 254) hC dX12_rounds_254 11 rfl ?_
  refine v_iald (pc := 256) (n := 9) hC kq_149 (by decide) dX12_rounds_256 h (fun h => ?_)
  refine v_if_ne (pc := 257) (tgt := 264) hC dX12_rounds_257 (by decide) h (fun h => ?_) (fun h => ?_)
  · skip
    refine v_aload_n (pc := 264) hC dX12_rounds_264 rfl 1 rfl ?_
    refine v_get (pc := 265) (v := .ref (ad E 149)) hC fl_X12_93 kq_121 rfl dX12_rounds_265 ?_
    refine v_iload (pc := 268) hC dX12_rounds_268 11 rfl ?_
    refine v_iald (pc := 270) (n := 9) hC kq_149 (by decide) dX12_rounds_270 h (fun h => ?_)
    refine v_iconst (pc := 271) (v := 1) hC dX12_rounds_271 (by decide) ?_
    refine v_ic_ne (pc := 272) (tgt := 279) hC dX12_rounds_272 (by decide) h (fun h => ?_) (fun h => ?_)
    · skip
      refine v_iconst (pc := 279) (v := 0) hC dX12_rounds_279 (by decide) ?_
      exact v_sub [1, 2, 3, 4, 5, 6, 7, 0, 8, 9, 10, 11] rfl (j_X12_rounds_280 hC hK122 h)
    · skip
      refine v_iload_n (pc := 275) hC dX12_rounds_275 rfl 4 rfl ?_
      refine v_goto (pc := 276) (tgt := 280) hC dX12_rounds_276 (by decide) ?_
      exact v_sub [1, 2, 3, 4, 5, 6, 7, 0, 8, 9, 10, 11] rfl (j_X12_rounds_280 hC hK122 h)
  · skip
    refine v_iload_n (pc := 260) hC dX12_rounds_260 rfl 3 rfl ?_
    refine v_goto (pc := 261) (tgt := 280) hC dX12_rounds_261 (by decide) ?_
    exact v_sub [1, 2, 3, 4, 5, 6, 7, 0, 8, 9, 10, 11] rfl (j_X12_rounds_280 hC hK122 h)
set_option maxRecDepth 20000 in
set_option maxHeartbeats 4000000 in
theorem j_X12_rounds_205 {p : Program} {l : Launch} {e : Env} {s : State} {m : MethodId} {args : Array Value} {below : List Frame} {meth : Method} {c : Code} {E : gE} (hC : CX p s m args meth c cX12_rounds RX12 (some .int) E 15) {Q : Int32 → gS → Prop} {F : gS} {x1 : Int32} {x2 : Int32} {x3 : Int32} {x4 : Int32} {x5 : Int32} {x6 : Int32} {x8 : Int32} {x11 : Int32} {x12 : Int32} {x13 : Int32} {t0 : Int32} {K122 : gS → Int32 → Int32 → Int32 → Int32 → Prop} (hK122 : ∀ (F : gS) (x8 : Int32) (x9 : Int32) (x10 : Int32) (x11 : Int32), K122 F x8 x9 x10 x11 → VV p l e rm_X12_rounds s m args below meth c 0 0 (MQ below (va_Qi Q (gB E) (gA E)) args s 0 0 (gA E)) E 15 F 122 [(0, .ref (ad E 121)), (1, .int x1), (2, .int x2), (3, .int x3), (4, .int x4), (5, .int x5), (6, .int x6), (8, .int x8), (9, .int x9), (10, .int x10), (11, .int x11)] []) (h : wp_X12_rounds_205 K122 Q F x1 x2 x3 x4 x5 x6 x8 x11 x12 x13 t0) : VV p l e rm_X12_rounds s m args below meth c 0 0 (MQ below (va_Qi Q (gB E) (gA E)) args s 0 0 (gA E)) E 15 F 205 [(0, .ref (ad E 121)), (1, .int x1), (2, .int x2), (3, .int x3), (4, .int x4), (5, .int x5), (6, .int x6), (8, .int x8), (11, .int x11), (12, .int x12), (13, .int x13)] [.int t0] := by
  unfold wp_X12_rounds_205 at h
  refine v_istore (pc := 205) (lv' := [(9, .int t0), (0, .ref (ad E 121)), (1, .int x1), (2, .int x2), (3, .int x3), (4, .int x4), (5, .int x5), (6, .int x6), (8, .int x8), (11, .int x11), (12, .int x12), (13, .int x13)]) hC dX12_rounds_205 (by decide) rfl ?_
  refine v_iload (pc := 207) hC dX12_rounds_207 11 rfl ?_
  refine v_iload (pc := 209) hC dX12_rounds_209 5 rfl ?_
  refine v_iadd (pc := 211) hC dX12_rounds_211 ?_
  refine v_nmi h (fun n19 h => ?_)
  refine v_istore (pc := 212) (lv' := [(10, .int n19), (9, .int t0), (0, .ref (ad E 121)), (1, .int x1), (2, .int x2), (3, .int x3), (4, .int x4), (5, .int x5), (6, .int x6), (8, .int x8), (11, .int x11), (12, .int x12), (13, .int x13)]) hC dX12_rounds_212 (by decide) rfl ?_
  refine v_iload (pc := 214) hC dX12_rounds_214 9 rfl ?_
  refine v_aload_n (pc := 216) hC dX12_rounds_216 rfl 2 rfl ?_
  refine v_get (pc := 217) (v := .ref (ad E 149)) hC fl_X12_93 kq_121 rfl dX12_rounds_217 ?_
  refine v_iload (pc := 220) hC dX12_rounds_220 11 rfl ?_
  refine v_iald (pc := 222) (n := 9) hC kq_149 (by decide) dX12_rounds_222 h (fun h => ?_)
  refine v_iconst (pc := 223) (v := 2) hC dX12_rounds_223 (by decide) ?_
  refine v_ic_ne (pc := 224) (tgt := 238) hC dX12_rounds_224 (by decide) h (fun h => ?_) (fun h => ?_)
  · skip
    refine v_iconst (pc := 238) (v := 0) hC dX12_rounds_238 (by decide) ?_
    exact v_sub [2, 3, 4, 5, 6, 7, 8, 1, 0, 10, 11] rfl (j_X12_rounds_239 hC hK122 h)
  · skip
    refine v_iload (pc := 227) hC dX12_rounds_227 0 rfl ?_
    refine v_iload (pc := 229) hC dX12_rounds_229 7 rfl ?_
    refine v_ic_gt (pc := 231) (tgt := 238) hC dX12_rounds_231 (by decide) h (fun h => ?_) (fun h => ?_)
    · skip
      refine v_iconst (pc := 238) (v := 0) hC dX12_rounds_238 (by decide) ?_
      exact v_sub [2, 3, 4, 5, 6, 7, 8, 1, 0, 10, 11] rfl (j_X12_rounds_239 hC hK122 h)
    · skip
      refine v_iconst (pc := 234) (v := 1) hC dX12_rounds_234 (by decide) ?_
      refine v_goto (pc := 235) (tgt := 239) hC dX12_rounds_235 (by decide) ?_
      exact v_sub [2, 3, 4, 5, 6, 7, 8, 1, 0, 10, 11] rfl (j_X12_rounds_239 hC hK122 h)
set_option maxRecDepth 20000 in
set_option maxHeartbeats 4000000 in
theorem j_X12_rounds_172 {p : Program} {l : Launch} {e : Env} {s : State} {m : MethodId} {args : Array Value} {below : List Frame} {meth : Method} {c : Code} {E : gE} (hC : CX p s m args meth c cX12_rounds RX12 (some .int) E 15) {Q : Int32 → gS → Prop} {F : gS} {x1 : Int32} {x2 : Int32} {x3 : Int32} {x4 : Int32} {x5 : Int32} {x6 : Int32} {x8 : Int32} {x9 : Int32} {x10 : Int32} {x12 : Int32} {x13 : Int32} {t0 : Int32} {K122 : gS → Int32 → Int32 → Int32 → Int32 → Prop} (hK122 : ∀ (F : gS) (x8 : Int32) (x9 : Int32) (x10 : Int32) (x11 : Int32), K122 F x8 x9 x10 x11 → VV p l e rm_X12_rounds s m args below meth c 0 0 (MQ below (va_Qi Q (gB E) (gA E)) args s 0 0 (gA E)) E 15 F 122 [(0, .ref (ad E 121)), (1, .int x1), (2, .int x2), (3, .int x3), (4, .int x4), (5, .int x5), (6, .int x6), (8, .int x8), (9, .int x9), (10, .int x10), (11, .int x11)] []) (h : wp_X12_rounds_172 K122 Q F x1 x2 x3 x4 x5 x6 x8 x9 x10 x12 x13 t0) : VV p l e rm_X12_rounds s m args below meth c 0 0 (MQ below (va_Qi Q (gB E) (gA E)) args s 0 0 (gA E)) E 15 F 172 [(0, .ref (ad E 121)), (1, .int x1), (2, .int x2), (3, .int x3), (4, .int x4), (5, .int x5), (6, .int x6), (8, .int x8), (9, .int x9), (10, .int x10), (12, .int x12), (13, .int x13)] [.int t0] := by
  unfold wp_X12_rounds_172 at h
  refine v_istore (pc := 172) (lv' := [(11, .int t0), (0, .ref (ad E 121)), (1, .int x1), (2, .int x2), (3, .int x3), (4, .int x4), (5, .int x5), (6, .int x6), (8, .int x8), (9, .int x9), (10, .int x10), (12, .int x12), (13, .int x13)]) hC dX12_rounds_172 (by decide) rfl ?_
  refine v_iload (pc := 174) hC dX12_rounds_174 0 rfl ?_
  refine v_if_eq (pc := 176) (tgt := 300) hC dX12_rounds_176 (by decide) h (fun h => ?_) (fun h => ?_)
  · skip
    refine v_goto (pc := 300) (tgt := 122) hC dX12_rounds_300 (by decide) ?_
    exact v_sub [1, 2, 3, 4, 5, 6, 7, 8, 9, 10, 0] rfl (hK122 _ _ _ _ _ h)
  · skip
    refine v_iload (pc := 179) hC dX12_rounds_179 12 rfl ?_
    refine v_aload_n (pc := 181) hC dX12_rounds_181 rfl 1 rfl ?_
    refine v_get (pc := 182) (v := .ref (ad E 148)) hC fl_X12_90 kq_121 rfl dX12_rounds_182 ?_
    refine v_iload (pc := 185) hC dX12_rounds_185 11 rfl ?_
    refine v_iald (pc := 187) (n := 9) hC kq_148 (by decide) dX12_rounds_187 h (fun h => ?_)
    refine v_isub (pc := 188) hC dX12_rounds_188 ?_
    refine v_nmi h (fun n18 h => ?_)
    refine v_istore (pc := 189) (lv' := [(14, .int n18), (11, .int t0), (0, .ref (ad E 121)), (1, .int x1), (2, .int x2), (3, .int x3), (4, .int x4), (5, .int x5), (6, .int x6), (8, .int x8), (9, .int x9), (10, .int x10), (12, .int x12), (13, .int x13)]) hC dX12_rounds_189 (by decide) rfl ?_
    refine v_iload (pc := 191) hC dX12_rounds_191 0 rfl ?_
    refine v_iload (pc := 193) hC dX12_rounds_193 10 rfl ?_
    refine v_ic_le (pc := 195) (tgt := 203) hC dX12_rounds_195 (by decide) h (fun h => ?_) (fun h => ?_)
    · skip
      refine v_iload (pc := 203) hC dX12_rounds_203 10 rfl ?_
      exact v_sub [2, 3, 4, 5, 6, 7, 8, 9, 1, 12, 13] rfl (j_X12_rounds_205 hC hK122 h)
    · skip
      refine v_iload (pc := 198) hC dX12_rounds_198 0 rfl ?_
      refine v_goto (pc := 200) (tgt := 205) hC dX12_rounds_200 (by decide) ?_
      exact v_sub [2, 3, 4, 5, 6, 7, 8, 9, 1, 12, 13] rfl (j_X12_rounds_205 hC hK122 h)
set_option maxRecDepth 20000 in
set_option maxHeartbeats 4000000 in
theorem jb_X12_rounds_122 {p : Program} {l : Launch} {e : Env} {s : State} {m : MethodId} {args : Array Value} {below : List Frame} {meth : Method} {c : Code} {E : gE} (hC : CX p s m args meth c cX12_rounds RX12 (some .int) E 15) {Q : Int32 → gS → Prop} {F : gS} {x1 : Int32} {x2 : Int32} {x3 : Int32} {x4 : Int32} {x5 : Int32} {x6 : Int32} {x8 : Int32} {x9 : Int32} {x10 : Int32} {x11 : Int32} {K122 : gS → Int32 → Int32 → Int32 → Int32 → Prop} (hK122 : ∀ (F : gS) (x8 : Int32) (x9 : Int32) (x10 : Int32) (x11 : Int32), K122 F x8 x9 x10 x11 → VV p l e rm_X12_rounds s m args below meth c 0 0 (MQ below (va_Qi Q (gB E) (gA E)) args s 0 0 (gA E)) E 15 F 122 [(0, .ref (ad E 121)), (1, .int x1), (2, .int x2), (3, .int x3), (4, .int x4), (5, .int x5), (6, .int x6), (8, .int x8), (9, .int x9), (10, .int x10), (11, .int x11)] []) (h : wb_X12_rounds_122 Q x1 x2 x3 x4 x5 x6 K122 F x8 x9 x10 x11) : VV p l e rm_X12_rounds s m args below meth c 0 0 (MQ below (va_Qi Q (gB E) (gA E)) args s 0 0 (gA E)) E 15 F 122 [(0, .ref (ad E 121)), (1, .int x1), (2, .int x2), (3, .int x3), (4, .int x4), (5, .int x5), (6, .int x6), (8, .int x8), (9, .int x9), (10, .int x10), (11, .int x11)] [] := by
  unfold wb_X12_rounds_122 at h
  refine v_iload (pc := 122) hC dX12_rounds_122 10 rfl ?_
  refine v_if_eq (pc := 124) (tgt := 303) hC dX12_rounds_124 (by decide) h (fun h => ?_) (fun h => ?_)
  · skip
    refine v_iload (pc := 303) hC dX12_rounds_303 6 rfl ?_
    refine v_if_ne (pc := 305) (tgt := 313) hC dX12_rounds_305 (by decide) h (fun h => ?_) (fun h => ?_)
    · skip
      refine v_iload (pc := 313) hC dX12_rounds_313 8 rfl ?_
      exact v_iret (pc := 315) hC dX12_rounds_315 h
    · skip
      refine v_iload (pc := 308) hC dX12_rounds_308 7 rfl ?_
      refine v_goto (pc := 310) (tgt := 315) hC dX12_rounds_310 (by decide) ?_
      exact v_iret (pc := 315) hC dX12_rounds_315 h
  · skip
    refine v_aload_n (pc := 127) hC dX12_rounds_127 rfl 0 rfl ?_
    refine v_iload_n (pc := 128) hC dX12_rounds_128 rfl 1 rfl ?_
    refine v_cip (pc := 129) (r_V (rest := []) hC ml_X12_316 mv_X12_longest (c_X12_longest l E h) ⟨rfl, rfl⟩ ⟨Nat.le_of_ble_eq_true rfl, Nat.le_of_ble_eq_true rfl⟩ kq_121 rfl (by decide) rfl rfl (Nat.le_of_ble_eq_true rfl) ⟨Nat.zero_le _, Nat.zero_le _⟩ dX12_rounds_129) (fun r16 h => ?_)
    refine v_istore (pc := 132) (lv' := [(12, .int r16), (0, .ref (ad E 121)), (1, .int x1), (2, .int x2), (3, .int x3), (4, .int x4), (5, .int x5), (6, .int x6), (8, .int x8), (9, .int x9), (10, .int x10), (11, .int x11)]) hC dX12_rounds_132 (by decide) rfl ?_
    refine v_aload_n (pc := 134) hC dX12_rounds_134 rfl 1 rfl ?_
    refine v_get (pc := 135) (v := .ref (ad E 148)) hC fl_X12_90 kq_121 rfl dX12_rounds_135 ?_
    refine v_iload (pc := 138) hC dX12_rounds_138 0 rfl ?_
    refine v_iald (pc := 140) (n := 9) hC kq_148 (by decide) dX12_rounds_140 h (fun h => ?_)
    refine v_iload (pc := 141) hC dX12_rounds_141 10 rfl ?_
    refine v_ic_le (pc := 143) (tgt := 156) hC dX12_rounds_143 (by decide) h (fun h => ?_) (fun h => ?_)
    · skip
      refine v_iload (pc := 156) hC dX12_rounds_156 10 rfl ?_
      refine v_istore (pc := 158) (lv' := [(13, .int x10), (12, .int r16), (0, .ref (ad E 121)), (1, .int x1), (2, .int x2), (3, .int x3), (4, .int x4), (5, .int x5), (6, .int x6), (8, .int x8), (9, .int x9), (10, .int x10), (11, .int x11)]) hC dX12_rounds_158 (by decide) rfl ?_
      refine v_iload (pc := 160) hC dX12_rounds_160 0 rfl ?_
      refine v_iload (pc := 162) hC dX12_rounds_162 7 rfl ?_
      refine v_ic_ge (pc := 164) (tgt := 171) hC dX12_rounds_164 (by decide) h (fun h => ?_) (fun h => ?_)
      · skip
        refine v_iconst (pc := 171) (v := 0) hC dX12_rounds_171 (by decide) ?_
        exact v_sub [2, 3, 4, 5, 6, 7, 8, 9, 10, 11, 1, 0] rfl (j_X12_rounds_172 hC hK122 h)
      · skip
        refine v_iconst (pc := 167) (v := 1) hC dX12_rounds_167 (by decide) ?_
        refine v_goto (pc := 168) (tgt := 172) hC dX12_rounds_168 (by decide) ?_
        exact v_sub [2, 3, 4, 5, 6, 7, 8, 9, 10, 11, 1, 0] rfl (j_X12_rounds_172 hC hK122 h)
    · skip
      refine v_aload_n (pc := 146) hC dX12_rounds_146 rfl 1 rfl ?_
      refine v_get (pc := 147) (v := .ref (ad E 148)) hC fl_X12_90 kq_121 rfl dX12_rounds_147 ?_
      refine v_iload (pc := 150) hC dX12_rounds_150 0 rfl ?_
      refine v_iald (pc := 152) (n := 9) hC kq_148 (by decide) dX12_rounds_152 h (fun h => ?_)
      refine v_goto (pc := 153) (tgt := 158) hC dX12_rounds_153 (by decide) ?_
      refine v_nmi h (fun n17 h => ?_)
      refine v_istore (pc := 158) (lv' := [(13, .int n17), (12, .int r16), (0, .ref (ad E 121)), (1, .int x1), (2, .int x2), (3, .int x3), (4, .int x4), (5, .int x5), (6, .int x6), (8, .int x8), (9, .int x9), (10, .int x10), (11, .int x11)]) hC dX12_rounds_158 (by decide) rfl ?_
      refine v_iload (pc := 160) hC dX12_rounds_160 0 rfl ?_
      refine v_iload (pc := 162) hC dX12_rounds_162 7 rfl ?_
      refine v_ic_ge (pc := 164) (tgt := 171) hC dX12_rounds_164 (by decide) h (fun h => ?_) (fun h => ?_)
      · skip
        refine v_iconst (pc := 171) (v := 0) hC dX12_rounds_171 (by decide) ?_
        exact v_sub [2, 3, 4, 5, 6, 7, 8, 9, 10, 11, 1, 0] rfl (j_X12_rounds_172 hC hK122 h)
      · skip
        refine v_iconst (pc := 167) (v := 1) hC dX12_rounds_167 (by decide) ?_
        refine v_goto (pc := 168) (tgt := 172) hC dX12_rounds_168 (by decide) ?_
        exact v_sub [2, 3, 4, 5, 6, 7, 8, 9, 10, 11, 1, 0] rfl (j_X12_rounds_172 hC hK122 h)
set_option maxRecDepth 20000 in
set_option maxHeartbeats 4000000 in
theorem jl_X12_rounds_122 {p : Program} {l : Launch} {e : Env} {s : State} {m : MethodId} {args : Array Value} {below : List Frame} {meth : Method} {c : Code} {E : gE} (hC : CX p s m args meth c cX12_rounds RX12 (some .int) E 15) {Q : Int32 → gS → Prop} {F : gS} {x1 : Int32} {x2 : Int32} {x3 : Int32} {x4 : Int32} {x5 : Int32} {x6 : Int32} {x8 : Int32} {x9 : Int32} {x10 : Int32} {x11 : Int32} (h : LP5 (wb_X12_rounds_122 Q x1 x2 x3 x4 x5 x6) F x8 x9 x10 x11) : VV p l e rm_X12_rounds s m args below meth c 0 0 (MQ below (va_Qi Q (gB E) (gA E)) args s 0 0 (gA E)) E 15 F 122 [(0, .ref (ad E 121)), (1, .int x1), (2, .int x2), (3, .int x3), (4, .int x4), (5, .int x5), (6, .int x6), (8, .int x8), (9, .int x9), (10, .int x10), (11, .int x11)] [] :=
  LP5_go (V := fun (F : gS) (x8 : Int32) (x9 : Int32) (x10 : Int32) (x11 : Int32) => VV p l e rm_X12_rounds s m args below meth c 0 0 (MQ below (va_Qi Q (gB E) (gA E)) args s 0 0 (gA E)) E 15 F 122 [(0, .ref (ad E 121)), (1, .int x1), (2, .int x2), (3, .int x3), (4, .int x4), (5, .int x5), (6, .int x6), (8, .int x8), (9, .int x9), (10, .int x10), (11, .int x11)] []) (fun K122 hK122 F x8 x9 x10 x11 h => jb_X12_rounds_122 hC hK122 h) F x8 x9 x10 x11 h
set_option maxRecDepth 20000 in
set_option maxHeartbeats 4000000 in
theorem jb_X12_rounds_81 {p : Program} {l : Launch} {e : Env} {s : State} {m : MethodId} {args : Array Value} {below : List Frame} {meth : Method} {c : Code} {E : gE} (hC : CX p s m args meth c cX12_rounds RX12 (some .int) E 15) {Q : Int32 → gS → Prop} {F : gS} {x1 : Int32} {x2 : Int32} {x3 : Int32} {x4 : Int32} {x5 : Int32} {x6 : Int32} {x8 : Int32} {K81 : gS → Int32 → Prop} (hK81 : ∀ (F : gS) (x8 : Int32), K81 F x8 → VV p l e rm_X12_rounds s m args below meth c 0 0 (MQ below (va_Qi Q (gB E) (gA E)) args s 0 0 (gA E)) E 15 F 81 [(0, .ref (ad E 121)), (1, .int x1), (2, .int x2), (3, .int x3), (4, .int x4), (5, .int x5), (6, .int x6), (8, .int x8)] []) (h : wb_X12_rounds_81 Q x1 x2 x3 x4 x5 x6 K81 F x8) : VV p l e rm_X12_rounds s m args below meth c 0 0 (MQ below (va_Qi Q (gB E) (gA E)) args s 0 0 (gA E)) E 15 F 81 [(0, .ref (ad E 121)), (1, .int x1), (2, .int x2), (3, .int x3), (4, .int x4), (5, .int x5), (6, .int x6), (8, .int x8)] [] := by
  unfold wb_X12_rounds_81 at h
  refine v_iload (pc := 81) hC dX12_rounds_81 7 rfl ?_
  refine v_bipush (pc := 83) (v := 9) hC dX12_rounds_83 (by decide) ?_
  refine v_ic_ge (pc := 85) (tgt := 110) hC dX12_rounds_85 (by decide) h (fun h => ?_) (fun h => ?_)
  · skip
    refine v_iconst (pc := 110) (v := 0) hC dX12_rounds_110 (by decide) ?_
    refine v_istore (pc := 111) (lv' := [(8, .int 0), (0, .ref (ad E 121)), (1, .int x1), (2, .int x2), (3, .int x3), (4, .int x4), (5, .int x5), (6, .int x6)]) hC dX12_rounds_111 (by decide) rfl ?_
    refine v_iconst (pc := 113) (v := 0) hC dX12_rounds_113 (by decide) ?_
    refine v_istore (pc := 114) (lv' := [(9, .int 0), (8, .int 0), (0, .ref (ad E 121)), (1, .int x1), (2, .int x2), (3, .int x3), (4, .int x4), (5, .int x5), (6, .int x6)]) hC dX12_rounds_114 (by decide) rfl ?_
    refine v_iconst (pc := 116) (v := 0) hC dX12_rounds_116 (by decide) ?_
    refine v_istore (pc := 117) (lv' := [(10, .int 0), (9, .int 0), (8, .int 0), (0, .ref (ad E 121)), (1, .int x1), (2, .int x2), (3, .int x3), (4, .int x4), (5, .int x5), (6, .int x6)]) hC dX12_rounds_117 (by decide) rfl ?_
    refine v_iconst (pc := 119) (v := 1) hC dX12_rounds_119 (by decide) ?_
    refine v_istore (pc := 120) (lv' := [(11, .int 1), (10, .int 0), (9, .int 0), (8, .int 0), (0, .ref (ad E 121)), (1, .int x1), (2, .int x2), (3, .int x3), (4, .int x4), (5, .int x5), (6, .int x6)]) hC dX12_rounds_120 (by decide) rfl ?_
    exact v_sub [4, 5, 6, 7, 8, 9, 10, 3, 2, 1, 0] rfl (jl_X12_rounds_122 hC h)
  · skip
    refine v_aload_n (pc := 88) hC dX12_rounds_88 rfl 0 rfl ?_
    refine v_get (pc := 89) (v := .ref (ad E 148)) hC fl_X12_90 kq_121 rfl dX12_rounds_89 ?_
    refine v_iload (pc := 92) hC dX12_rounds_92 7 rfl ?_
    refine v_iconst (pc := 94) (v := 0) hC dX12_rounds_94 (by decide) ?_
    refine v_iast (pc := 95) (n := 9) hC kq_148 (by decide) dX12_rounds_95 h (fun F13 h => ?_)
    refine v_aload_n (pc := 96) hC dX12_rounds_96 rfl 0 rfl ?_
    refine v_get (pc := 97) (v := .ref (ad E 149)) hC fl_X12_93 kq_121 rfl dX12_rounds_97 ?_
    refine v_iload (pc := 100) hC dX12_rounds_100 7 rfl ?_
    refine v_iconst (pc := 102) (v := 0) hC dX12_rounds_102 (by decide) ?_
    refine v_iast (pc := 103) (n := 9) hC kq_149 (by decide) dX12_rounds_103 h (fun F14 h => ?_)
    refine v_iinc (pc := 104) (v := 1) hC (fun z => [(8, .int z), (0, .ref (ad E 121)), (1, .int x1), (2, .int x2), (3, .int x3), (4, .int x4), (5, .int x5), (6, .int x6)]) dX12_rounds_104 7 rfl (by decide) (by decide) (fun _ => rfl) h (fun n15 h => ?_)
    refine v_goto (pc := 107) (tgt := 81) hC dX12_rounds_107 (by decide) ?_
    exact v_sub [1, 2, 3, 4, 5, 6, 7, 0] rfl (hK81 _ _ h)
set_option maxRecDepth 20000 in
set_option maxHeartbeats 4000000 in
theorem jl_X12_rounds_81 {p : Program} {l : Launch} {e : Env} {s : State} {m : MethodId} {args : Array Value} {below : List Frame} {meth : Method} {c : Code} {E : gE} (hC : CX p s m args meth c cX12_rounds RX12 (some .int) E 15) {Q : Int32 → gS → Prop} {F : gS} {x1 : Int32} {x2 : Int32} {x3 : Int32} {x4 : Int32} {x5 : Int32} {x6 : Int32} {x8 : Int32} (h : LP2 (wb_X12_rounds_81 Q x1 x2 x3 x4 x5 x6) F x8) : VV p l e rm_X12_rounds s m args below meth c 0 0 (MQ below (va_Qi Q (gB E) (gA E)) args s 0 0 (gA E)) E 15 F 81 [(0, .ref (ad E 121)), (1, .int x1), (2, .int x2), (3, .int x3), (4, .int x4), (5, .int x5), (6, .int x6), (8, .int x8)] [] :=
  LP2_go (V := fun (F : gS) (x8 : Int32) => VV p l e rm_X12_rounds s m args below meth c 0 0 (MQ below (va_Qi Q (gB E) (gA E)) args s 0 0 (gA E)) E 15 F 81 [(0, .ref (ad E 121)), (1, .int x1), (2, .int x2), (3, .int x3), (4, .int x4), (5, .int x5), (6, .int x6), (8, .int x8)] []) (fun K81 hK81 F x8 h => jb_X12_rounds_81 hC hK81 h) F x8 h
set_option maxRecDepth 20000 in
set_option maxHeartbeats 4000000 in
theorem j_X12_rounds_35 {p : Program} {l : Launch} {e : Env} {s : State} {m : MethodId} {args : Array Value} {below : List Frame} {meth : Method} {c : Code} {E : gE} (hC : CX p s m args meth c cX12_rounds RX12 (some .int) E 15) {Q : Int32 → gS → Prop} {F : gS} {x1 : Int32} {x2 : Int32} {x3 : Int32} {x4 : Int32} {x5 : Int32} {x6 : Int32} {t0 : Int32} (h : wp_X12_rounds_35 Q F x1 x2 x3 x4 x5 x6 t0) : VV p l e rm_X12_rounds s m args below meth c 0 0 (MQ below (va_Qi Q (gB E) (gA E)) args s 0 0 (gA E)) E 15 F 35 [(0, .ref (ad E 121)), (1, .int x1), (2, .int x2), (3, .int x3), (4, .int x4), (5, .int x5), (6, .int x6)] [.int t0] := by
  unfold wp_X12_rounds_35 at h
  refine v_istore (pc := 35) (lv' := [(7, .int t0), (0, .ref (ad E 121)), (1, .int x1), (2, .int x2), (3, .int x3), (4, .int x4), (5, .int x5), (6, .int x6)]) hC dX12_rounds_35 (by decide) rfl ?_
  refine v_iload (pc := 37) hC dX12_rounds_37 0 rfl ?_
  refine v_if_eq (pc := 39) (tgt := 75) hC dX12_rounds_39 (by decide) h (fun h => ?_) (fun h => ?_)
  · skip
    refine v_bipush (pc := 75) (v := (-102)) hC dX12_rounds_75 (by decide) ?_
    exact v_iret (pc := 77) hC dX12_rounds_77 h
  · skip
    refine v_iload (pc := 42) hC dX12_rounds_42 5 rfl ?_
    refine v_iconst (pc := 44) (v := 1) hC dX12_rounds_44 (by decide) ?_
    refine v_bipush (pc := 45) (v := 9) hC dX12_rounds_45 (by decide) ?_
    refine v_cyp (pc := 47) (r_S (rest := []) hC ml_X12_102 ms_X12_within (c_X12_within l E h) ⟨rfl, rfl⟩ ⟨Nat.le_of_ble_eq_true rfl, Nat.le_of_ble_eq_true rfl⟩ rfl rfl (Nat.le_of_ble_eq_true rfl) ⟨Nat.zero_le _, Nat.zero_le _⟩ dX12_rounds_47) (fun r7 b8 h => ?_)
    refine v_if_eq (pc := 50) (tgt := 75) hC dX12_rounds_50 (by decide) h (fun h => ?_) (fun h => ?_)
    · skip
      refine v_bipush (pc := 75) (v := (-102)) hC dX12_rounds_75 (by decide) ?_
      exact v_iret (pc := 77) hC dX12_rounds_77 h
    · skip
      refine v_iload (pc := 53) hC dX12_rounds_53 6 rfl ?_
      refine v_iconst (pc := 55) (v := 0) hC dX12_rounds_55 (by decide) ?_
      refine v_sipush (pc := 56) (v := 999) hC dX12_rounds_56 (by decide) ?_
      refine v_cyp (pc := 59) (r_S (rest := []) hC ml_X12_102 ms_X12_within (c_X12_within l E h) ⟨rfl, rfl⟩ ⟨Nat.le_of_ble_eq_true rfl, Nat.le_of_ble_eq_true rfl⟩ rfl rfl (Nat.le_of_ble_eq_true rfl) ⟨Nat.zero_le _, Nat.zero_le _⟩ dX12_rounds_59) (fun r9 b10 h => ?_)
      refine v_if_eq (pc := 62) (tgt := 75) hC dX12_rounds_62 (by decide) h (fun h => ?_) (fun h => ?_)
      · skip
        refine v_bipush (pc := 75) (v := (-102)) hC dX12_rounds_75 (by decide) ?_
        exact v_iret (pc := 77) hC dX12_rounds_77 h
      · skip
        refine v_iload (pc := 65) hC dX12_rounds_65 7 rfl ?_
        refine v_iconst (pc := 67) (v := 0) hC dX12_rounds_67 (by decide) ?_
        refine v_iconst (pc := 68) (v := 1) hC dX12_rounds_68 (by decide) ?_
        refine v_cyp (pc := 69) (r_S (rest := []) hC ml_X12_102 ms_X12_within (c_X12_within l E h) ⟨rfl, rfl⟩ ⟨Nat.le_of_ble_eq_true rfl, Nat.le_of_ble_eq_true rfl⟩ rfl rfl (Nat.le_of_ble_eq_true rfl) ⟨Nat.zero_le _, Nat.zero_le _⟩ dX12_rounds_69) (fun r11 b12 h => ?_)
        refine v_if_ne (pc := 72) (tgt := 78) hC dX12_rounds_72 (by decide) h (fun h => ?_) (fun h => ?_)
        · skip
          refine v_iconst (pc := 78) (v := 0) hC dX12_rounds_78 (by decide) ?_
          refine v_istore (pc := 79) (lv' := [(8, .int 0), (7, .int t0), (0, .ref (ad E 121)), (1, .int x1), (2, .int x2), (3, .int x3), (4, .int x4), (5, .int x5), (6, .int x6)]) hC dX12_rounds_79 (by decide) rfl ?_
          exact v_sub [2, 3, 4, 5, 6, 7, 8, 0] rfl (jl_X12_rounds_81 hC h)
        · skip
          refine v_bipush (pc := 75) (v := (-102)) hC dX12_rounds_75 (by decide) ?_
          exact v_iret (pc := 77) hC dX12_rounds_77 h
set_option maxRecDepth 20000 in
set_option maxHeartbeats 4000000 in
theorem c_X12_rounds (l : Launch) (E : gE) {x1 : Int32} {x2 : Int32} {x3 : Int32} {x4 : Int32} {x5 : Int32} {x6 : Int32} {F : gS} {Q : Int32 → gS → Prop} (h : wp_X12_rounds x1 x2 x3 x4 x5 x6 F Q) : CtI l E yX12_rounds cX12_rounds 15 (some .int) rm_X12_rounds [.ref (ad E 121), .int x1, .int x2, .int x3, .int x4, .int x5, .int x6] F Q := by
  refine ct_of (by decide) (Nat.le_of_ble_eq_true rfl) (fun p e s m below meth c hC => ?_)
  generalize ([.ref (ad E 121), .int x1, .int x2, .int x3, .int x4, .int x5, .int x6] : List Value).toArray = args at hC ⊢
  refine v_sub (lv' := [(0, .ref (ad E 121)), (1, .int x1), (2, .int x2), (3, .int x3), (4, .int x4), (5, .int x5), (6, .int x6)]) [0, 1, 2, 3, 4, 5, 6] rfl ?_
  unfold wp_X12_rounds at h
  refine v_iload_n (pc := 0) hC dX12_rounds_0 rfl 1 rfl ?_
  refine v_iconst (pc := 1) (v := 1) hC dX12_rounds_1 (by decide) ?_
  refine v_bipush (pc := 2) (v := 9) hC dX12_rounds_2 (by decide) ?_
  refine v_cyp (pc := 4) (r_S (rest := []) hC ml_X12_102 ms_X12_within (c_X12_within l E h) ⟨rfl, rfl⟩ ⟨Nat.le_of_ble_eq_true rfl, Nat.le_of_ble_eq_true rfl⟩ rfl rfl (Nat.le_of_ble_eq_true rfl) ⟨Nat.zero_le _, Nat.zero_le _⟩ dX12_rounds_4) (fun r1 b2 h => ?_)
  refine v_if_eq (pc := 7) (tgt := 34) hC dX12_rounds_7 (by decide) h (fun h => ?_) (fun h => ?_)
  · skip
    refine v_iconst (pc := 34) (v := 0) hC dX12_rounds_34 (by decide) ?_
    exact v_sub [0, 1, 2, 3, 4, 5, 6] rfl (j_X12_rounds_35 hC h)
  · skip
    refine v_iload_n (pc := 10) hC dX12_rounds_10 rfl 2 rfl ?_
    refine v_iconst (pc := 11) (v := 1) hC dX12_rounds_11 (by decide) ?_
    refine v_bipush (pc := 12) (v := 99) hC dX12_rounds_12 (by decide) ?_
    refine v_cyp (pc := 14) (r_S (rest := []) hC ml_X12_102 ms_X12_within (c_X12_within l E h) ⟨rfl, rfl⟩ ⟨Nat.le_of_ble_eq_true rfl, Nat.le_of_ble_eq_true rfl⟩ rfl rfl (Nat.le_of_ble_eq_true rfl) ⟨Nat.zero_le _, Nat.zero_le _⟩ dX12_rounds_14) (fun r3 b4 h => ?_)
    refine v_if_eq (pc := 17) (tgt := 34) hC dX12_rounds_17 (by decide) h (fun h => ?_) (fun h => ?_)
    · skip
      refine v_iconst (pc := 34) (v := 0) hC dX12_rounds_34 (by decide) ?_
      exact v_sub [0, 1, 2, 3, 4, 5, 6] rfl (j_X12_rounds_35 hC h)
    · skip
      refine v_iload_n (pc := 20) hC dX12_rounds_20 rfl 3 rfl ?_
      refine v_iconst (pc := 21) (v := 1) hC dX12_rounds_21 (by decide) ?_
      refine v_bipush (pc := 22) (v := 99) hC dX12_rounds_22 (by decide) ?_
      refine v_cyp (pc := 24) (r_S (rest := []) hC ml_X12_102 ms_X12_within (c_X12_within l E h) ⟨rfl, rfl⟩ ⟨Nat.le_of_ble_eq_true rfl, Nat.le_of_ble_eq_true rfl⟩ rfl rfl (Nat.le_of_ble_eq_true rfl) ⟨Nat.zero_le _, Nat.zero_le _⟩ dX12_rounds_24) (fun r5 b6 h => ?_)
      refine v_if_eq (pc := 27) (tgt := 34) hC dX12_rounds_27 (by decide) h (fun h => ?_) (fun h => ?_)
      · skip
        refine v_iconst (pc := 34) (v := 0) hC dX12_rounds_34 (by decide) ?_
        exact v_sub [0, 1, 2, 3, 4, 5, 6] rfl (j_X12_rounds_35 hC h)
      · skip
        refine v_iconst (pc := 30) (v := 1) hC dX12_rounds_30 (by decide) ?_
        refine v_goto (pc := 31) (tgt := 35) hC dX12_rounds_31 (by decide) ?_
        exact v_sub [0, 1, 2, 3, 4, 5, 6] rfl (j_X12_rounds_35 hC h)
def rm_X12_isToss : Room := { frames := 1, cells := 0, slots := 0, locals := 22 }
def wp_X12_isToss (x0 : Int32) (x1 : Int32) (F : gS) (Q : Int32 → Prop) : Prop :=
  wp_X12_within x0 1 30 F fun r1 =>
  if r1 = 0 then
    (Q 0)
  else
    (wp_X12_within x1 1 30 F fun r3 =>
    if r3 = 0 then
      (Q 0)
    else
      (Q 1))
set_option maxRecDepth 20000 in
set_option maxHeartbeats 4000000 in
theorem c_X12_isToss (l : Launch) (E : gE) {x0 : Int32} {x1 : Int32} {F : gS} {Q : Int32 → Prop} (h : wp_X12_isToss x0 x1 F Q) : CtI l E yX12_isToss cX12_isToss 2 (some .boolean) rm_X12_isToss [.int x0, .int x1] F (fun r G => (r = 0 ∨ r = 1) ∧ G = F ∧ Q r) := by
  refine ct_of (by decide) (Nat.le_of_ble_eq_true rfl) (fun p e s m below meth c hC => ?_)
  generalize ([.int x0, .int x1] : List Value).toArray = args at hC ⊢
  refine v_sub (lv' := [(0, .int x0), (1, .int x1)]) [0, 1] rfl ?_
  unfold wp_X12_isToss at h
  refine v_iload_n (pc := 0) hC dX12_isToss_0 rfl 0 rfl ?_
  refine v_iconst (pc := 1) (v := 1) hC dX12_isToss_1 (by decide) ?_
  refine v_bipush (pc := 2) (v := 30) hC dX12_isToss_2 (by decide) ?_
  refine v_cyp (pc := 4) (r_S (rest := []) hC ml_X12_102 ms_X12_within (c_X12_within l E h) ⟨rfl, rfl⟩ ⟨Nat.le_of_ble_eq_true rfl, Nat.le_of_ble_eq_true rfl⟩ rfl rfl (Nat.le_of_ble_eq_true rfl) ⟨Nat.zero_le _, Nat.zero_le _⟩ dX12_isToss_4) (fun r1 b2 h => ?_)
  refine v_if_eq (pc := 7) (tgt := 24) hC dX12_isToss_7 (by decide) h (fun h => ?_) (fun h => ?_)
  · skip
    refine v_iconst (pc := 24) (v := 0) hC dX12_isToss_24 (by decide) ?_
    exact v_zret (pc := 25) hC dX12_isToss_25 (Or.inl rfl) ⟨Or.inl rfl, rfl, h⟩
  · skip
    refine v_iload_n (pc := 10) hC dX12_isToss_10 rfl 1 rfl ?_
    refine v_iconst (pc := 11) (v := 1) hC dX12_isToss_11 (by decide) ?_
    refine v_bipush (pc := 12) (v := 30) hC dX12_isToss_12 (by decide) ?_
    refine v_cyp (pc := 14) (r_S (rest := []) hC ml_X12_102 ms_X12_within (c_X12_within l E h) ⟨rfl, rfl⟩ ⟨Nat.le_of_ble_eq_true rfl, Nat.le_of_ble_eq_true rfl⟩ rfl rfl (Nat.le_of_ble_eq_true rfl) ⟨Nat.zero_le _, Nat.zero_le _⟩ dX12_isToss_14) (fun r3 b4 h => ?_)
    refine v_if_eq (pc := 17) (tgt := 24) hC dX12_isToss_17 (by decide) h (fun h => ?_) (fun h => ?_)
    · skip
      refine v_iconst (pc := 24) (v := 0) hC dX12_isToss_24 (by decide) ?_
      exact v_zret (pc := 25) hC dX12_isToss_25 (Or.inl rfl) ⟨Or.inl rfl, rfl, h⟩
    · skip
      refine v_iconst (pc := 20) (v := 1) hC dX12_isToss_20 (by decide) ?_
      refine v_goto (pc := 21) (tgt := 25) hC dX12_isToss_21 (by decide) ?_
      exact v_zret (pc := 25) hC dX12_isToss_25 (Or.inr rfl) ⟨Or.inr rfl, rfl, h⟩
def rm_X12_landing : Room := { frames := 0, cells := 0, slots := 0, locals := 0 }
def wp_X12_landing (x0 : Int32) (x1 : Int32) (F : gS) (Q : Int32 → Prop) : Prop :=
  if (((x0 * x1) / 10) - ((x0 * x1) / 10) / 4 * 4) = 2 then
    (Q 1)
  else
    (Q 0)
set_option maxRecDepth 20000 in
set_option maxHeartbeats 4000000 in
theorem c_X12_landing (l : Launch) (E : gE) {x0 : Int32} {x1 : Int32} {F : gS} {Q : Int32 → Prop} (h : wp_X12_landing x0 x1 F Q) : CtI l E yX12_landing cX12_landing 2 (some .int) rm_X12_landing [.int x0, .int x1] F (fun r G => G = F ∧ Q r) := by
  refine ct_of (by decide) (Nat.le_of_ble_eq_true rfl) (fun p e s m below meth c hC => ?_)
  generalize ([.int x0, .int x1] : List Value).toArray = args at hC ⊢
  refine v_sub (lv' := [(0, .int x0), (1, .int x1)]) [0, 1] rfl ?_
  unfold wp_X12_landing at h
  refine v_iload_n (pc := 0) hC dX12_landing_0 rfl 0 rfl ?_
  refine v_iload_n (pc := 1) hC dX12_landing_1 rfl 1 rfl ?_
  refine v_imul (pc := 2) hC dX12_landing_2 ?_
  refine v_bipush (pc := 3) (v := 10) hC dX12_landing_3 (by decide) ?_
  refine v_idiv (pc := 5) hC dX12_landing_5 ⟨by decide, h⟩ (fun h => ?_)
  refine v_iconst (pc := 6) (v := 4) hC dX12_landing_6 (by decide) ?_
  refine v_irem (pc := 7) hC dX12_landing_7 ⟨by decide, h⟩ (fun h => ?_)
  refine v_iconst (pc := 8) (v := 2) hC dX12_landing_8 (by decide) ?_
  refine v_ic_ne (pc := 9) (tgt := 16) hC dX12_landing_9 (by decide) h (fun h => ?_) (fun h => ?_)
  · skip
    refine v_iconst (pc := 16) (v := 0) hC dX12_landing_16 (by decide) ?_
    exact v_iret (pc := 17) hC dX12_landing_17 ⟨rfl, h⟩
  · skip
    refine v_iconst (pc := 12) (v := 1) hC dX12_landing_12 (by decide) ?_
    refine v_goto (pc := 13) (tgt := 17) hC dX12_landing_13 (by decide) ?_
    exact v_iret (pc := 17) hC dX12_landing_17 ⟨rfl, h⟩
def rm_X12_toss : Room := { frames := 2, cells := 0, slots := 0, locals := 43 }
def wp_X12_toss (x1 : Int32) (x2 : Int32) (F : gS) (Q : Int32 → Prop) : Prop :=
  wp_X12_isToss x1 x2 F fun r1 =>
  if r1 = 0 then
    (Q (-102))
  else
    (wp_X12_landing x1 x2 F fun r3 =>
    Q r3)
set_option maxRecDepth 20000 in
set_option maxHeartbeats 4000000 in
theorem c_X12_toss (l : Launch) (E : gE) {x1 : Int32} {x2 : Int32} {F : gS} {Q : Int32 → Prop} (h : wp_X12_toss x1 x2 F Q) : CtI l E yX12_toss cX12_toss 3 (some .int) rm_X12_toss [.ref (ad E 121), .int x1, .int x2] F (fun r G => G = F ∧ Q r) := by
  refine ct_of (by decide) (Nat.le_of_ble_eq_true rfl) (fun p e s m below meth c hC => ?_)
  generalize ([.ref (ad E 121), .int x1, .int x2] : List Value).toArray = args at hC ⊢
  refine v_sub (lv' := [(0, .ref (ad E 121)), (1, .int x1), (2, .int x2)]) [0, 1, 2] rfl ?_
  unfold wp_X12_toss at h
  refine v_iload_n (pc := 0) hC dX12_toss_0 rfl 1 rfl ?_
  refine v_iload_n (pc := 1) hC dX12_toss_1 rfl 2 rfl ?_
  refine v_cyp (pc := 2) (r_S (rest := []) hC ml_X12_319 ms_X12_isToss (c_X12_isToss l E h) ⟨rfl, rfl⟩ ⟨Nat.le_of_ble_eq_true rfl, Nat.le_of_ble_eq_true rfl⟩ rfl rfl (Nat.le_of_ble_eq_true rfl) ⟨Nat.zero_le _, Nat.zero_le _⟩ dX12_toss_2) (fun r1 b2 h => ?_)
  refine v_if_eq (pc := 5) (tgt := 16) hC dX12_toss_5 (by decide) h (fun h => ?_) (fun h => ?_)
  · skip
    refine v_bipush (pc := 16) (v := (-102)) hC dX12_toss_16 (by decide) ?_
    exact v_iret (pc := 18) hC dX12_toss_18 ⟨rfl, h⟩
  · skip
    refine v_iload_n (pc := 8) hC dX12_toss_8 rfl 1 rfl ?_
    refine v_iload_n (pc := 9) hC dX12_toss_9 rfl 2 rfl ?_
    refine v_cip (pc := 10) (r_S (rest := []) hC ml_X12_322 ms_X12_landing (c_X12_landing l E h) ⟨rfl, rfl⟩ ⟨Nat.le_of_ble_eq_true rfl, Nat.le_of_ble_eq_true rfl⟩ rfl rfl (Nat.le_of_ble_eq_true rfl) ⟨Nat.zero_le _, Nat.zero_le _⟩ dX12_toss_10) (fun r3 h => ?_)
    refine v_goto (pc := 13) (tgt := 18) hC dX12_toss_13 (by decide) ?_
    exact v_iret (pc := 18) hC dX12_toss_18 ⟨rfl, h⟩
def rm_X12_slowest : Room := { frames := 0, cells := 0, slots := 0, locals := 0 }
def wp_X12_slowest (x0 : Int32) (x1 : Int32) (F : gS) (Q : Int32 → Prop) : Prop :=
  if 1 ≤ (x0 - x1) then
    (Q (x0 - x1))
  else
    (Q 1)
set_option maxRecDepth 20000 in
set_option maxHeartbeats 4000000 in
theorem c_X12_slowest (l : Launch) (E : gE) {x0 : Int32} {x1 : Int32} {F : gS} {Q : Int32 → Prop} (h : wp_X12_slowest x0 x1 F Q) : CtI l E yX12_slowest cX12_slowest 2 (some .int) rm_X12_slowest [.int x0, .int x1] F (fun r G => G = F ∧ Q r) := by
  refine ct_of (by decide) (Nat.le_of_ble_eq_true rfl) (fun p e s m below meth c hC => ?_)
  generalize ([.int x0, .int x1] : List Value).toArray = args at hC ⊢
  refine v_sub (lv' := [(0, .int x0), (1, .int x1)]) [0, 1] rfl ?_
  unfold wp_X12_slowest at h
  refine v_iload_n (pc := 0) hC dX12_slowest_0 rfl 0 rfl ?_
  refine v_iload_n (pc := 1) hC dX12_slowest_1 rfl 1 rfl ?_
  refine v_isub (pc := 2) hC dX12_slowest_2 ?_
  refine v_iconst (pc := 3) (v := 1) hC dX12_slowest_3 (by decide) ?_
  refine v_ic_ge (pc := 4) (tgt := 11) hC dX12_slowest_4 (by decide) h (fun h => ?_) (fun h => ?_)
  · skip
    refine v_iload_n (pc := 11) hC dX12_slowest_11 rfl 0 rfl ?_
    refine v_iload_n (pc := 12) hC dX12_slowest_12 rfl 1 rfl ?_
    refine v_isub (pc := 13) hC dX12_slowest_13 ?_
    exact v_iret (pc := 14) hC dX12_slowest_14 ⟨rfl, h⟩
  · skip
    refine v_iconst (pc := 7) (v := 1) hC dX12_slowest_7 (by decide) ?_
    refine v_goto (pc := 8) (tgt := 14) hC dX12_slowest_8 (by decide) ?_
    exact v_iret (pc := 14) hC dX12_slowest_14 ⟨rfl, h⟩
def rm_X12_landings : Room := { frames := 1, cells := 0, slots := 0, locals := 21 }
def wb_X12_landings_9 (Q : Int32 → Prop) (F : gS) (x0 : Int32) (x1 : Int32) (x2 : Int32) (K9 : Int32 → Int32 → Prop) (x3 : Int32) (x4 : Int32) : Prop :=
  if (x0 + x2) < x4 then
    (Q x3)
  else
    (wp_X12_landing x4 x1 F fun r2 =>
    Nm (x3 + r2) fun n3 =>
    Nm (x4 + 1) fun n4 =>
    K9 n3 n4)
def wp_X12_landings (x0 : Int32) (x1 : Int32) (x2 : Int32) (F : gS) (Q : Int32 → Prop) : Prop :=
  wp_X12_slowest x0 x2 F fun r1 =>
  LP2 (wb_X12_landings_9 Q F x0 x1 x2) 0 r1
set_option maxRecDepth 20000 in
set_option maxHeartbeats 4000000 in
theorem jb_X12_landings_9 {p : Program} {l : Launch} {e : Env} {s : State} {m : MethodId} {args : Array Value} {below : List Frame} {meth : Method} {c : Code} {E : gE} (hC : CX p s m args meth c cX12_landings RX12 (some .int) E 5) {Q : Int32 → Prop} {F : gS} {x0 : Int32} {x1 : Int32} {x2 : Int32} {x3 : Int32} {x4 : Int32} {K9 : Int32 → Int32 → Prop} (hK9 : ∀ (x3 : Int32) (x4 : Int32), K9 x3 x4 → VV p l e rm_X12_landings s m args below meth c 0 0 (MQ below (va_Qi (fun r G => G = F ∧ Q r) (gB E) (gA E)) args s 0 0 (gA E)) E 5 F 9 [(0, .int x0), (1, .int x1), (2, .int x2), (3, .int x3), (4, .int x4)] []) (h : wb_X12_landings_9 Q F x0 x1 x2 K9 x3 x4) : VV p l e rm_X12_landings s m args below meth c 0 0 (MQ below (va_Qi (fun r G => G = F ∧ Q r) (gB E) (gA E)) args s 0 0 (gA E)) E 5 F 9 [(0, .int x0), (1, .int x1), (2, .int x2), (3, .int x3), (4, .int x4)] [] := by
  unfold wb_X12_landings_9 at h
  refine v_iload (pc := 9) hC dX12_landings_9 4 rfl ?_
  refine v_iload_n (pc := 11) hC dX12_landings_11 rfl 0 rfl ?_
  refine v_iload_n (pc := 12) hC dX12_landings_12 rfl 2 rfl ?_
  refine v_iadd (pc := 13) hC dX12_landings_13 ?_
  refine v_ic_gt (pc := 14) (tgt := 32) hC dX12_landings_14 (by decide) h (fun h => ?_) (fun h => ?_)
  · skip
    refine v_iload_n (pc := 32) hC dX12_landings_32 rfl 3 rfl ?_
    exact v_iret (pc := 33) hC dX12_landings_33 ⟨rfl, h⟩
  · skip
    refine v_iload_n (pc := 17) hC dX12_landings_17 rfl 3 rfl ?_
    refine v_iload (pc := 18) hC dX12_landings_18 4 rfl ?_
    refine v_iload_n (pc := 20) hC dX12_landings_20 rfl 1 rfl ?_
    refine v_cip (pc := 21) (r_S (rest := [.int x3]) hC ml_X12_322 ms_X12_landing (c_X12_landing l E h) ⟨rfl, rfl⟩ ⟨Nat.le_of_ble_eq_true rfl, Nat.le_of_ble_eq_true rfl⟩ rfl rfl (Nat.le_of_ble_eq_true rfl) ⟨Nat.zero_le _, Nat.zero_le _⟩ dX12_landings_21) (fun r2 h => ?_)
    refine v_iadd (pc := 24) hC dX12_landings_24 ?_
    refine v_nmi h (fun n3 h => ?_)
    refine v_istore_n (pc := 25) (lv' := [(3, .int n3), (0, .int x0), (1, .int x1), (2, .int x2), (4, .int x4)]) hC dX12_landings_25 rfl (by decide) rfl ?_
    refine v_iinc (pc := 26) (v := 1) hC (fun z => [(4, .int z), (3, .int n3), (0, .int x0), (1, .int x1), (2, .int x2)]) dX12_landings_26 4 rfl (by decide) (by decide) (fun _ => rfl) h (fun n4 h => ?_)
    refine v_goto (pc := 29) (tgt := 9) hC dX12_landings_29 (by decide) ?_
    exact v_sub [2, 3, 4, 1, 0] rfl (hK9 _ _ h)
set_option maxRecDepth 20000 in
set_option maxHeartbeats 4000000 in
theorem jl_X12_landings_9 {p : Program} {l : Launch} {e : Env} {s : State} {m : MethodId} {args : Array Value} {below : List Frame} {meth : Method} {c : Code} {E : gE} (hC : CX p s m args meth c cX12_landings RX12 (some .int) E 5) {Q : Int32 → Prop} {F : gS} {x0 : Int32} {x1 : Int32} {x2 : Int32} {x3 : Int32} {x4 : Int32} (h : LP2 (wb_X12_landings_9 Q F x0 x1 x2) x3 x4) : VV p l e rm_X12_landings s m args below meth c 0 0 (MQ below (va_Qi (fun r G => G = F ∧ Q r) (gB E) (gA E)) args s 0 0 (gA E)) E 5 F 9 [(0, .int x0), (1, .int x1), (2, .int x2), (3, .int x3), (4, .int x4)] [] :=
  LP2_go (V := fun (x3 : Int32) (x4 : Int32) => VV p l e rm_X12_landings s m args below meth c 0 0 (MQ below (va_Qi (fun r G => G = F ∧ Q r) (gB E) (gA E)) args s 0 0 (gA E)) E 5 F 9 [(0, .int x0), (1, .int x1), (2, .int x2), (3, .int x3), (4, .int x4)] []) (fun K9 hK9 x3 x4 h => jb_X12_landings_9 hC hK9 h) x3 x4 h
set_option maxRecDepth 20000 in
set_option maxHeartbeats 4000000 in
theorem c_X12_landings (l : Launch) (E : gE) {x0 : Int32} {x1 : Int32} {x2 : Int32} {F : gS} {Q : Int32 → Prop} (h : wp_X12_landings x0 x1 x2 F Q) : CtI l E yX12_landings cX12_landings 5 (some .int) rm_X12_landings [.int x0, .int x1, .int x2] F (fun r G => G = F ∧ Q r) := by
  refine ct_of (by decide) (Nat.le_of_ble_eq_true rfl) (fun p e s m below meth c hC => ?_)
  generalize ([.int x0, .int x1, .int x2] : List Value).toArray = args at hC ⊢
  refine v_sub (lv' := [(0, .int x0), (1, .int x1), (2, .int x2)]) [0, 1, 2] rfl ?_
  unfold wp_X12_landings at h
  refine v_iconst (pc := 0) (v := 0) hC dX12_landings_0 (by decide) ?_
  refine v_istore_n (pc := 1) (lv' := [(3, .int 0), (0, .int x0), (1, .int x1), (2, .int x2)]) hC dX12_landings_1 rfl (by decide) rfl ?_
  refine v_iload_n (pc := 2) hC dX12_landings_2 rfl 1 rfl ?_
  refine v_iload_n (pc := 3) hC dX12_landings_3 rfl 3 rfl ?_
  refine v_cip (pc := 4) (r_S (rest := []) hC ml_X12_325 ms_X12_slowest (c_X12_slowest l E h) ⟨rfl, rfl⟩ ⟨Nat.le_of_ble_eq_true rfl, Nat.le_of_ble_eq_true rfl⟩ rfl rfl (Nat.le_of_ble_eq_true rfl) ⟨Nat.zero_le _, Nat.zero_le _⟩ dX12_landings_4) (fun r1 h => ?_)
  refine v_istore (pc := 7) (lv' := [(4, .int r1), (3, .int 0), (0, .int x0), (1, .int x1), (2, .int x2)]) hC dX12_landings_7 (by decide) rfl ?_
  exact v_sub [2, 3, 4, 1, 0] rfl (jl_X12_landings_9 hC h)
def rm_X12_lowest : Room := { frames := 0, cells := 0, slots := 0, locals := 0 }
def wp_X12_lowest_26 (Q : Int32 → Prop) (F : gS) (x0 : Int32) (x1 : Int32) (x2 : Int32) (x3 : Int32) : Prop :=
  if x2 = 0 then
    (¬ x3 = 0 ∧
    Q (x0 / x3))
  else
    (¬ x3 = 0 ∧
    Q (x1 / x3))
def wb_X12_lowest_5 (Q : Int32 → Prop) (F : gS) (x0 : Int32) (x1 : Int32) (x2 : Int32) (K5 : Int32 → Int32 → Prop) (x3 : Int32) (x4 : Int32) : Prop :=
  if x4 = 0 then
    (wp_X12_lowest_26 Q F x0 x1 x2 x3)
  else
    (¬ x4 = 0 ∧
    Nm (x3 - x3 / x4 * x4) fun n1 =>
    K5 x4 n1)
def wp_X12_lowest (x0 : Int32) (x1 : Int32) (x2 : Int32) (F : gS) (Q : Int32 → Prop) : Prop :=
  LP2 (wb_X12_lowest_5 Q F x0 x1 x2) x0 x1
set_option maxRecDepth 20000 in
set_option maxHeartbeats 4000000 in
theorem j_X12_lowest_26 {p : Program} {l : Launch} {e : Env} {s : State} {m : MethodId} {args : Array Value} {below : List Frame} {meth : Method} {c : Code} {E : gE} (hC : CX p s m args meth c cX12_lowest RX12 (some .int) E 6) {Q : Int32 → Prop} {F : gS} {x0 : Int32} {x1 : Int32} {x2 : Int32} {x3 : Int32} (h : wp_X12_lowest_26 Q F x0 x1 x2 x3) : VV p l e rm_X12_lowest s m args below meth c 0 0 (MQ below (va_Qi (fun r G => G = F ∧ Q r) (gB E) (gA E)) args s 0 0 (gA E)) E 6 F 26 [(0, .int x0), (1, .int x1), (2, .int x2), (3, .int x3)] [] := by
  unfold wp_X12_lowest_26 at h
  refine v_iload_n (pc := 26) hC dX12_lowest_26 rfl 2 rfl ?_
  refine v_if_ne (pc := 27) (tgt := 36) hC dX12_lowest_27 (by decide) h (fun h => ?_) (fun h => ?_)
  · skip
    refine v_iload_n (pc := 36) hC dX12_lowest_36 rfl 1 rfl ?_
    refine v_iload_n (pc := 37) hC dX12_lowest_37 rfl 3 rfl ?_
    refine v_idiv (pc := 38) hC dX12_lowest_38 h (fun h => ?_)
    exact v_iret (pc := 39) hC dX12_lowest_39 ⟨rfl, h⟩
  · skip
    refine v_iload_n (pc := 30) hC dX12_lowest_30 rfl 0 rfl ?_
    refine v_iload_n (pc := 31) hC dX12_lowest_31 rfl 3 rfl ?_
    refine v_idiv (pc := 32) hC dX12_lowest_32 h (fun h => ?_)
    refine v_goto (pc := 33) (tgt := 39) hC dX12_lowest_33 (by decide) ?_
    exact v_iret (pc := 39) hC dX12_lowest_39 ⟨rfl, h⟩
set_option maxRecDepth 20000 in
set_option maxHeartbeats 4000000 in
theorem jb_X12_lowest_5 {p : Program} {l : Launch} {e : Env} {s : State} {m : MethodId} {args : Array Value} {below : List Frame} {meth : Method} {c : Code} {E : gE} (hC : CX p s m args meth c cX12_lowest RX12 (some .int) E 6) {Q : Int32 → Prop} {F : gS} {x0 : Int32} {x1 : Int32} {x2 : Int32} {x3 : Int32} {x4 : Int32} {K5 : Int32 → Int32 → Prop} (hK5 : ∀ (x3 : Int32) (x4 : Int32), K5 x3 x4 → VV p l e rm_X12_lowest s m args below meth c 0 0 (MQ below (va_Qi (fun r G => G = F ∧ Q r) (gB E) (gA E)) args s 0 0 (gA E)) E 6 F 5 [(0, .int x0), (1, .int x1), (2, .int x2), (3, .int x3), (4, .int x4)] []) (h : wb_X12_lowest_5 Q F x0 x1 x2 K5 x3 x4) : VV p l e rm_X12_lowest s m args below meth c 0 0 (MQ below (va_Qi (fun r G => G = F ∧ Q r) (gB E) (gA E)) args s 0 0 (gA E)) E 6 F 5 [(0, .int x0), (1, .int x1), (2, .int x2), (3, .int x3), (4, .int x4)] [] := by
  unfold wb_X12_lowest_5 at h
  refine v_iload (pc := 5) hC dX12_lowest_5 4 rfl ?_
  refine v_if_eq (pc := 7) (tgt := 26) hC dX12_lowest_7 (by decide) h (fun h => ?_) (fun h => ?_)
  · skip
    exact v_sub [0, 1, 2, 3] rfl (j_X12_lowest_26 hC h)
  · skip
    refine v_iload_n (pc := 10) hC dX12_lowest_10 rfl 3 rfl ?_
    refine v_iload (pc := 11) hC dX12_lowest_11 4 rfl ?_
    refine v_irem (pc := 13) hC dX12_lowest_13 h (fun h => ?_)
    refine v_nmi h (fun n1 h => ?_)
    refine v_istore (pc := 14) (lv' := [(5, .int n1), (0, .int x0), (1, .int x1), (2, .int x2), (3, .int x3), (4, .int x4)]) hC dX12_lowest_14 (by decide) rfl ?_
    refine v_iload (pc := 16) hC dX12_lowest_16 5 rfl ?_
    refine v_istore_n (pc := 18) (lv' := [(3, .int x4), (5, .int n1), (0, .int x0), (1, .int x1), (2, .int x2), (4, .int x4)]) hC dX12_lowest_18 rfl (by decide) rfl ?_
    refine v_iload (pc := 19) hC dX12_lowest_19 1 rfl ?_
    refine v_istore (pc := 21) (lv' := [(4, .int n1), (3, .int x4), (5, .int n1), (0, .int x0), (1, .int x1), (2, .int x2)]) hC dX12_lowest_21 (by decide) rfl ?_
    refine v_goto (pc := 23) (tgt := 5) hC dX12_lowest_23 (by decide) ?_
    exact v_sub [3, 4, 5, 1, 0] rfl (hK5 _ _ h)
set_option maxRecDepth 20000 in
set_option maxHeartbeats 4000000 in
theorem jl_X12_lowest_5 {p : Program} {l : Launch} {e : Env} {s : State} {m : MethodId} {args : Array Value} {below : List Frame} {meth : Method} {c : Code} {E : gE} (hC : CX p s m args meth c cX12_lowest RX12 (some .int) E 6) {Q : Int32 → Prop} {F : gS} {x0 : Int32} {x1 : Int32} {x2 : Int32} {x3 : Int32} {x4 : Int32} (h : LP2 (wb_X12_lowest_5 Q F x0 x1 x2) x3 x4) : VV p l e rm_X12_lowest s m args below meth c 0 0 (MQ below (va_Qi (fun r G => G = F ∧ Q r) (gB E) (gA E)) args s 0 0 (gA E)) E 6 F 5 [(0, .int x0), (1, .int x1), (2, .int x2), (3, .int x3), (4, .int x4)] [] :=
  LP2_go (V := fun (x3 : Int32) (x4 : Int32) => VV p l e rm_X12_lowest s m args below meth c 0 0 (MQ below (va_Qi (fun r G => G = F ∧ Q r) (gB E) (gA E)) args s 0 0 (gA E)) E 6 F 5 [(0, .int x0), (1, .int x1), (2, .int x2), (3, .int x3), (4, .int x4)] []) (fun K5 hK5 x3 x4 h => jb_X12_lowest_5 hC hK5 h) x3 x4 h
set_option maxRecDepth 20000 in
set_option maxHeartbeats 4000000 in
theorem c_X12_lowest (l : Launch) (E : gE) {x0 : Int32} {x1 : Int32} {x2 : Int32} {F : gS} {Q : Int32 → Prop} (h : wp_X12_lowest x0 x1 x2 F Q) : CtI l E yX12_lowest cX12_lowest 6 (some .int) rm_X12_lowest [.int x0, .int x1, .int x2] F (fun r G => G = F ∧ Q r) := by
  refine ct_of (by decide) (Nat.le_of_ble_eq_true rfl) (fun p e s m below meth c hC => ?_)
  generalize ([.int x0, .int x1, .int x2] : List Value).toArray = args at hC ⊢
  refine v_sub (lv' := [(0, .int x0), (1, .int x1), (2, .int x2)]) [0, 1, 2] rfl ?_
  unfold wp_X12_lowest at h
  refine v_iload_n (pc := 0) hC dX12_lowest_0 rfl 0 rfl ?_
  refine v_istore_n (pc := 1) (lv' := [(3, .int x0), (0, .int x0), (1, .int x1), (2, .int x2)]) hC dX12_lowest_1 rfl (by decide) rfl ?_
  refine v_iload_n (pc := 2) hC dX12_lowest_2 rfl 2 rfl ?_
  refine v_istore (pc := 3) (lv' := [(4, .int x1), (3, .int x0), (0, .int x0), (1, .int x1), (2, .int x2)]) hC dX12_lowest_3 (by decide) rfl ?_
  exact v_sub [2, 3, 4, 1, 0] rfl (jl_X12_lowest_5 hC h)
def rm_X12_lands : Room := { frames := 2, cells := 0, slots := 0, locals := 45 }
def wp_X12_lands (x1 : Int32) (x2 : Int32) (x3 : Int32) (x4 : Int32) (F : gS) (Q : Int32 → Prop) : Prop :=
  wp_X12_isToss x1 x2 F fun r1 =>
  if r1 = 0 then
    (Q (-102))
  else
    (wp_X12_within x3 0 9 F fun r3 =>
    if r3 = 0 then
      (Q (-102))
    else
      (wp_X12_within x4 0 1 F fun r5 =>
      if r5 = 0 then
        (Q (-102))
      else
        (wp_X12_landings x1 x2 x3 F fun r7 =>
        wp_X12_slowest x1 x3 F fun r8 =>
        wp_X12_lowest r7 (((x1 + x3) - r8) + 1) x4 F fun r9 =>
        Q r9)))
set_option maxRecDepth 20000 in
set_option maxHeartbeats 4000000 in
theorem c_X12_lands (l : Launch) (E : gE) {x1 : Int32} {x2 : Int32} {x3 : Int32} {x4 : Int32} {F : gS} {Q : Int32 → Prop} (h : wp_X12_lands x1 x2 x3 x4 F Q) : CtI l E yX12_lands cX12_lands 5 (some .int) rm_X12_lands [.ref (ad E 121), .int x1, .int x2, .int x3, .int x4] F (fun r G => G = F ∧ Q r) := by
  refine ct_of (by decide) (Nat.le_of_ble_eq_true rfl) (fun p e s m below meth c hC => ?_)
  generalize ([.ref (ad E 121), .int x1, .int x2, .int x3, .int x4] : List Value).toArray = args at hC ⊢
  refine v_sub (lv' := [(0, .ref (ad E 121)), (1, .int x1), (2, .int x2), (3, .int x3), (4, .int x4)]) [0, 1, 2, 3, 4] rfl ?_
  unfold wp_X12_lands at h
  refine v_iload_n (pc := 0) hC dX12_lands_0 rfl 1 rfl ?_
  refine v_iload_n (pc := 1) hC dX12_lands_1 rfl 2 rfl ?_
  refine v_cyp (pc := 2) (r_S (rest := []) hC ml_X12_319 ms_X12_isToss (c_X12_isToss l E h) ⟨rfl, rfl⟩ ⟨Nat.le_of_ble_eq_true rfl, Nat.le_of_ble_eq_true rfl⟩ rfl rfl (Nat.le_of_ble_eq_true rfl) ⟨Nat.zero_le _, Nat.zero_le _⟩ dX12_lands_2) (fun r1 b2 h => ?_)
  refine v_if_eq (pc := 5) (tgt := 28) hC dX12_lands_5 (by decide) h (fun h => ?_) (fun h => ?_)
  · skip
    refine v_bipush (pc := 28) (v := (-102)) hC dX12_lands_28 (by decide) ?_
    exact v_iret (pc := 30) hC dX12_lands_30 ⟨rfl, h⟩
  · skip
    refine v_iload_n (pc := 8) hC dX12_lands_8 rfl 3 rfl ?_
    refine v_iconst (pc := 9) (v := 0) hC dX12_lands_9 (by decide) ?_
    refine v_bipush (pc := 10) (v := 9) hC dX12_lands_10 (by decide) ?_
    refine v_cyp (pc := 12) (r_S (rest := []) hC ml_X12_102 ms_X12_within (c_X12_within l E h) ⟨rfl, rfl⟩ ⟨Nat.le_of_ble_eq_true rfl, Nat.le_of_ble_eq_true rfl⟩ rfl rfl (Nat.le_of_ble_eq_true rfl) ⟨Nat.zero_le _, Nat.zero_le _⟩ dX12_lands_12) (fun r3 b4 h => ?_)
    refine v_if_eq (pc := 15) (tgt := 28) hC dX12_lands_15 (by decide) h (fun h => ?_) (fun h => ?_)
    · skip
      refine v_bipush (pc := 28) (v := (-102)) hC dX12_lands_28 (by decide) ?_
      exact v_iret (pc := 30) hC dX12_lands_30 ⟨rfl, h⟩
    · skip
      refine v_iload (pc := 18) hC dX12_lands_18 4 rfl ?_
      refine v_iconst (pc := 20) (v := 0) hC dX12_lands_20 (by decide) ?_
      refine v_iconst (pc := 21) (v := 1) hC dX12_lands_21 (by decide) ?_
      refine v_cyp (pc := 22) (r_S (rest := []) hC ml_X12_102 ms_X12_within (c_X12_within l E h) ⟨rfl, rfl⟩ ⟨Nat.le_of_ble_eq_true rfl, Nat.le_of_ble_eq_true rfl⟩ rfl rfl (Nat.le_of_ble_eq_true rfl) ⟨Nat.zero_le _, Nat.zero_le _⟩ dX12_lands_22) (fun r5 b6 h => ?_)
      refine v_if_ne (pc := 25) (tgt := 31) hC dX12_lands_25 (by decide) h (fun h => ?_) (fun h => ?_)
      · skip
        refine v_iload_n (pc := 31) hC dX12_lands_31 rfl 1 rfl ?_
        refine v_iload_n (pc := 32) hC dX12_lands_32 rfl 2 rfl ?_
        refine v_iload_n (pc := 33) hC dX12_lands_33 rfl 3 rfl ?_
        refine v_cip (pc := 34) (r_S (rest := []) hC ml_X12_328 ms_X12_landings (c_X12_landings l E h) ⟨rfl, rfl⟩ ⟨Nat.le_of_ble_eq_true rfl, Nat.le_of_ble_eq_true rfl⟩ rfl rfl (Nat.le_of_ble_eq_true rfl) ⟨Nat.zero_le _, Nat.zero_le _⟩ dX12_lands_34) (fun r7 h => ?_)
        refine v_iload_n (pc := 37) hC dX12_lands_37 rfl 1 rfl ?_
        refine v_iload_n (pc := 38) hC dX12_lands_38 rfl 3 rfl ?_
        refine v_iadd (pc := 39) hC dX12_lands_39 ?_
        refine v_iload_n (pc := 40) hC dX12_lands_40 rfl 1 rfl ?_
        refine v_iload_n (pc := 41) hC dX12_lands_41 rfl 3 rfl ?_
        refine v_cip (pc := 42) (r_S (rest := [.int (x1 + x3), .int r7]) hC ml_X12_325 ms_X12_slowest (c_X12_slowest l E h) ⟨rfl, rfl⟩ ⟨Nat.le_of_ble_eq_true rfl, Nat.le_of_ble_eq_true rfl⟩ rfl rfl (Nat.le_of_ble_eq_true rfl) ⟨Nat.zero_le _, Nat.zero_le _⟩ dX12_lands_42) (fun r8 h => ?_)
        refine v_isub (pc := 45) hC dX12_lands_45 ?_
        refine v_iconst (pc := 46) (v := 1) hC dX12_lands_46 (by decide) ?_
        refine v_iadd (pc := 47) hC dX12_lands_47 ?_
        refine v_iload (pc := 48) hC dX12_lands_48 4 rfl ?_
        refine v_cip (pc := 50) (r_S (rest := []) hC ml_X12_332 ms_X12_lowest (c_X12_lowest l E h) ⟨rfl, rfl⟩ ⟨Nat.le_of_ble_eq_true rfl, Nat.le_of_ble_eq_true rfl⟩ rfl rfl (Nat.le_of_ble_eq_true rfl) ⟨Nat.zero_le _, Nat.zero_le _⟩ dX12_lands_50) (fun r9 h => ?_)
        exact v_iret (pc := 53) hC dX12_lands_53 ⟨rfl, h⟩
      · skip
        refine v_bipush (pc := 28) (v := (-102)) hC dX12_lands_28 (by decide) ?_
        exact v_iret (pc := 30) hC dX12_lands_30 ⟨rfl, h⟩
def rm_X12_bestSpin : Room := { frames := 2, cells := 0, slots := 0, locals := 45 }
def wp_X12_bestSpin_58 (K29 : Int32 → Int32 → Int32 → Prop) (Q : Int32 → Prop) (F : gS) (x1 : Int32) (x2 : Int32) (x4 : Int32) (x5 : Int32) (x6 : Int32) (t0 : Int32) : Prop :=
  if x6 ≤ x4 then
    (Nm (x5 + 1) fun n6 =>
    K29 t0 x4 n6)
  else
    (Nm (x5 + 1) fun n7 =>
    K29 t0 x6 n7)
def wb_X12_bestSpin_29 (Q : Int32 → Prop) (F : gS) (x1 : Int32) (x2 : Int32) (K29 : Int32 → Int32 → Int32 → Prop) (x3 : Int32) (x4 : Int32) (x5 : Int32) : Prop :=
  if 31 ≤ x5 then
    (Q x3)
  else
    (wp_X12_landings x1 x5 x2 F fun r5 =>
    if r5 ≤ x4 then
      (wp_X12_bestSpin_58 K29 Q F x1 x2 x4 x5 r5 x3)
    else
      (wp_X12_bestSpin_58 K29 Q F x1 x2 x4 x5 r5 x5))
def wp_X12_bestSpin (x1 : Int32) (x2 : Int32) (F : gS) (Q : Int32 → Prop) : Prop :=
  wp_X12_isToss x1 1 F fun r1 =>
  if r1 = 0 then
    (Q (-102))
  else
    (wp_X12_within x2 0 9 F fun r3 =>
    if r3 = 0 then
      (Q (-102))
    else
      (LP3 (wb_X12_bestSpin_29 Q F x1 x2) 0 (-1) 1))
set_option maxRecDepth 20000 in
set_option maxHeartbeats 4000000 in
theorem j_X12_bestSpin_58 {p : Program} {l : Launch} {e : Env} {s : State} {m : MethodId} {args : Array Value} {below : List Frame} {meth : Method} {c : Code} {E : gE} (hC : CX p s m args meth c cX12_bestSpin RX12 (some .int) E 7) {Q : Int32 → Prop} {F : gS} {x1 : Int32} {x2 : Int32} {x4 : Int32} {x5 : Int32} {x6 : Int32} {t0 : Int32} {K29 : Int32 → Int32 → Int32 → Prop} (hK29 : ∀ (x3 : Int32) (x4 : Int32) (x5 : Int32), K29 x3 x4 x5 → VV p l e rm_X12_bestSpin s m args below meth c 0 0 (MQ below (va_Qi (fun r G => G = F ∧ Q r) (gB E) (gA E)) args s 0 0 (gA E)) E 7 F 29 [(1, .int x1), (2, .int x2), (3, .int x3), (4, .int x4), (5, .int x5)] []) (h : wp_X12_bestSpin_58 K29 Q F x1 x2 x4 x5 x6 t0) : VV p l e rm_X12_bestSpin s m args below meth c 0 0 (MQ below (va_Qi (fun r G => G = F ∧ Q r) (gB E) (gA E)) args s 0 0 (gA E)) E 7 F 58 [(1, .int x1), (2, .int x2), (4, .int x4), (5, .int x5), (6, .int x6)] [.int t0] := by
  unfold wp_X12_bestSpin_58 at h
  refine v_istore_n (pc := 58) (lv' := [(3, .int t0), (1, .int x1), (2, .int x2), (4, .int x4), (5, .int x5), (6, .int x6)]) hC dX12_bestSpin_58 rfl (by decide) rfl ?_
  refine v_iload (pc := 59) hC dX12_bestSpin_59 5 rfl ?_
  refine v_iload (pc := 61) hC dX12_bestSpin_61 3 rfl ?_
  refine v_ic_le (pc := 63) (tgt := 71) hC dX12_bestSpin_63 (by decide) h (fun h => ?_) (fun h => ?_)
  · skip
    refine v_iload (pc := 71) hC dX12_bestSpin_71 3 rfl ?_
    refine v_istore (pc := 73) (lv' := [(4, .int x4), (3, .int t0), (1, .int x1), (2, .int x2), (5, .int x5), (6, .int x6)]) hC dX12_bestSpin_73 (by decide) rfl ?_
    refine v_iinc (pc := 75) (v := 1) hC (fun z => [(5, .int z), (4, .int x4), (3, .int t0), (1, .int x1), (2, .int x2), (6, .int x6)]) dX12_bestSpin_75 4 rfl (by decide) (by decide) (fun _ => rfl) h (fun n6 h => ?_)
    refine v_goto (pc := 78) (tgt := 29) hC dX12_bestSpin_78 (by decide) ?_
    exact v_sub [3, 4, 2, 1, 0] rfl (hK29 _ _ _ h)
  · skip
    refine v_iload (pc := 66) hC dX12_bestSpin_66 5 rfl ?_
    refine v_goto (pc := 68) (tgt := 73) hC dX12_bestSpin_68 (by decide) ?_
    refine v_istore (pc := 73) (lv' := [(4, .int x6), (3, .int t0), (1, .int x1), (2, .int x2), (5, .int x5), (6, .int x6)]) hC dX12_bestSpin_73 (by decide) rfl ?_
    refine v_iinc (pc := 75) (v := 1) hC (fun z => [(5, .int z), (4, .int x6), (3, .int t0), (1, .int x1), (2, .int x2), (6, .int x6)]) dX12_bestSpin_75 4 rfl (by decide) (by decide) (fun _ => rfl) h (fun n7 h => ?_)
    refine v_goto (pc := 78) (tgt := 29) hC dX12_bestSpin_78 (by decide) ?_
    exact v_sub [3, 4, 2, 1, 0] rfl (hK29 _ _ _ h)
set_option maxRecDepth 20000 in
set_option maxHeartbeats 4000000 in
theorem jb_X12_bestSpin_29 {p : Program} {l : Launch} {e : Env} {s : State} {m : MethodId} {args : Array Value} {below : List Frame} {meth : Method} {c : Code} {E : gE} (hC : CX p s m args meth c cX12_bestSpin RX12 (some .int) E 7) {Q : Int32 → Prop} {F : gS} {x1 : Int32} {x2 : Int32} {x3 : Int32} {x4 : Int32} {x5 : Int32} {K29 : Int32 → Int32 → Int32 → Prop} (hK29 : ∀ (x3 : Int32) (x4 : Int32) (x5 : Int32), K29 x3 x4 x5 → VV p l e rm_X12_bestSpin s m args below meth c 0 0 (MQ below (va_Qi (fun r G => G = F ∧ Q r) (gB E) (gA E)) args s 0 0 (gA E)) E 7 F 29 [(1, .int x1), (2, .int x2), (3, .int x3), (4, .int x4), (5, .int x5)] []) (h : wb_X12_bestSpin_29 Q F x1 x2 K29 x3 x4 x5) : VV p l e rm_X12_bestSpin s m args below meth c 0 0 (MQ below (va_Qi (fun r G => G = F ∧ Q r) (gB E) (gA E)) args s 0 0 (gA E)) E 7 F 29 [(1, .int x1), (2, .int x2), (3, .int x3), (4, .int x4), (5, .int x5)] [] := by
  unfold wb_X12_bestSpin_29 at h
  refine v_iload (pc := 29) hC dX12_bestSpin_29 4 rfl ?_
  refine v_bipush (pc := 31) (v := 31) hC dX12_bestSpin_31 (by decide) ?_
  refine v_ic_ge (pc := 33) (tgt := 81) hC dX12_bestSpin_33 (by decide) h (fun h => ?_) (fun h => ?_)
  · skip
    refine v_iload_n (pc := 81) hC dX12_bestSpin_81 rfl 2 rfl ?_
    exact v_iret (pc := 82) hC dX12_bestSpin_82 ⟨rfl, h⟩
  · skip
    refine v_iload_n (pc := 36) hC dX12_bestSpin_36 rfl 0 rfl ?_
    refine v_iload (pc := 37) hC dX12_bestSpin_37 4 rfl ?_
    refine v_iload_n (pc := 39) hC dX12_bestSpin_39 rfl 1 rfl ?_
    refine v_cip (pc := 40) (r_S (rest := []) hC ml_X12_328 ms_X12_landings (c_X12_landings l E h) ⟨rfl, rfl⟩ ⟨Nat.le_of_ble_eq_true rfl, Nat.le_of_ble_eq_true rfl⟩ rfl rfl (Nat.le_of_ble_eq_true rfl) ⟨Nat.zero_le _, Nat.zero_le _⟩ dX12_bestSpin_40) (fun r5 h => ?_)
    refine v_istore (pc := 43) (lv' := [(6, .int r5), (1, .int x1), (2, .int x2), (3, .int x3), (4, .int x4), (5, .int x5)]) hC dX12_bestSpin_43 (by decide) rfl ?_
    refine v_iload (pc := 45) hC dX12_bestSpin_45 0 rfl ?_
    refine v_iload (pc := 47) hC dX12_bestSpin_47 4 rfl ?_
    refine v_ic_le (pc := 49) (tgt := 57) hC dX12_bestSpin_49 (by decide) h (fun h => ?_) (fun h => ?_)
    · skip
      refine v_iload_n (pc := 57) hC dX12_bestSpin_57 rfl 3 rfl ?_
      exact v_sub [1, 2, 4, 5, 0] rfl (j_X12_bestSpin_58 hC hK29 h)
    · skip
      refine v_iload (pc := 52) hC dX12_bestSpin_52 5 rfl ?_
      refine v_goto (pc := 54) (tgt := 58) hC dX12_bestSpin_54 (by decide) ?_
      exact v_sub [1, 2, 4, 5, 0] rfl (j_X12_bestSpin_58 hC hK29 h)
set_option maxRecDepth 20000 in
set_option maxHeartbeats 4000000 in
theorem jl_X12_bestSpin_29 {p : Program} {l : Launch} {e : Env} {s : State} {m : MethodId} {args : Array Value} {below : List Frame} {meth : Method} {c : Code} {E : gE} (hC : CX p s m args meth c cX12_bestSpin RX12 (some .int) E 7) {Q : Int32 → Prop} {F : gS} {x1 : Int32} {x2 : Int32} {x3 : Int32} {x4 : Int32} {x5 : Int32} (h : LP3 (wb_X12_bestSpin_29 Q F x1 x2) x3 x4 x5) : VV p l e rm_X12_bestSpin s m args below meth c 0 0 (MQ below (va_Qi (fun r G => G = F ∧ Q r) (gB E) (gA E)) args s 0 0 (gA E)) E 7 F 29 [(1, .int x1), (2, .int x2), (3, .int x3), (4, .int x4), (5, .int x5)] [] :=
  LP3_go (V := fun (x3 : Int32) (x4 : Int32) (x5 : Int32) => VV p l e rm_X12_bestSpin s m args below meth c 0 0 (MQ below (va_Qi (fun r G => G = F ∧ Q r) (gB E) (gA E)) args s 0 0 (gA E)) E 7 F 29 [(1, .int x1), (2, .int x2), (3, .int x3), (4, .int x4), (5, .int x5)] []) (fun K29 hK29 x3 x4 x5 h => jb_X12_bestSpin_29 hC hK29 h) x3 x4 x5 h
set_option maxRecDepth 20000 in
set_option maxHeartbeats 4000000 in
theorem c_X12_bestSpin (l : Launch) (E : gE) {x1 : Int32} {x2 : Int32} {F : gS} {Q : Int32 → Prop} (h : wp_X12_bestSpin x1 x2 F Q) : CtI l E yX12_bestSpin cX12_bestSpin 7 (some .int) rm_X12_bestSpin [.ref (ad E 121), .int x1, .int x2] F (fun r G => G = F ∧ Q r) := by
  refine ct_of (by decide) (Nat.le_of_ble_eq_true rfl) (fun p e s m below meth c hC => ?_)
  generalize ([.ref (ad E 121), .int x1, .int x2] : List Value).toArray = args at hC ⊢
  refine v_sub (lv' := [(0, .ref (ad E 121)), (1, .int x1), (2, .int x2)]) [0, 1, 2] rfl ?_
  unfold wp_X12_bestSpin at h
  refine v_iload_n (pc := 0) hC dX12_bestSpin_0 rfl 1 rfl ?_
  refine v_iconst (pc := 1) (v := 1) hC dX12_bestSpin_1 (by decide) ?_
  refine v_cyp (pc := 2) (r_S (rest := []) hC ml_X12_319 ms_X12_isToss (c_X12_isToss l E h) ⟨rfl, rfl⟩ ⟨Nat.le_of_ble_eq_true rfl, Nat.le_of_ble_eq_true rfl⟩ rfl rfl (Nat.le_of_ble_eq_true rfl) ⟨Nat.zero_le _, Nat.zero_le _⟩ dX12_bestSpin_2) (fun r1 b2 h => ?_)
  refine v_if_eq (pc := 5) (tgt := 18) hC dX12_bestSpin_5 (by decide) h (fun h => ?_) (fun h => ?_)
  · skip
    refine v_bipush (pc := 18) (v := (-102)) hC dX12_bestSpin_18 (by decide) ?_
    exact v_iret (pc := 20) hC dX12_bestSpin_20 ⟨rfl, h⟩
  · skip
    refine v_iload_n (pc := 8) hC dX12_bestSpin_8 rfl 2 rfl ?_
    refine v_iconst (pc := 9) (v := 0) hC dX12_bestSpin_9 (by decide) ?_
    refine v_bipush (pc := 10) (v := 9) hC dX12_bestSpin_10 (by decide) ?_
    refine v_cyp (pc := 12) (r_S (rest := []) hC ml_X12_102 ms_X12_within (c_X12_within l E h) ⟨rfl, rfl⟩ ⟨Nat.le_of_ble_eq_true rfl, Nat.le_of_ble_eq_true rfl⟩ rfl rfl (Nat.le_of_ble_eq_true rfl) ⟨Nat.zero_le _, Nat.zero_le _⟩ dX12_bestSpin_12) (fun r3 b4 h => ?_)
    refine v_if_ne (pc := 15) (tgt := 21) hC dX12_bestSpin_15 (by decide) h (fun h => ?_) (fun h => ?_)
    · skip
      refine v_iconst (pc := 21) (v := 0) hC dX12_bestSpin_21 (by decide) ?_
      refine v_istore_n (pc := 22) (lv' := [(3, .int 0), (0, .ref (ad E 121)), (1, .int x1), (2, .int x2)]) hC dX12_bestSpin_22 rfl (by decide) rfl ?_
      refine v_iconst (pc := 23) (v := (-1)) hC dX12_bestSpin_23 (by decide) ?_
      refine v_istore (pc := 24) (lv' := [(4, .int (-1)), (3, .int 0), (0, .ref (ad E 121)), (1, .int x1), (2, .int x2)]) hC dX12_bestSpin_24 (by decide) rfl ?_
      refine v_iconst (pc := 26) (v := 1) hC dX12_bestSpin_26 (by decide) ?_
      refine v_istore (pc := 27) (lv' := [(5, .int 1), (4, .int (-1)), (3, .int 0), (0, .ref (ad E 121)), (1, .int x1), (2, .int x2)]) hC dX12_bestSpin_27 (by decide) rfl ?_
      exact v_sub [4, 5, 2, 1, 0] rfl (jl_X12_bestSpin_29 hC h)
    · skip
      refine v_bipush (pc := 18) (v := (-102)) hC dX12_bestSpin_18 (by decide) ?_
      exact v_iret (pc := 20) hC dX12_bestSpin_20 ⟨rfl, h⟩
def rm_X12_image : Room := { frames := 0, cells := 0, slots := 0, locals := 0 }
def wb_X12_image_41 (Q : Int32 → gS → Prop) (K41 : gS → Int32 → Prop) (F : gS) (x1 : Int32) : Prop :=
  if 16 ≤ x1 then
    (Q (F 121 15) F)
  else
    (vp_in x1 16 ∧
    vp_in x1 16 ∧ Nm (upF F 135 x1.toNatClampNeg (F 124 x1.toNatClampNeg)) fun F5 =>
    vp_in x1 16 ∧
    vp_in x1 16 ∧ Nm (upF F5 136 x1.toNatClampNeg (F5 125 x1.toNatClampNeg)) fun F6 =>
    Nm (x1 + 1) fun n7 =>
    K41 F6 n7)
def wp_X12_image (F : gS) (Q : Int32 → gS → Prop) : Prop :=
  if (F 121 2) = 0 then
    (Q (-103) F)
  else
    (Nm (upF F 121 21 1) fun F1 =>
    Nm (upF F1 121 22 (F1 121 2)) fun F2 =>
    Nm (upF F2 121 23 (F2 121 7)) fun F3 =>
    Nm (upF F3 121 24 (F3 121 15)) fun F4 =>
    LP2 (wb_X12_image_41 Q) F4 0)
set_option maxRecDepth 20000 in
set_option maxHeartbeats 4000000 in
theorem jb_X12_image_41 {p : Program} {l : Launch} {e : Env} {s : State} {m : MethodId} {args : Array Value} {below : List Frame} {meth : Method} {c : Code} {E : gE} (hC : CX p s m args meth c cX12_image RX12 (some .int) E 2) {Q : Int32 → gS → Prop} {F : gS} {x1 : Int32} {K41 : gS → Int32 → Prop} (hK41 : ∀ (F : gS) (x1 : Int32), K41 F x1 → VV p l e rm_X12_image s m args below meth c 0 0 (MQ below (va_Qi Q (gB E) (gA E)) args s 0 0 (gA E)) E 2 F 41 [(0, .ref (ad E 121)), (1, .int x1)] []) (h : wb_X12_image_41 Q K41 F x1) : VV p l e rm_X12_image s m args below meth c 0 0 (MQ below (va_Qi Q (gB E) (gA E)) args s 0 0 (gA E)) E 2 F 41 [(0, .ref (ad E 121)), (1, .int x1)] [] := by
  unfold wb_X12_image_41 at h
  refine v_iload_n (pc := 41) hC dX12_image_41 rfl 1 rfl ?_
  refine v_bipush (pc := 42) (v := 16) hC dX12_image_42 (by decide) ?_
  refine v_ic_ge (pc := 44) (tgt := 77) hC dX12_image_44 (by decide) h (fun h => ?_) (fun h => ?_)
  · skip
    refine v_aload_n (pc := 77) hC dX12_image_77 rfl 0 rfl ?_
    refine v_get (pc := 78) (v := .int (F 121 15)) hC fl_X12_187 kq_121 rfl dX12_image_78 ?_
    exact v_iret (pc := 81) hC dX12_image_81 h
  · skip
    refine v_aload_n (pc := 47) hC dX12_image_47 rfl 0 rfl ?_
    refine v_get (pc := 48) (v := .ref (ad E 135)) hC fl_X12_51 kq_121 rfl dX12_image_48 ?_
    refine v_iload_n (pc := 51) hC dX12_image_51 rfl 1 rfl ?_
    refine v_aload_n (pc := 52) hC dX12_image_52 rfl 0 rfl ?_
    refine v_get (pc := 53) (v := .ref (ad E 124)) hC fl_X12_17 kq_121 rfl dX12_image_53 ?_
    refine v_iload_n (pc := 56) hC dX12_image_56 rfl 1 rfl ?_
    refine v_iald (pc := 57) (n := 16) hC kq_124 (by decide) dX12_image_57 h (fun h => ?_)
    refine v_iast (pc := 58) (n := 16) hC kq_135 (by decide) dX12_image_58 h (fun F5 h => ?_)
    refine v_aload_n (pc := 59) hC dX12_image_59 rfl 0 rfl ?_
    refine v_get (pc := 60) (v := .ref (ad E 136)) hC fl_X12_54 kq_121 rfl dX12_image_60 ?_
    refine v_iload_n (pc := 63) hC dX12_image_63 rfl 1 rfl ?_
    refine v_aload_n (pc := 64) hC dX12_image_64 rfl 0 rfl ?_
    refine v_get (pc := 65) (v := .ref (ad E 125)) hC fl_X12_20 kq_121 rfl dX12_image_65 ?_
    refine v_iload_n (pc := 68) hC dX12_image_68 rfl 1 rfl ?_
    refine v_iald (pc := 69) (n := 16) hC kq_125 (by decide) dX12_image_69 h (fun h => ?_)
    refine v_iast (pc := 70) (n := 16) hC kq_136 (by decide) dX12_image_70 h (fun F6 h => ?_)
    refine v_iinc (pc := 71) (v := 1) hC (fun z => [(1, .int z), (0, .ref (ad E 121))]) dX12_image_71 1 rfl (by decide) (by decide) (fun _ => rfl) h (fun n7 h => ?_)
    refine v_goto (pc := 74) (tgt := 41) hC dX12_image_74 (by decide) ?_
    exact v_sub [1, 0] rfl (hK41 _ _ h)
set_option maxRecDepth 20000 in
set_option maxHeartbeats 4000000 in
theorem jl_X12_image_41 {p : Program} {l : Launch} {e : Env} {s : State} {m : MethodId} {args : Array Value} {below : List Frame} {meth : Method} {c : Code} {E : gE} (hC : CX p s m args meth c cX12_image RX12 (some .int) E 2) {Q : Int32 → gS → Prop} {F : gS} {x1 : Int32} (h : LP2 (wb_X12_image_41 Q) F x1) : VV p l e rm_X12_image s m args below meth c 0 0 (MQ below (va_Qi Q (gB E) (gA E)) args s 0 0 (gA E)) E 2 F 41 [(0, .ref (ad E 121)), (1, .int x1)] [] :=
  LP2_go (V := fun (F : gS) (x1 : Int32) => VV p l e rm_X12_image s m args below meth c 0 0 (MQ below (va_Qi Q (gB E) (gA E)) args s 0 0 (gA E)) E 2 F 41 [(0, .ref (ad E 121)), (1, .int x1)] []) (fun K41 hK41 F x1 h => jb_X12_image_41 hC hK41 h) F x1 h
set_option maxRecDepth 20000 in
set_option maxHeartbeats 4000000 in
theorem c_X12_image (l : Launch) (E : gE) {F : gS} {Q : Int32 → gS → Prop} (h : wp_X12_image F Q) : CtI l E yX12_image cX12_image 2 (some .int) rm_X12_image [.ref (ad E 121)] F Q := by
  refine ct_of (by decide) (Nat.le_of_ble_eq_true rfl) (fun p e s m below meth c hC => ?_)
  generalize ([.ref (ad E 121)] : List Value).toArray = args at hC ⊢
  refine v_sub (lv' := [(0, .ref (ad E 121))]) [0] rfl ?_
  unfold wp_X12_image at h
  refine v_aload_n (pc := 0) hC dX12_image_0 rfl 0 rfl ?_
  refine v_get (pc := 1) (v := .int (F 121 2)) hC fl_X12_190 kq_121 rfl dX12_image_1 ?_
  refine v_if_ne (pc := 4) (tgt := 10) hC dX12_image_4 (by decide) h (fun h => ?_) (fun h => ?_)
  · skip
    refine v_aload_n (pc := 10) hC dX12_image_10 rfl 0 rfl ?_
    refine v_iconst (pc := 11) (v := 1) hC dX12_image_11 (by decide) ?_
    refine v_putz (pc := 12) hC fp_X12_335 kq_121 (fs_10_21 E _ _ _) (fn_10_21 E _ _) dX12_image_12 (Or.inr rfl) h (fun F1 h => ?_)
    refine v_aload_n (pc := 15) hC dX12_image_15 rfl 0 rfl ?_
    refine v_aload_n (pc := 16) hC dX12_image_16 rfl 0 rfl ?_
    refine v_get (pc := 17) (v := .int (F1 121 2)) hC fl_X12_190 kq_121 rfl dX12_image_17 ?_
    refine v_puti (pc := 20) hC fp_X12_338 kq_121 (fs_10_22 E _ _ _) (fn_10_22 E _ _) dX12_image_20 h (fun F2 h => ?_)
    refine v_aload_n (pc := 23) hC dX12_image_23 rfl 0 rfl ?_
    refine v_aload_n (pc := 24) hC dX12_image_24 rfl 0 rfl ?_
    refine v_get (pc := 25) (v := .int (F2 121 7)) hC fl_X12_184 kq_121 rfl dX12_image_25 ?_
    refine v_puti (pc := 28) hC fp_X12_341 kq_121 (fs_10_23 E _ _ _) (fn_10_23 E _ _) dX12_image_28 h (fun F3 h => ?_)
    refine v_aload_n (pc := 31) hC dX12_image_31 rfl 0 rfl ?_
    refine v_aload_n (pc := 32) hC dX12_image_32 rfl 0 rfl ?_
    refine v_get (pc := 33) (v := .int (F3 121 15)) hC fl_X12_187 kq_121 rfl dX12_image_33 ?_
    refine v_puti (pc := 36) hC fp_X12_344 kq_121 (fs_10_24 E _ _ _) (fn_10_24 E _ _) dX12_image_36 h (fun F4 h => ?_)
    refine v_iconst (pc := 39) (v := 0) hC dX12_image_39 (by decide) ?_
    refine v_istore_n (pc := 40) (lv' := [(1, .int 0), (0, .ref (ad E 121))]) hC dX12_image_40 rfl (by decide) rfl ?_
    exact v_sub [1, 0] rfl (jl_X12_image_41 hC h)
  · skip
    refine v_bipush (pc := 7) (v := (-103)) hC dX12_image_7 (by decide) ?_
    exact v_iret (pc := 9) hC dX12_image_9 h
def rm_X12_restore : Room := { frames := 0, cells := 0, slots := 0, locals := 0 }
def wb_X12_restore_39 (Q : Int32 → gS → Prop) (K39 : gS → Int32 → Prop) (F : gS) (x1 : Int32) : Prop :=
  if 16 ≤ x1 then
    (Q (F 121 15) F)
  else
    (vp_in x1 16 ∧
    vp_in x1 16 ∧ Nm (upF F 124 x1.toNatClampNeg (F 135 x1.toNatClampNeg)) fun F3 =>
    vp_in x1 16 ∧
    vp_in x1 16 ∧ Nm (upF F3 125 x1.toNatClampNeg (F3 136 x1.toNatClampNeg)) fun F4 =>
    Nm (x1 + 1) fun n5 =>
    K39 F4 n5)
def wp_X12_restore (F : gS) (Q : Int32 → gS → Prop) : Prop :=
  if (F 121 21) = 0 then
    (Q (-103) F)
  else
    (if (F 121 22) = (F 121 2) then
      (Nm (upF F 121 7 (F 121 23)) fun F1 =>
      Nm (upF F1 121 15 (F1 121 24)) fun F2 =>
      LP2 (wb_X12_restore_39 Q) F2 0)
    else
      (Q (-103) F))
set_option maxRecDepth 20000 in
set_option maxHeartbeats 4000000 in
theorem jb_X12_restore_39 {p : Program} {l : Launch} {e : Env} {s : State} {m : MethodId} {args : Array Value} {below : List Frame} {meth : Method} {c : Code} {E : gE} (hC : CX p s m args meth c cX12_restore RX12 (some .int) E 2) {Q : Int32 → gS → Prop} {F : gS} {x1 : Int32} {K39 : gS → Int32 → Prop} (hK39 : ∀ (F : gS) (x1 : Int32), K39 F x1 → VV p l e rm_X12_restore s m args below meth c 0 0 (MQ below (va_Qi Q (gB E) (gA E)) args s 0 0 (gA E)) E 2 F 39 [(0, .ref (ad E 121)), (1, .int x1)] []) (h : wb_X12_restore_39 Q K39 F x1) : VV p l e rm_X12_restore s m args below meth c 0 0 (MQ below (va_Qi Q (gB E) (gA E)) args s 0 0 (gA E)) E 2 F 39 [(0, .ref (ad E 121)), (1, .int x1)] [] := by
  unfold wb_X12_restore_39 at h
  refine v_iload_n (pc := 39) hC dX12_restore_39 rfl 1 rfl ?_
  refine v_bipush (pc := 40) (v := 16) hC dX12_restore_40 (by decide) ?_
  refine v_ic_ge (pc := 42) (tgt := 75) hC dX12_restore_42 (by decide) h (fun h => ?_) (fun h => ?_)
  · skip
    refine v_aload_n (pc := 75) hC dX12_restore_75 rfl 0 rfl ?_
    refine v_get (pc := 76) (v := .int (F 121 15)) hC fl_X12_187 kq_121 rfl dX12_restore_76 ?_
    exact v_iret (pc := 79) hC dX12_restore_79 h
  · skip
    refine v_aload_n (pc := 45) hC dX12_restore_45 rfl 0 rfl ?_
    refine v_get (pc := 46) (v := .ref (ad E 124)) hC fl_X12_17 kq_121 rfl dX12_restore_46 ?_
    refine v_iload_n (pc := 49) hC dX12_restore_49 rfl 1 rfl ?_
    refine v_aload_n (pc := 50) hC dX12_restore_50 rfl 0 rfl ?_
    refine v_get (pc := 51) (v := .ref (ad E 135)) hC fl_X12_51 kq_121 rfl dX12_restore_51 ?_
    refine v_iload_n (pc := 54) hC dX12_restore_54 rfl 1 rfl ?_
    refine v_iald (pc := 55) (n := 16) hC kq_135 (by decide) dX12_restore_55 h (fun h => ?_)
    refine v_iast (pc := 56) (n := 16) hC kq_124 (by decide) dX12_restore_56 h (fun F3 h => ?_)
    refine v_aload_n (pc := 57) hC dX12_restore_57 rfl 0 rfl ?_
    refine v_get (pc := 58) (v := .ref (ad E 125)) hC fl_X12_20 kq_121 rfl dX12_restore_58 ?_
    refine v_iload_n (pc := 61) hC dX12_restore_61 rfl 1 rfl ?_
    refine v_aload_n (pc := 62) hC dX12_restore_62 rfl 0 rfl ?_
    refine v_get (pc := 63) (v := .ref (ad E 136)) hC fl_X12_54 kq_121 rfl dX12_restore_63 ?_
    refine v_iload_n (pc := 66) hC dX12_restore_66 rfl 1 rfl ?_
    refine v_iald (pc := 67) (n := 16) hC kq_136 (by decide) dX12_restore_67 h (fun h => ?_)
    refine v_iast (pc := 68) (n := 16) hC kq_125 (by decide) dX12_restore_68 h (fun F4 h => ?_)
    refine v_iinc (pc := 69) (v := 1) hC (fun z => [(1, .int z), (0, .ref (ad E 121))]) dX12_restore_69 1 rfl (by decide) (by decide) (fun _ => rfl) h (fun n5 h => ?_)
    refine v_goto (pc := 72) (tgt := 39) hC dX12_restore_72 (by decide) ?_
    exact v_sub [1, 0] rfl (hK39 _ _ h)
set_option maxRecDepth 20000 in
set_option maxHeartbeats 4000000 in
theorem jl_X12_restore_39 {p : Program} {l : Launch} {e : Env} {s : State} {m : MethodId} {args : Array Value} {below : List Frame} {meth : Method} {c : Code} {E : gE} (hC : CX p s m args meth c cX12_restore RX12 (some .int) E 2) {Q : Int32 → gS → Prop} {F : gS} {x1 : Int32} (h : LP2 (wb_X12_restore_39 Q) F x1) : VV p l e rm_X12_restore s m args below meth c 0 0 (MQ below (va_Qi Q (gB E) (gA E)) args s 0 0 (gA E)) E 2 F 39 [(0, .ref (ad E 121)), (1, .int x1)] [] :=
  LP2_go (V := fun (F : gS) (x1 : Int32) => VV p l e rm_X12_restore s m args below meth c 0 0 (MQ below (va_Qi Q (gB E) (gA E)) args s 0 0 (gA E)) E 2 F 39 [(0, .ref (ad E 121)), (1, .int x1)] []) (fun K39 hK39 F x1 h => jb_X12_restore_39 hC hK39 h) F x1 h
set_option maxRecDepth 20000 in
set_option maxHeartbeats 4000000 in
theorem c_X12_restore (l : Launch) (E : gE) {F : gS} {Q : Int32 → gS → Prop} (h : wp_X12_restore F Q) : CtI l E yX12_restore cX12_restore 2 (some .int) rm_X12_restore [.ref (ad E 121)] F Q := by
  refine ct_of (by decide) (Nat.le_of_ble_eq_true rfl) (fun p e s m below meth c hC => ?_)
  generalize ([.ref (ad E 121)] : List Value).toArray = args at hC ⊢
  refine v_sub (lv' := [(0, .ref (ad E 121))]) [0] rfl ?_
  unfold wp_X12_restore at h
  refine v_aload_n (pc := 0) hC dX12_restore_0 rfl 0 rfl ?_
  refine v_get (pc := 1) (v := .int (F 121 21)) hC fl_X12_335 kq_121 rfl dX12_restore_1 ?_
  refine v_if_eq (pc := 4) (tgt := 18) hC dX12_restore_4 (by decide) h (fun h => ?_) (fun h => ?_)
  · skip
    refine v_bipush (pc := 18) (v := (-103)) hC dX12_restore_18 (by decide) ?_
    exact v_iret (pc := 20) hC dX12_restore_20 h
  · skip
    refine v_aload_n (pc := 7) hC dX12_restore_7 rfl 0 rfl ?_
    refine v_get (pc := 8) (v := .int (F 121 22)) hC fl_X12_338 kq_121 rfl dX12_restore_8 ?_
    refine v_aload_n (pc := 11) hC dX12_restore_11 rfl 0 rfl ?_
    refine v_get (pc := 12) (v := .int (F 121 2)) hC fl_X12_190 kq_121 rfl dX12_restore_12 ?_
    refine v_ic_eq (pc := 15) (tgt := 21) hC dX12_restore_15 (by decide) h (fun h => ?_) (fun h => ?_)
    · skip
      refine v_aload_n (pc := 21) hC dX12_restore_21 rfl 0 rfl ?_
      refine v_aload_n (pc := 22) hC dX12_restore_22 rfl 0 rfl ?_
      refine v_get (pc := 23) (v := .int (F 121 23)) hC fl_X12_341 kq_121 rfl dX12_restore_23 ?_
      refine v_puti (pc := 26) hC fp_X12_184 kq_121 (fs_10_7 E _ _ _) (fn_10_7 E _ _) dX12_restore_26 h (fun F1 h => ?_)
      refine v_aload_n (pc := 29) hC dX12_restore_29 rfl 0 rfl ?_
      refine v_aload_n (pc := 30) hC dX12_restore_30 rfl 0 rfl ?_
      refine v_get (pc := 31) (v := .int (F1 121 24)) hC fl_X12_344 kq_121 rfl dX12_restore_31 ?_
      refine v_puti (pc := 34) hC fp_X12_187 kq_121 (fs_10_15 E _ _ _) (fn_10_15 E _ _) dX12_restore_34 h (fun F2 h => ?_)
      refine v_iconst (pc := 37) (v := 0) hC dX12_restore_37 (by decide) ?_
      refine v_istore_n (pc := 38) (lv' := [(1, .int 0), (0, .ref (ad E 121))]) hC dX12_restore_38 rfl (by decide) rfl ?_
      exact v_sub [1, 0] rfl (jl_X12_restore_39 hC h)
    · skip
      refine v_bipush (pc := 18) (v := (-103)) hC dX12_restore_18 (by decide) ?_
      exact v_iret (pc := 20) hC dX12_restore_20 h
def rm_X12_worthAll : Room := { frames := 0, cells := 0, slots := 0, locals := 0 }
def wb_X12_worthAll_4 (Q : Int32 → Prop) (F : gS) (K4 : Int32 → Int32 → Prop) (x1 : Int32) (x2 : Int32) : Prop :=
  if (F 121 15) ≤ x2 then
    (Q x1)
  else
    (vp_in ((7 * x2) + 6) 168 ∧
    Nm (x1 + (F 132 ((7 * x2) + 6).toNatClampNeg)) fun n1 =>
    Nm (x2 + 1) fun n2 =>
    K4 n1 n2)
def wp_X12_worthAll (F : gS) (Q : Int32 → Prop) : Prop :=
  LP2 (wb_X12_worthAll_4 Q F) 0 0
set_option maxRecDepth 20000 in
set_option maxHeartbeats 4000000 in
theorem jb_X12_worthAll_4 {p : Program} {l : Launch} {e : Env} {s : State} {m : MethodId} {args : Array Value} {below : List Frame} {meth : Method} {c : Code} {E : gE} (hC : CX p s m args meth c cX12_worthAll RX12 (some .int) E 3) {Q : Int32 → Prop} {F : gS} {x1 : Int32} {x2 : Int32} {K4 : Int32 → Int32 → Prop} (hK4 : ∀ (x1 : Int32) (x2 : Int32), K4 x1 x2 → VV p l e rm_X12_worthAll s m args below meth c 0 0 (MQ below (va_Qi (fun r G => G = F ∧ Q r) (gB E) (gA E)) args s 0 0 (gA E)) E 3 F 4 [(0, .ref (ad E 121)), (1, .int x1), (2, .int x2)] []) (h : wb_X12_worthAll_4 Q F K4 x1 x2) : VV p l e rm_X12_worthAll s m args below meth c 0 0 (MQ below (va_Qi (fun r G => G = F ∧ Q r) (gB E) (gA E)) args s 0 0 (gA E)) E 3 F 4 [(0, .ref (ad E 121)), (1, .int x1), (2, .int x2)] [] := by
  unfold wb_X12_worthAll_4 at h
  refine v_iload_n (pc := 4) hC dX12_worthAll_4 rfl 2 rfl ?_
  refine v_aload_n (pc := 5) hC dX12_worthAll_5 rfl 0 rfl ?_
  refine v_get (pc := 6) (v := .int (F 121 15)) hC fl_X12_187 kq_121 rfl dX12_worthAll_6 ?_
  refine v_ic_ge (pc := 9) (tgt := 33) hC dX12_worthAll_9 (by decide) h (fun h => ?_) (fun h => ?_)
  · skip
    refine v_iload_n (pc := 33) hC dX12_worthAll_33 rfl 1 rfl ?_
    exact v_iret (pc := 34) hC dX12_worthAll_34 ⟨rfl, h⟩
  · skip
    refine v_iload_n (pc := 12) hC dX12_worthAll_12 rfl 1 rfl ?_
    refine v_aload_n (pc := 13) hC dX12_worthAll_13 rfl 0 rfl ?_
    refine v_get (pc := 14) (v := .ref (ad E 132)) hC fl_X12_41 kq_121 rfl dX12_worthAll_14 ?_
    refine v_bipush (pc := 17) (v := 7) hC dX12_worthAll_17 (by decide) ?_
    refine v_iload_n (pc := 19) hC dX12_worthAll_19 rfl 2 rfl ?_
    refine v_imul (pc := 20) hC dX12_worthAll_20 ?_
    refine v_bipush (pc := 21) (v := 6) hC dX12_worthAll_21 (by decide) ?_
    refine v_iadd (pc := 23) hC dX12_worthAll_23 ?_
    refine v_iald (pc := 24) (n := 168) hC kq_132 (by decide) dX12_worthAll_24 h (fun h => ?_)
    refine v_iadd (pc := 25) hC dX12_worthAll_25 ?_
    refine v_nmi h (fun n1 h => ?_)
    refine v_istore_n (pc := 26) (lv' := [(1, .int n1), (0, .ref (ad E 121)), (2, .int x2)]) hC dX12_worthAll_26 rfl (by decide) rfl ?_
    refine v_iinc (pc := 27) (v := 1) hC (fun z => [(2, .int z), (1, .int n1), (0, .ref (ad E 121))]) dX12_worthAll_27 2 rfl (by decide) (by decide) (fun _ => rfl) h (fun n2 h => ?_)
    refine v_goto (pc := 30) (tgt := 4) hC dX12_worthAll_30 (by decide) ?_
    exact v_sub [2, 1, 0] rfl (hK4 _ _ h)
set_option maxRecDepth 20000 in
set_option maxHeartbeats 4000000 in
theorem jl_X12_worthAll_4 {p : Program} {l : Launch} {e : Env} {s : State} {m : MethodId} {args : Array Value} {below : List Frame} {meth : Method} {c : Code} {E : gE} (hC : CX p s m args meth c cX12_worthAll RX12 (some .int) E 3) {Q : Int32 → Prop} {F : gS} {x1 : Int32} {x2 : Int32} (h : LP2 (wb_X12_worthAll_4 Q F) x1 x2) : VV p l e rm_X12_worthAll s m args below meth c 0 0 (MQ below (va_Qi (fun r G => G = F ∧ Q r) (gB E) (gA E)) args s 0 0 (gA E)) E 3 F 4 [(0, .ref (ad E 121)), (1, .int x1), (2, .int x2)] [] :=
  LP2_go (V := fun (x1 : Int32) (x2 : Int32) => VV p l e rm_X12_worthAll s m args below meth c 0 0 (MQ below (va_Qi (fun r G => G = F ∧ Q r) (gB E) (gA E)) args s 0 0 (gA E)) E 3 F 4 [(0, .ref (ad E 121)), (1, .int x1), (2, .int x2)] []) (fun K4 hK4 x1 x2 h => jb_X12_worthAll_4 hC hK4 h) x1 x2 h
set_option maxRecDepth 20000 in
set_option maxHeartbeats 4000000 in
theorem c_X12_worthAll (l : Launch) (E : gE) {F : gS} {Q : Int32 → Prop} (h : wp_X12_worthAll F Q) : CtI l E yX12_worthAll cX12_worthAll 3 (some .int) rm_X12_worthAll [.ref (ad E 121)] F (fun r G => G = F ∧ Q r) := by
  refine ct_of (by decide) (Nat.le_of_ble_eq_true rfl) (fun p e s m below meth c hC => ?_)
  generalize ([.ref (ad E 121)] : List Value).toArray = args at hC ⊢
  refine v_sub (lv' := [(0, .ref (ad E 121))]) [0] rfl ?_
  unfold wp_X12_worthAll at h
  refine v_iconst (pc := 0) (v := 0) hC dX12_worthAll_0 (by decide) ?_
  refine v_istore_n (pc := 1) (lv' := [(1, .int 0), (0, .ref (ad E 121))]) hC dX12_worthAll_1 rfl (by decide) rfl ?_
  refine v_iconst (pc := 2) (v := 0) hC dX12_worthAll_2 (by decide) ?_
  refine v_istore_n (pc := 3) (lv' := [(2, .int 0), (1, .int 0), (0, .ref (ad E 121))]) hC dX12_worthAll_3 rfl (by decide) rfl ?_
  exact v_sub [2, 1, 0] rfl (jl_X12_worthAll_4 hC h)
def rm_X12_howMany : Room := { frames := 2, cells := 0, slots := 0, locals := 42 }
def wp_X12_howMany (x1 : Int32) (F : gS) (Q : Int32 → Prop) : Prop :=
  if x1 = 0 then
    (wp_X12_cells F fun r2 =>
    Q r2)
  else (if x1 = 1 then
    (Q (F 121 8))
  else (if x1 = 2 then
    (Q (F 121 15))
  else (if x1 = 3 then
    (Q (F 121 19))
  else (if x1 = 4 then
    (Q (F 121 7))
  else (if x1 = 5 then
    (wp_X12_bitsAll F fun r8 =>
              Q r8)
  else (if x1 = 6 then
    (Q (F 121 2))
  else (if x1 = 7 then
    (Q (F 121 18))
  else (if x1 = 8 then
    (wp_X12_worthAll F fun r12 =>
                    Q r12)
  else (Q (-102))))))))))
set_option maxRecDepth 20000 in
set_option maxHeartbeats 4000000 in
theorem c_X12_howMany (l : Launch) (E : gE) {x1 : Int32} {F : gS} {Q : Int32 → Prop} (h : wp_X12_howMany x1 F Q) : CtI l E yX12_howMany cX12_howMany 2 (some .int) rm_X12_howMany [.ref (ad E 121), .int x1] F (fun r G => G = F ∧ Q r) := by
  refine ct_of (by decide) (Nat.le_of_ble_eq_true rfl) (fun p e s m below meth c hC => ?_)
  generalize ([.ref (ad E 121), .int x1] : List Value).toArray = args at hC ⊢
  refine v_sub (lv' := [(0, .ref (ad E 121)), (1, .int x1)]) [0, 1] rfl ?_
  unfold wp_X12_howMany at h
  refine v_iload_n (pc := 0) hC dX12_howMany_0 rfl 1 rfl ?_
  by_cases c1 : x1 = 0
  · skip
    rw [if_pos c1] at h
    refine v_tin (pc := 1) (tgt := 52) hC dX12_howMany_1 0 (by rw [c1]; rfl) (by decide) (by decide) rfl (by decide) ?_
    refine v_aload_n (pc := 52) hC dX12_howMany_52 rfl 0 rfl ?_
    refine v_cip (pc := 53) (r_V (rest := []) hC ml_X12_202 mv_X12_cells (c_X12_cells l E h) ⟨rfl, rfl⟩ ⟨Nat.le_of_ble_eq_true rfl, Nat.le_of_ble_eq_true rfl⟩ kq_121 rfl (by decide) rfl rfl (Nat.le_of_ble_eq_true rfl) ⟨Nat.zero_le _, Nat.zero_le _⟩ dX12_howMany_53) (fun r2 h => ?_)
    exact v_iret (pc := 56) hC dX12_howMany_56 ⟨rfl, h⟩
  · skip
    rw [if_neg c1] at h
    by_cases c3 : x1 = 1
    · skip
      rw [if_pos c3] at h
      refine v_tin (pc := 1) (tgt := 57) hC dX12_howMany_1 1 (by rw [c3]; rfl) (by decide) (by decide) rfl (by decide) ?_
      refine v_aload_n (pc := 57) hC dX12_howMany_57 rfl 0 rfl ?_
      refine v_get (pc := 58) (v := .int (F 121 8)) hC fl_X12_193 kq_121 rfl dX12_howMany_58 ?_
      exact v_iret (pc := 61) hC dX12_howMany_61 ⟨rfl, h⟩
    · skip
      rw [if_neg c3] at h
      by_cases c4 : x1 = 2
      · skip
        rw [if_pos c4] at h
        refine v_tin (pc := 1) (tgt := 62) hC dX12_howMany_1 2 (by rw [c4]; rfl) (by decide) (by decide) rfl (by decide) ?_
        refine v_aload_n (pc := 62) hC dX12_howMany_62 rfl 0 rfl ?_
        refine v_get (pc := 63) (v := .int (F 121 15)) hC fl_X12_187 kq_121 rfl dX12_howMany_63 ?_
        exact v_iret (pc := 66) hC dX12_howMany_66 ⟨rfl, h⟩
      · skip
        rw [if_neg c4] at h
        by_cases c5 : x1 = 3
        · skip
          rw [if_pos c5] at h
          refine v_tin (pc := 1) (tgt := 67) hC dX12_howMany_1 3 (by rw [c5]; rfl) (by decide) (by decide) rfl (by decide) ?_
          refine v_aload_n (pc := 67) hC dX12_howMany_67 rfl 0 rfl ?_
          refine v_get (pc := 68) (v := .int (F 121 19)) hC fl_X12_98 kq_121 rfl dX12_howMany_68 ?_
          exact v_iret (pc := 71) hC dX12_howMany_71 ⟨rfl, h⟩
        · skip
          rw [if_neg c5] at h
          by_cases c6 : x1 = 4
          · skip
            rw [if_pos c6] at h
            refine v_tin (pc := 1) (tgt := 72) hC dX12_howMany_1 4 (by rw [c6]; rfl) (by decide) (by decide) rfl (by decide) ?_
            refine v_aload_n (pc := 72) hC dX12_howMany_72 rfl 0 rfl ?_
            refine v_get (pc := 73) (v := .int (F 121 7)) hC fl_X12_184 kq_121 rfl dX12_howMany_73 ?_
            exact v_iret (pc := 76) hC dX12_howMany_76 ⟨rfl, h⟩
          · skip
            rw [if_neg c6] at h
            by_cases c7 : x1 = 5
            · skip
              rw [if_pos c7] at h
              refine v_tin (pc := 1) (tgt := 77) hC dX12_howMany_1 5 (by rw [c7]; rfl) (by decide) (by decide) rfl (by decide) ?_
              refine v_aload_n (pc := 77) hC dX12_howMany_77 rfl 0 rfl ?_
              refine v_cip (pc := 78) (r_V (rest := []) hC ml_X12_280 mv_X12_bitsAll (c_X12_bitsAll l E h) ⟨rfl, rfl⟩ ⟨Nat.le_of_ble_eq_true rfl, Nat.le_of_ble_eq_true rfl⟩ kq_121 rfl (by decide) rfl rfl (Nat.le_of_ble_eq_true rfl) ⟨Nat.zero_le _, Nat.zero_le _⟩ dX12_howMany_78) (fun r8 h => ?_)
              exact v_iret (pc := 81) hC dX12_howMany_81 ⟨rfl, h⟩
            · skip
              rw [if_neg c7] at h
              by_cases c9 : x1 = 6
              · skip
                rw [if_pos c9] at h
                refine v_tin (pc := 1) (tgt := 82) hC dX12_howMany_1 6 (by rw [c9]; rfl) (by decide) (by decide) rfl (by decide) ?_
                refine v_aload_n (pc := 82) hC dX12_howMany_82 rfl 0 rfl ?_
                refine v_get (pc := 83) (v := .int (F 121 2)) hC fl_X12_190 kq_121 rfl dX12_howMany_83 ?_
                exact v_iret (pc := 86) hC dX12_howMany_86 ⟨rfl, h⟩
              · skip
                rw [if_neg c9] at h
                by_cases c10 : x1 = 7
                · skip
                  rw [if_pos c10] at h
                  refine v_tin (pc := 1) (tgt := 87) hC dX12_howMany_1 7 (by rw [c10]; rfl) (by decide) (by decide) rfl (by decide) ?_
                  refine v_aload_n (pc := 87) hC dX12_howMany_87 rfl 0 rfl ?_
                  refine v_get (pc := 88) (v := .int (F 121 18)) hC fl_X12_313 kq_121 rfl dX12_howMany_88 ?_
                  exact v_iret (pc := 91) hC dX12_howMany_91 ⟨rfl, h⟩
                · skip
                  rw [if_neg c10] at h
                  by_cases c11 : x1 = 8
                  · skip
                    rw [if_pos c11] at h
                    refine v_tin (pc := 1) (tgt := 92) hC dX12_howMany_1 8 (by rw [c11]; rfl) (by decide) (by decide) rfl (by decide) ?_
                    refine v_aload_n (pc := 92) hC dX12_howMany_92 rfl 0 rfl ?_
                    refine v_cip (pc := 93) (r_V (rest := []) hC ml_X12_347 mv_X12_worthAll (c_X12_worthAll l E h) ⟨rfl, rfl⟩ ⟨Nat.le_of_ble_eq_true rfl, Nat.le_of_ble_eq_true rfl⟩ kq_121 rfl (by decide) rfl rfl (Nat.le_of_ble_eq_true rfl) ⟨Nat.zero_le _, Nat.zero_le _⟩ dX12_howMany_93) (fun r12 h => ?_)
                    exact v_iret (pc := 96) hC dX12_howMany_96 ⟨rfl, h⟩
                  · skip
                    rw [if_neg c11] at h
                    refine v_tout (pc := 1) (tgt := 97) hC dX12_howMany_1 (by have := lv_neT c1 (a := 0) rfl; have := lv_neT c3 (a := 1) rfl; have := lv_neT c4 (a := 2) rfl; have := lv_neT c5 (a := 3) rfl; have := lv_neT c6 (a := 4) rfl; have := lv_neT c7 (a := 5) rfl; have := lv_neT c9 (a := 6) rfl; have := lv_neT c10 (a := 7) rfl; have := lv_neT c11 (a := 8) rfl; omega) (by decide) ?_
                    refine v_bipush (pc := 97) (v := (-102)) hC dX12_howMany_97 (by decide) ?_
                    exact v_iret (pc := 99) hC dX12_howMany_99 ⟨rfl, h⟩
def rm_X12_count : Room := { frames := 3, cells := 0, slots := 0, locals := 63 }
def wp_X12_count (x1 : Int32) (F : gS) (Q : Int32 → Prop) : Prop :=
  wp_X12_howMany x1 F fun r1 =>
  Q r1
set_option maxRecDepth 20000 in
set_option maxHeartbeats 4000000 in
theorem c_X12_count (l : Launch) (E : gE) {x1 : Int32} {F : gS} {Q : Int32 → Prop} (h : wp_X12_count x1 F Q) : CtI l E yX12_count cX12_count 2 (some .int) rm_X12_count [.ref (ad E 121), .int x1] F (fun r G => G = F ∧ Q r) := by
  refine ct_of (by decide) (Nat.le_of_ble_eq_true rfl) (fun p e s m below meth c hC => ?_)
  generalize ([.ref (ad E 121), .int x1] : List Value).toArray = args at hC ⊢
  refine v_sub (lv' := [(0, .ref (ad E 121)), (1, .int x1)]) [0, 1] rfl ?_
  unfold wp_X12_count at h
  refine v_aload_n (pc := 0) hC dX12_count_0 rfl 0 rfl ?_
  refine v_iload_n (pc := 1) hC dX12_count_1 rfl 1 rfl ?_
  refine v_cip (pc := 2) (r_V (rest := []) hC ml_X12_350 mv_X12_howMany (c_X12_howMany l E h) ⟨rfl, rfl⟩ ⟨Nat.le_of_ble_eq_true rfl, Nat.le_of_ble_eq_true rfl⟩ kq_121 rfl (by decide) rfl rfl (Nat.le_of_ble_eq_true rfl) ⟨Nat.zero_le _, Nat.zero_le _⟩ dX12_count_2) (fun r1 h => ?_)
  exact v_iret (pc := 5) hC dX12_count_5 ⟨rfl, h⟩
def rm_X12_mix : Room := { frames := 0, cells := 0, slots := 0, locals := 0 }
def wp_X12_mix (x1 : Int64) (F : gS) (Q : gS → Prop) : Prop :=
  Nm (upL F 121 66 67 (((31 : Int64) * (gL (F 121 66) (F 121 67))) + x1)) fun F1 =>
  Q F1
set_option maxRecDepth 20000 in
set_option maxHeartbeats 4000000 in
theorem c_X12_mix (l : Launch) (E : gE) {x1 : Int64} {F : gS} {Q : gS → Prop} (h : wp_X12_mix x1 F Q) : CtV l E yX12_mix cX12_mix 3 none rm_X12_mix [.ref (ad E 121), .long x1] F Q := by
  refine ct_of (by decide) (Nat.le_of_ble_eq_true rfl) (fun p e s m below meth c hC => ?_)
  generalize ([.ref (ad E 121), .long x1] : List Value).toArray = args at hC ⊢
  refine v_sub (lv' := [(0, .ref (ad E 121)), (1, .long x1)]) [0, 1] rfl ?_
  unfold wp_X12_mix at h
  refine v_aload_n (pc := 0) hC dX12_mix_0 rfl 0 rfl ?_
  refine v_ldc2 (pc := 1) hC kc_X12_353 dX12_mix_1 ?_
  refine v_aload_n (pc := 4) hC dX12_mix_4 rfl 0 rfl ?_
  refine v_get (pc := 5) (v := .long (gL (F 121 66) (F 121 67))) hC fl_X12_355 kq_121 rfl dX12_mix_5 ?_
  refine v_lmul (pc := 8) hC dX12_mix_8 ?_
  refine v_lload_n (pc := 9) hC dX12_mix_9 rfl 1 rfl ?_
  refine v_ladd (pc := 10) hC dX12_mix_10 ?_
  refine v_putl (pc := 11) (j2 := 67) hC fp_X12_355 kq_121 (fs_10_66 E _ _ _) (fn_10_66 E _ _) dX12_mix_11 h (fun F1 h => ?_)
  exact v_vret (pc := 14) hC dX12_mix_14 h
def rm_X12_mixCake : Room := { frames := 1, cells := 0, slots := 0, locals := 22 }
def wb_X12_mixCake_32 (Q : gS → Prop) (x1 : Int32) (K32 : gS → Int32 → Prop) (F : gS) (x2 : Int32) : Prop :=
  wp_X12_cells F fun r3 =>
  if r3 ≤ x2 then
    (Q F)
  else
    (vp_in ((16 * x1) + x2) 384 ∧
    wp_X12_mix ((F 133 ((16 * x1) + x2).toNatClampNeg).toInt64) F fun F4 =>
    Nm (x2 + 1) fun n5 =>
    K32 F4 n5)
def wb_X12_mixCake_2 (Q : gS → Prop) (x1 : Int32) (K2 : gS → Int32 → Prop) (F : gS) (x2 : Int32) : Prop :=
  if 7 ≤ x2 then
    (LP2 (wb_X12_mixCake_32 Q x1) F 0)
  else
    (vp_in ((7 * x1) + x2) 168 ∧
    wp_X12_mix ((F 132 ((7 * x1) + x2).toNatClampNeg).toInt64) F fun F1 =>
    Nm (x2 + 1) fun n2 =>
    K2 F1 n2)
def wp_X12_mixCake (x1 : Int32) (F : gS) (Q : gS → Prop) : Prop :=
  LP2 (wb_X12_mixCake_2 Q x1) F 0
set_option maxRecDepth 20000 in
set_option maxHeartbeats 4000000 in
theorem jb_X12_mixCake_32 {p : Program} {l : Launch} {e : Env} {s : State} {m : MethodId} {args : Array Value} {below : List Frame} {meth : Method} {c : Code} {E : gE} (hC : CX p s m args meth c cX12_mixCake RX12 none E 3) {Q : gS → Prop} {F : gS} {x1 : Int32} {x2 : Int32} {K32 : gS → Int32 → Prop} (hK32 : ∀ (F : gS) (x2 : Int32), K32 F x2 → VV p l e rm_X12_mixCake s m args below meth c 0 0 (MQ below (va_Qv Q (gB E) (gA E)) args s 0 0 (gA E)) E 3 F 32 [(0, .ref (ad E 121)), (1, .int x1), (2, .int x2)] []) (h : wb_X12_mixCake_32 Q x1 K32 F x2) : VV p l e rm_X12_mixCake s m args below meth c 0 0 (MQ below (va_Qv Q (gB E) (gA E)) args s 0 0 (gA E)) E 3 F 32 [(0, .ref (ad E 121)), (1, .int x1), (2, .int x2)] [] := by
  unfold wb_X12_mixCake_32 at h
  refine v_iload_n (pc := 32) hC dX12_mixCake_32 rfl 2 rfl ?_
  refine v_aload_n (pc := 33) hC dX12_mixCake_33 rfl 0 rfl ?_
  refine v_cip (pc := 34) (r_V (rest := [.int x2]) hC ml_X12_202 mv_X12_cells (c_X12_cells l E h) ⟨rfl, rfl⟩ ⟨Nat.le_of_ble_eq_true rfl, Nat.le_of_ble_eq_true rfl⟩ kq_121 rfl (by decide) rfl rfl (Nat.le_of_ble_eq_true rfl) ⟨Nat.zero_le _, Nat.zero_le _⟩ dX12_mixCake_34) (fun r3 h => ?_)
  refine v_ic_ge (pc := 37) (tgt := 62) hC dX12_mixCake_37 (by decide) h (fun h => ?_) (fun h => ?_)
  · skip
    exact v_vret (pc := 62) hC dX12_mixCake_62 h
  · skip
    refine v_aload_n (pc := 40) hC dX12_mixCake_40 rfl 0 rfl ?_
    refine v_aload_n (pc := 41) hC dX12_mixCake_41 rfl 0 rfl ?_
    refine v_get (pc := 42) (v := .ref (ad E 133)) hC fl_X12_44 kq_121 rfl dX12_mixCake_42 ?_
    refine v_bipush (pc := 45) (v := 16) hC dX12_mixCake_45 (by decide) ?_
    refine v_iload_n (pc := 47) hC dX12_mixCake_47 rfl 1 rfl ?_
    refine v_imul (pc := 48) hC dX12_mixCake_48 ?_
    refine v_iload_n (pc := 49) hC dX12_mixCake_49 rfl 2 rfl ?_
    refine v_iadd (pc := 50) hC dX12_mixCake_50 ?_
    refine v_iald (pc := 51) (n := 384) hC kq_133 (by decide) dX12_mixCake_51 h (fun h => ?_)
    refine v_i2l (pc := 52) hC dX12_mixCake_52 ?_
    refine v_cv (pc := 53) (r_V (rest := []) hC ml_X12_359 mv_X12_mix (c_X12_mix l E h) ⟨rfl, rfl⟩ ⟨Nat.le_of_ble_eq_true rfl, Nat.le_of_ble_eq_true rfl⟩ kq_121 rfl (by decide) rfl rfl (Nat.le_of_ble_eq_true rfl) ⟨Nat.zero_le _, Nat.zero_le _⟩ dX12_mixCake_53) (fun F4 h => ?_)
    refine v_iinc (pc := 56) (v := 1) hC (fun z => [(2, .int z), (0, .ref (ad E 121)), (1, .int x1)]) dX12_mixCake_56 2 rfl (by decide) (by decide) (fun _ => rfl) h (fun n5 h => ?_)
    refine v_goto (pc := 59) (tgt := 32) hC dX12_mixCake_59 (by decide) ?_
    exact v_sub [1, 2, 0] rfl (hK32 _ _ h)
set_option maxRecDepth 20000 in
set_option maxHeartbeats 4000000 in
theorem jl_X12_mixCake_32 {p : Program} {l : Launch} {e : Env} {s : State} {m : MethodId} {args : Array Value} {below : List Frame} {meth : Method} {c : Code} {E : gE} (hC : CX p s m args meth c cX12_mixCake RX12 none E 3) {Q : gS → Prop} {F : gS} {x1 : Int32} {x2 : Int32} (h : LP2 (wb_X12_mixCake_32 Q x1) F x2) : VV p l e rm_X12_mixCake s m args below meth c 0 0 (MQ below (va_Qv Q (gB E) (gA E)) args s 0 0 (gA E)) E 3 F 32 [(0, .ref (ad E 121)), (1, .int x1), (2, .int x2)] [] :=
  LP2_go (V := fun (F : gS) (x2 : Int32) => VV p l e rm_X12_mixCake s m args below meth c 0 0 (MQ below (va_Qv Q (gB E) (gA E)) args s 0 0 (gA E)) E 3 F 32 [(0, .ref (ad E 121)), (1, .int x1), (2, .int x2)] []) (fun K32 hK32 F x2 h => jb_X12_mixCake_32 hC hK32 h) F x2 h
set_option maxRecDepth 20000 in
set_option maxHeartbeats 4000000 in
theorem jb_X12_mixCake_2 {p : Program} {l : Launch} {e : Env} {s : State} {m : MethodId} {args : Array Value} {below : List Frame} {meth : Method} {c : Code} {E : gE} (hC : CX p s m args meth c cX12_mixCake RX12 none E 3) {Q : gS → Prop} {F : gS} {x1 : Int32} {x2 : Int32} {K2 : gS → Int32 → Prop} (hK2 : ∀ (F : gS) (x2 : Int32), K2 F x2 → VV p l e rm_X12_mixCake s m args below meth c 0 0 (MQ below (va_Qv Q (gB E) (gA E)) args s 0 0 (gA E)) E 3 F 2 [(0, .ref (ad E 121)), (1, .int x1), (2, .int x2)] []) (h : wb_X12_mixCake_2 Q x1 K2 F x2) : VV p l e rm_X12_mixCake s m args below meth c 0 0 (MQ below (va_Qv Q (gB E) (gA E)) args s 0 0 (gA E)) E 3 F 2 [(0, .ref (ad E 121)), (1, .int x1), (2, .int x2)] [] := by
  unfold wb_X12_mixCake_2 at h
  refine v_iload_n (pc := 2) hC dX12_mixCake_2 rfl 2 rfl ?_
  refine v_bipush (pc := 3) (v := 7) hC dX12_mixCake_3 (by decide) ?_
  refine v_ic_ge (pc := 5) (tgt := 30) hC dX12_mixCake_5 (by decide) h (fun h => ?_) (fun h => ?_)
  · skip
    refine v_iconst (pc := 30) (v := 0) hC dX12_mixCake_30 (by decide) ?_
    refine v_istore_n (pc := 31) (lv' := [(2, .int 0), (0, .ref (ad E 121)), (1, .int x1)]) hC dX12_mixCake_31 rfl (by decide) rfl ?_
    exact v_sub [1, 2, 0] rfl (jl_X12_mixCake_32 hC h)
  · skip
    refine v_aload_n (pc := 8) hC dX12_mixCake_8 rfl 0 rfl ?_
    refine v_aload_n (pc := 9) hC dX12_mixCake_9 rfl 0 rfl ?_
    refine v_get (pc := 10) (v := .ref (ad E 132)) hC fl_X12_41 kq_121 rfl dX12_mixCake_10 ?_
    refine v_bipush (pc := 13) (v := 7) hC dX12_mixCake_13 (by decide) ?_
    refine v_iload_n (pc := 15) hC dX12_mixCake_15 rfl 1 rfl ?_
    refine v_imul (pc := 16) hC dX12_mixCake_16 ?_
    refine v_iload_n (pc := 17) hC dX12_mixCake_17 rfl 2 rfl ?_
    refine v_iadd (pc := 18) hC dX12_mixCake_18 ?_
    refine v_iald (pc := 19) (n := 168) hC kq_132 (by decide) dX12_mixCake_19 h (fun h => ?_)
    refine v_i2l (pc := 20) hC dX12_mixCake_20 ?_
    refine v_cv (pc := 21) (r_V (rest := []) hC ml_X12_359 mv_X12_mix (c_X12_mix l E h) ⟨rfl, rfl⟩ ⟨Nat.le_of_ble_eq_true rfl, Nat.le_of_ble_eq_true rfl⟩ kq_121 rfl (by decide) rfl rfl (Nat.le_of_ble_eq_true rfl) ⟨Nat.zero_le _, Nat.zero_le _⟩ dX12_mixCake_21) (fun F1 h => ?_)
    refine v_iinc (pc := 24) (v := 1) hC (fun z => [(2, .int z), (0, .ref (ad E 121)), (1, .int x1)]) dX12_mixCake_24 2 rfl (by decide) (by decide) (fun _ => rfl) h (fun n2 h => ?_)
    refine v_goto (pc := 27) (tgt := 2) hC dX12_mixCake_27 (by decide) ?_
    exact v_sub [1, 2, 0] rfl (hK2 _ _ h)
set_option maxRecDepth 20000 in
set_option maxHeartbeats 4000000 in
theorem jl_X12_mixCake_2 {p : Program} {l : Launch} {e : Env} {s : State} {m : MethodId} {args : Array Value} {below : List Frame} {meth : Method} {c : Code} {E : gE} (hC : CX p s m args meth c cX12_mixCake RX12 none E 3) {Q : gS → Prop} {F : gS} {x1 : Int32} {x2 : Int32} (h : LP2 (wb_X12_mixCake_2 Q x1) F x2) : VV p l e rm_X12_mixCake s m args below meth c 0 0 (MQ below (va_Qv Q (gB E) (gA E)) args s 0 0 (gA E)) E 3 F 2 [(0, .ref (ad E 121)), (1, .int x1), (2, .int x2)] [] :=
  LP2_go (V := fun (F : gS) (x2 : Int32) => VV p l e rm_X12_mixCake s m args below meth c 0 0 (MQ below (va_Qv Q (gB E) (gA E)) args s 0 0 (gA E)) E 3 F 2 [(0, .ref (ad E 121)), (1, .int x1), (2, .int x2)] []) (fun K2 hK2 F x2 h => jb_X12_mixCake_2 hC hK2 h) F x2 h
set_option maxRecDepth 20000 in
set_option maxHeartbeats 4000000 in
theorem c_X12_mixCake (l : Launch) (E : gE) {x1 : Int32} {F : gS} {Q : gS → Prop} (h : wp_X12_mixCake x1 F Q) : CtV l E yX12_mixCake cX12_mixCake 3 none rm_X12_mixCake [.ref (ad E 121), .int x1] F Q := by
  refine ct_of (by decide) (Nat.le_of_ble_eq_true rfl) (fun p e s m below meth c hC => ?_)
  generalize ([.ref (ad E 121), .int x1] : List Value).toArray = args at hC ⊢
  refine v_sub (lv' := [(0, .ref (ad E 121)), (1, .int x1)]) [0, 1] rfl ?_
  unfold wp_X12_mixCake at h
  refine v_iconst (pc := 0) (v := 0) hC dX12_mixCake_0 (by decide) ?_
  refine v_istore_n (pc := 1) (lv' := [(2, .int 0), (0, .ref (ad E 121)), (1, .int x1)]) hC dX12_mixCake_1 rfl (by decide) rfl ?_
  exact v_sub [1, 2, 0] rfl (jl_X12_mixCake_2 hC h)
def rm_X12_digest : Room := { frames := 5, cells := 0, slots := 0, locals := 113 }
def wb_X12_digest_19 (K9 : gS → Int32 → Prop) (Q : Int64 → gS → Prop) (x1 : Int32) (K19 : gS → Int32 → Prop) (F : gS) (x2 : Int32) : Prop :=
  if 4 ≤ x2 then
    (Nm (x1 + 1) fun n3 =>
    K9 F n3)
  else
    (wp_X12_cellNow x1 x2 F fun r4 =>
    wp_X12_mix r4.toInt64 F fun F5 =>
    Nm (x2 + 1) fun n6 =>
    K19 F5 n6)
def wb_X12_digest_83 (K49 : gS → Int32 → Prop) (Q : Int64 → gS → Prop) (x1 : Int32) (K83 : gS → Int32 → Prop) (F : gS) (x2 : Int32) : Prop :=
  vp_in x1 6 ∧
  if (F 130 x1.toNatClampNeg) ≤ x2 then
    (Nm (x1 + 1) fun n16 =>
    K49 F n16)
  else
    (vp_in ((6 * x1) + x2) 36 ∧
    wp_X12_mix ((F 131 ((6 * x1) + x2).toNatClampNeg).toInt64) F fun F17 =>
    Nm (x2 + 1) fun n18 =>
    K83 F17 n18)
def wb_X12_digest_59 (K49 : gS → Int32 → Prop) (Q : Int64 → gS → Prop) (x1 : Int32) (K59 : gS → Int32 → Prop) (F : gS) (x2 : Int32) : Prop :=
  if 5 ≤ x2 then
    (LP2 (wb_X12_digest_83 K49 Q x1) F 0)
  else
    (wp_X12_planNow x1 x2 F fun r9 =>
    wp_X12_mix r9.toInt64 F fun F10 =>
    Nm (x2 + 1) fun n11 =>
    K59 F10 n11)
def wb_X12_digest_217 (Q : Int64 → gS → Prop) (K217 : gS → Int32 → Prop) (F : gS) (x1 : Int32) : Prop :=
  if 9 ≤ x1 then
    (Q (gL (F 121 66) (F 121 67)) F)
  else
    (wp_X12_howMany x1 F fun r21 =>
    wp_X12_mix r21.toInt64 F fun F22 =>
    Nm (x1 + 1) fun n23 =>
    K217 F22 n23)
def wb_X12_digest_190 (Q : Int64 → gS → Prop) (K190 : gS → Int32 → Prop) (F : gS) (x1 : Int32) : Prop :=
  if (F 121 19) ≤ x1 then
    (LP2 (wb_X12_digest_217 Q) F 0)
  else
    (vp_in x1 40 ∧
    wp_X12_mix ((F 134 x1.toNatClampNeg).toInt64) F fun F19 =>
    Nm (x1 + 1) fun n20 =>
    K190 F19 n20)
def wb_X12_digest_144 (Q : Int64 → gS → Prop) (K144 : gS → Int32 → Prop) (F : gS) (x1 : Int32) : Prop :=
  if (F 121 8) ≤ x1 then
    (LP2 (wb_X12_digest_190 Q) F 0)
  else
    (if (F 121 2) ≤ 0 then
      (LP2 (wb_X12_digest_190 Q) F 0)
    else
      (wp_X12_layNext x1 F fun F12 =>
      wp_X12_mix ((F12 121 54).toInt64) F12 fun F13 =>
      wp_X12_mix ((F13 121 55).toInt64) F13 fun F14 =>
      Nm (x1 + 1) fun n15 =>
      K144 F14 n15))
def wb_X12_digest_123 (Q : Int64 → gS → Prop) (K123 : gS → Int32 → Prop) (F : gS) (x1 : Int32) : Prop :=
  if (F 121 15) ≤ x1 then
    (LP2 (wb_X12_digest_144 Q) F 0)
  else
    (wp_X12_mixCake x1 F fun F7 =>
    Nm (x1 + 1) fun n8 =>
    K123 F7 n8)
def wb_X12_digest_49 (Q : Int64 → gS → Prop) (K49 : gS → Int32 → Prop) (F : gS) (x1 : Int32) : Prop :=
  if (F 121 8) ≤ x1 then
    (LP2 (wb_X12_digest_123 Q) F 0)
  else
    (LP2 (wb_X12_digest_59 K49 Q x1) F 0)
def wb_X12_digest_9 (Q : Int64 → gS → Prop) (K9 : gS → Int32 → Prop) (F : gS) (x1 : Int32) : Prop :=
  wp_X12_cells F fun r2 =>
  if r2 ≤ x1 then
    (LP2 (wb_X12_digest_49 Q) F 0)
  else
    (LP2 (wb_X12_digest_19 K9 Q x1) F 0)
def wp_X12_digest (F : gS) (Q : Int64 → gS → Prop) : Prop :=
  Nm (upL F 121 66 67 (499 : Int64)) fun F1 =>
  LP2 (wb_X12_digest_9 Q) F1 0
set_option maxRecDepth 20000 in
set_option maxHeartbeats 4000000 in
theorem jb_X12_digest_19 {p : Program} {l : Launch} {e : Env} {s : State} {m : MethodId} {args : Array Value} {below : List Frame} {meth : Method} {c : Code} {E : gE} (hC : CX p s m args meth c cX12_digest RX12 (some .long) E 3) {Q : Int64 → gS → Prop} {F : gS} {x1 : Int32} {x2 : Int32} {K9 : gS → Int32 → Prop} (hK9 : ∀ (F : gS) (x1 : Int32), K9 F x1 → VV p l e rm_X12_digest s m args below meth c 0 0 (MQ below (va_Ql Q (gB E) (gA E)) args s 0 0 (gA E)) E 3 F 9 [(0, .ref (ad E 121)), (1, .int x1)] []) {K19 : gS → Int32 → Prop} (hK19 : ∀ (F : gS) (x2 : Int32), K19 F x2 → VV p l e rm_X12_digest s m args below meth c 0 0 (MQ below (va_Ql Q (gB E) (gA E)) args s 0 0 (gA E)) E 3 F 19 [(0, .ref (ad E 121)), (1, .int x1), (2, .int x2)] []) (h : wb_X12_digest_19 K9 Q x1 K19 F x2) : VV p l e rm_X12_digest s m args below meth c 0 0 (MQ below (va_Ql Q (gB E) (gA E)) args s 0 0 (gA E)) E 3 F 19 [(0, .ref (ad E 121)), (1, .int x1), (2, .int x2)] [] := by
  unfold wb_X12_digest_19 at h
  refine v_iload_n (pc := 19) hC dX12_digest_19 rfl 2 rfl ?_
  refine v_iconst (pc := 20) (v := 4) hC dX12_digest_20 (by decide) ?_
  refine v_ic_ge (pc := 21) (tgt := 41) hC dX12_digest_21 (by decide) h (fun h => ?_) (fun h => ?_)
  · skip
    refine v_iinc (pc := 41) (v := 1) hC (fun z => [(1, .int z), (0, .ref (ad E 121)), (2, .int x2)]) dX12_digest_41 1 rfl (by decide) (by decide) (fun _ => rfl) h (fun n3 h => ?_)
    refine v_goto (pc := 44) (tgt := 9) hC dX12_digest_44 (by decide) ?_
    exact v_sub [1, 0] rfl (hK9 _ _ h)
  · skip
    refine v_aload_n (pc := 24) hC dX12_digest_24 rfl 0 rfl ?_
    refine v_aload_n (pc := 25) hC dX12_digest_25 rfl 0 rfl ?_
    refine v_iload_n (pc := 26) hC dX12_digest_26 rfl 1 rfl ?_
    refine v_iload_n (pc := 27) hC dX12_digest_27 rfl 2 rfl ?_
    refine v_cip (pc := 28) (r_V (rest := [.ref (ad E 121)]) hC ml_X12_209 mv_X12_cellNow (c_X12_cellNow l E h) ⟨rfl, rfl⟩ ⟨Nat.le_of_ble_eq_true rfl, Nat.le_of_ble_eq_true rfl⟩ kq_121 rfl (by decide) rfl rfl (Nat.le_of_ble_eq_true rfl) ⟨Nat.zero_le _, Nat.zero_le _⟩ dX12_digest_28) (fun r4 h => ?_)
    refine v_i2l (pc := 31) hC dX12_digest_31 ?_
    refine v_cv (pc := 32) (r_V (rest := []) hC ml_X12_359 mv_X12_mix (c_X12_mix l E h) ⟨rfl, rfl⟩ ⟨Nat.le_of_ble_eq_true rfl, Nat.le_of_ble_eq_true rfl⟩ kq_121 rfl (by decide) rfl rfl (Nat.le_of_ble_eq_true rfl) ⟨Nat.zero_le _, Nat.zero_le _⟩ dX12_digest_32) (fun F5 h => ?_)
    refine v_iinc (pc := 35) (v := 1) hC (fun z => [(2, .int z), (0, .ref (ad E 121)), (1, .int x1)]) dX12_digest_35 2 rfl (by decide) (by decide) (fun _ => rfl) h (fun n6 h => ?_)
    refine v_goto (pc := 38) (tgt := 19) hC dX12_digest_38 (by decide) ?_
    exact v_sub [1, 2, 0] rfl (hK19 _ _ h)
set_option maxRecDepth 20000 in
set_option maxHeartbeats 4000000 in
theorem jl_X12_digest_19 {p : Program} {l : Launch} {e : Env} {s : State} {m : MethodId} {args : Array Value} {below : List Frame} {meth : Method} {c : Code} {E : gE} (hC : CX p s m args meth c cX12_digest RX12 (some .long) E 3) {Q : Int64 → gS → Prop} {F : gS} {x1 : Int32} {x2 : Int32} {K9 : gS → Int32 → Prop} (hK9 : ∀ (F : gS) (x1 : Int32), K9 F x1 → VV p l e rm_X12_digest s m args below meth c 0 0 (MQ below (va_Ql Q (gB E) (gA E)) args s 0 0 (gA E)) E 3 F 9 [(0, .ref (ad E 121)), (1, .int x1)] []) (h : LP2 (wb_X12_digest_19 K9 Q x1) F x2) : VV p l e rm_X12_digest s m args below meth c 0 0 (MQ below (va_Ql Q (gB E) (gA E)) args s 0 0 (gA E)) E 3 F 19 [(0, .ref (ad E 121)), (1, .int x1), (2, .int x2)] [] :=
  LP2_go (V := fun (F : gS) (x2 : Int32) => VV p l e rm_X12_digest s m args below meth c 0 0 (MQ below (va_Ql Q (gB E) (gA E)) args s 0 0 (gA E)) E 3 F 19 [(0, .ref (ad E 121)), (1, .int x1), (2, .int x2)] []) (fun K19 hK19 F x2 h => jb_X12_digest_19 hC hK9 hK19 h) F x2 h
set_option maxRecDepth 20000 in
set_option maxHeartbeats 4000000 in
theorem jb_X12_digest_83 {p : Program} {l : Launch} {e : Env} {s : State} {m : MethodId} {args : Array Value} {below : List Frame} {meth : Method} {c : Code} {E : gE} (hC : CX p s m args meth c cX12_digest RX12 (some .long) E 3) {Q : Int64 → gS → Prop} {F : gS} {x1 : Int32} {x2 : Int32} {K49 : gS → Int32 → Prop} (hK49 : ∀ (F : gS) (x1 : Int32), K49 F x1 → VV p l e rm_X12_digest s m args below meth c 0 0 (MQ below (va_Ql Q (gB E) (gA E)) args s 0 0 (gA E)) E 3 F 49 [(0, .ref (ad E 121)), (1, .int x1)] []) {K83 : gS → Int32 → Prop} (hK83 : ∀ (F : gS) (x2 : Int32), K83 F x2 → VV p l e rm_X12_digest s m args below meth c 0 0 (MQ below (va_Ql Q (gB E) (gA E)) args s 0 0 (gA E)) E 3 F 83 [(0, .ref (ad E 121)), (1, .int x1), (2, .int x2)] []) (h : wb_X12_digest_83 K49 Q x1 K83 F x2) : VV p l e rm_X12_digest s m args below meth c 0 0 (MQ below (va_Ql Q (gB E) (gA E)) args s 0 0 (gA E)) E 3 F 83 [(0, .ref (ad E 121)), (1, .int x1), (2, .int x2)] [] := by
  unfold wb_X12_digest_83 at h
  refine v_iload_n (pc := 83) hC dX12_digest_83 rfl 2 rfl ?_
  refine v_aload_n (pc := 84) hC dX12_digest_84 rfl 0 rfl ?_
  refine v_get (pc := 85) (v := .ref (ad E 130)) hC fl_X12_35 kq_121 rfl dX12_digest_85 ?_
  refine v_iload_n (pc := 88) hC dX12_digest_88 rfl 1 rfl ?_
  refine v_iald (pc := 89) (n := 6) hC kq_130 (by decide) dX12_digest_89 h (fun h => ?_)
  refine v_ic_ge (pc := 90) (tgt := 115) hC dX12_digest_90 (by decide) h (fun h => ?_) (fun h => ?_)
  · skip
    refine v_iinc (pc := 115) (v := 1) hC (fun z => [(1, .int z), (0, .ref (ad E 121)), (2, .int x2)]) dX12_digest_115 1 rfl (by decide) (by decide) (fun _ => rfl) h (fun n16 h => ?_)
    refine v_goto (pc := 118) (tgt := 49) hC dX12_digest_118 (by decide) ?_
    exact v_sub [1, 0] rfl (hK49 _ _ h)
  · skip
    refine v_aload_n (pc := 93) hC dX12_digest_93 rfl 0 rfl ?_
    refine v_aload_n (pc := 94) hC dX12_digest_94 rfl 0 rfl ?_
    refine v_get (pc := 95) (v := .ref (ad E 131)) hC fl_X12_38 kq_121 rfl dX12_digest_95 ?_
    refine v_bipush (pc := 98) (v := 6) hC dX12_digest_98 (by decide) ?_
    refine v_iload_n (pc := 100) hC dX12_digest_100 rfl 1 rfl ?_
    refine v_imul (pc := 101) hC dX12_digest_101 ?_
    refine v_iload_n (pc := 102) hC dX12_digest_102 rfl 2 rfl ?_
    refine v_iadd (pc := 103) hC dX12_digest_103 ?_
    refine v_iald (pc := 104) (n := 36) hC kq_131 (by decide) dX12_digest_104 h (fun h => ?_)
    refine v_i2l (pc := 105) hC dX12_digest_105 ?_
    refine v_cv (pc := 106) (r_V (rest := []) hC ml_X12_359 mv_X12_mix (c_X12_mix l E h) ⟨rfl, rfl⟩ ⟨Nat.le_of_ble_eq_true rfl, Nat.le_of_ble_eq_true rfl⟩ kq_121 rfl (by decide) rfl rfl (Nat.le_of_ble_eq_true rfl) ⟨Nat.zero_le _, Nat.zero_le _⟩ dX12_digest_106) (fun F17 h => ?_)
    refine v_iinc (pc := 109) (v := 1) hC (fun z => [(2, .int z), (0, .ref (ad E 121)), (1, .int x1)]) dX12_digest_109 2 rfl (by decide) (by decide) (fun _ => rfl) h (fun n18 h => ?_)
    refine v_goto (pc := 112) (tgt := 83) hC dX12_digest_112 (by decide) ?_
    exact v_sub [1, 2, 0] rfl (hK83 _ _ h)
set_option maxRecDepth 20000 in
set_option maxHeartbeats 4000000 in
theorem jl_X12_digest_83 {p : Program} {l : Launch} {e : Env} {s : State} {m : MethodId} {args : Array Value} {below : List Frame} {meth : Method} {c : Code} {E : gE} (hC : CX p s m args meth c cX12_digest RX12 (some .long) E 3) {Q : Int64 → gS → Prop} {F : gS} {x1 : Int32} {x2 : Int32} {K49 : gS → Int32 → Prop} (hK49 : ∀ (F : gS) (x1 : Int32), K49 F x1 → VV p l e rm_X12_digest s m args below meth c 0 0 (MQ below (va_Ql Q (gB E) (gA E)) args s 0 0 (gA E)) E 3 F 49 [(0, .ref (ad E 121)), (1, .int x1)] []) (h : LP2 (wb_X12_digest_83 K49 Q x1) F x2) : VV p l e rm_X12_digest s m args below meth c 0 0 (MQ below (va_Ql Q (gB E) (gA E)) args s 0 0 (gA E)) E 3 F 83 [(0, .ref (ad E 121)), (1, .int x1), (2, .int x2)] [] :=
  LP2_go (V := fun (F : gS) (x2 : Int32) => VV p l e rm_X12_digest s m args below meth c 0 0 (MQ below (va_Ql Q (gB E) (gA E)) args s 0 0 (gA E)) E 3 F 83 [(0, .ref (ad E 121)), (1, .int x1), (2, .int x2)] []) (fun K83 hK83 F x2 h => jb_X12_digest_83 hC hK49 hK83 h) F x2 h
set_option maxRecDepth 20000 in
set_option maxHeartbeats 4000000 in
theorem jb_X12_digest_59 {p : Program} {l : Launch} {e : Env} {s : State} {m : MethodId} {args : Array Value} {below : List Frame} {meth : Method} {c : Code} {E : gE} (hC : CX p s m args meth c cX12_digest RX12 (some .long) E 3) {Q : Int64 → gS → Prop} {F : gS} {x1 : Int32} {x2 : Int32} {K49 : gS → Int32 → Prop} (hK49 : ∀ (F : gS) (x1 : Int32), K49 F x1 → VV p l e rm_X12_digest s m args below meth c 0 0 (MQ below (va_Ql Q (gB E) (gA E)) args s 0 0 (gA E)) E 3 F 49 [(0, .ref (ad E 121)), (1, .int x1)] []) {K59 : gS → Int32 → Prop} (hK59 : ∀ (F : gS) (x2 : Int32), K59 F x2 → VV p l e rm_X12_digest s m args below meth c 0 0 (MQ below (va_Ql Q (gB E) (gA E)) args s 0 0 (gA E)) E 3 F 59 [(0, .ref (ad E 121)), (1, .int x1), (2, .int x2)] []) (h : wb_X12_digest_59 K49 Q x1 K59 F x2) : VV p l e rm_X12_digest s m args below meth c 0 0 (MQ below (va_Ql Q (gB E) (gA E)) args s 0 0 (gA E)) E 3 F 59 [(0, .ref (ad E 121)), (1, .int x1), (2, .int x2)] [] := by
  unfold wb_X12_digest_59 at h
  refine v_iload_n (pc := 59) hC dX12_digest_59 rfl 2 rfl ?_
  refine v_iconst (pc := 60) (v := 5) hC dX12_digest_60 (by decide) ?_
  refine v_ic_ge (pc := 61) (tgt := 81) hC dX12_digest_61 (by decide) h (fun h => ?_) (fun h => ?_)
  · skip
    refine v_iconst (pc := 81) (v := 0) hC dX12_digest_81 (by decide) ?_
    refine v_istore_n (pc := 82) (lv' := [(2, .int 0), (0, .ref (ad E 121)), (1, .int x1)]) hC dX12_digest_82 rfl (by decide) rfl ?_
    exact v_sub [1, 2, 0] rfl (jl_X12_digest_83 hC hK49 h)
  · skip
    refine v_aload_n (pc := 64) hC dX12_digest_64 rfl 0 rfl ?_
    refine v_aload_n (pc := 65) hC dX12_digest_65 rfl 0 rfl ?_
    refine v_iload_n (pc := 66) hC dX12_digest_66 rfl 1 rfl ?_
    refine v_iload_n (pc := 67) hC dX12_digest_67 rfl 2 rfl ?_
    refine v_cip (pc := 68) (r_V (rest := [.ref (ad E 121)]) hC ml_X12_199 mv_X12_planNow (c_X12_planNow l E h) ⟨rfl, rfl⟩ ⟨Nat.le_of_ble_eq_true rfl, Nat.le_of_ble_eq_true rfl⟩ kq_121 rfl (by decide) rfl rfl (Nat.le_of_ble_eq_true rfl) ⟨Nat.zero_le _, Nat.zero_le _⟩ dX12_digest_68) (fun r9 h => ?_)
    refine v_i2l (pc := 71) hC dX12_digest_71 ?_
    refine v_cv (pc := 72) (r_V (rest := []) hC ml_X12_359 mv_X12_mix (c_X12_mix l E h) ⟨rfl, rfl⟩ ⟨Nat.le_of_ble_eq_true rfl, Nat.le_of_ble_eq_true rfl⟩ kq_121 rfl (by decide) rfl rfl (Nat.le_of_ble_eq_true rfl) ⟨Nat.zero_le _, Nat.zero_le _⟩ dX12_digest_72) (fun F10 h => ?_)
    refine v_iinc (pc := 75) (v := 1) hC (fun z => [(2, .int z), (0, .ref (ad E 121)), (1, .int x1)]) dX12_digest_75 2 rfl (by decide) (by decide) (fun _ => rfl) h (fun n11 h => ?_)
    refine v_goto (pc := 78) (tgt := 59) hC dX12_digest_78 (by decide) ?_
    exact v_sub [1, 2, 0] rfl (hK59 _ _ h)
set_option maxRecDepth 20000 in
set_option maxHeartbeats 4000000 in
theorem jl_X12_digest_59 {p : Program} {l : Launch} {e : Env} {s : State} {m : MethodId} {args : Array Value} {below : List Frame} {meth : Method} {c : Code} {E : gE} (hC : CX p s m args meth c cX12_digest RX12 (some .long) E 3) {Q : Int64 → gS → Prop} {F : gS} {x1 : Int32} {x2 : Int32} {K49 : gS → Int32 → Prop} (hK49 : ∀ (F : gS) (x1 : Int32), K49 F x1 → VV p l e rm_X12_digest s m args below meth c 0 0 (MQ below (va_Ql Q (gB E) (gA E)) args s 0 0 (gA E)) E 3 F 49 [(0, .ref (ad E 121)), (1, .int x1)] []) (h : LP2 (wb_X12_digest_59 K49 Q x1) F x2) : VV p l e rm_X12_digest s m args below meth c 0 0 (MQ below (va_Ql Q (gB E) (gA E)) args s 0 0 (gA E)) E 3 F 59 [(0, .ref (ad E 121)), (1, .int x1), (2, .int x2)] [] :=
  LP2_go (V := fun (F : gS) (x2 : Int32) => VV p l e rm_X12_digest s m args below meth c 0 0 (MQ below (va_Ql Q (gB E) (gA E)) args s 0 0 (gA E)) E 3 F 59 [(0, .ref (ad E 121)), (1, .int x1), (2, .int x2)] []) (fun K59 hK59 F x2 h => jb_X12_digest_59 hC hK49 hK59 h) F x2 h
set_option maxRecDepth 20000 in
set_option maxHeartbeats 4000000 in
theorem jb_X12_digest_217 {p : Program} {l : Launch} {e : Env} {s : State} {m : MethodId} {args : Array Value} {below : List Frame} {meth : Method} {c : Code} {E : gE} (hC : CX p s m args meth c cX12_digest RX12 (some .long) E 3) {Q : Int64 → gS → Prop} {F : gS} {x1 : Int32} {K217 : gS → Int32 → Prop} (hK217 : ∀ (F : gS) (x1 : Int32), K217 F x1 → VV p l e rm_X12_digest s m args below meth c 0 0 (MQ below (va_Ql Q (gB E) (gA E)) args s 0 0 (gA E)) E 3 F 217 [(0, .ref (ad E 121)), (1, .int x1)] []) (h : wb_X12_digest_217 Q K217 F x1) : VV p l e rm_X12_digest s m args below meth c 0 0 (MQ below (va_Ql Q (gB E) (gA E)) args s 0 0 (gA E)) E 3 F 217 [(0, .ref (ad E 121)), (1, .int x1)] [] := by
  unfold wb_X12_digest_217 at h
  refine v_iload_n (pc := 217) hC dX12_digest_217 rfl 1 rfl ?_
  refine v_bipush (pc := 218) (v := 9) hC dX12_digest_218 (by decide) ?_
  refine v_ic_ge (pc := 220) (tgt := 239) hC dX12_digest_220 (by decide) h (fun h => ?_) (fun h => ?_)
  · skip
    refine v_aload_n (pc := 239) hC dX12_digest_239 rfl 0 rfl ?_
    refine v_get (pc := 240) (v := .long (gL (F 121 66) (F 121 67))) hC fl_X12_355 kq_121 rfl dX12_digest_240 ?_
    exact v_lret (pc := 243) hC dX12_digest_243 h
  · skip
    refine v_aload_n (pc := 223) hC dX12_digest_223 rfl 0 rfl ?_
    refine v_aload_n (pc := 224) hC dX12_digest_224 rfl 0 rfl ?_
    refine v_iload_n (pc := 225) hC dX12_digest_225 rfl 1 rfl ?_
    refine v_cip (pc := 226) (r_V (rest := [.ref (ad E 121)]) hC ml_X12_350 mv_X12_howMany (c_X12_howMany l E h) ⟨rfl, rfl⟩ ⟨Nat.le_of_ble_eq_true rfl, Nat.le_of_ble_eq_true rfl⟩ kq_121 rfl (by decide) rfl rfl (Nat.le_of_ble_eq_true rfl) ⟨Nat.zero_le _, Nat.zero_le _⟩ dX12_digest_226) (fun r21 h => ?_)
    refine v_i2l (pc := 229) hC dX12_digest_229 ?_
    refine v_cv (pc := 230) (r_V (rest := []) hC ml_X12_359 mv_X12_mix (c_X12_mix l E h) ⟨rfl, rfl⟩ ⟨Nat.le_of_ble_eq_true rfl, Nat.le_of_ble_eq_true rfl⟩ kq_121 rfl (by decide) rfl rfl (Nat.le_of_ble_eq_true rfl) ⟨Nat.zero_le _, Nat.zero_le _⟩ dX12_digest_230) (fun F22 h => ?_)
    refine v_iinc (pc := 233) (v := 1) hC (fun z => [(1, .int z), (0, .ref (ad E 121))]) dX12_digest_233 1 rfl (by decide) (by decide) (fun _ => rfl) h (fun n23 h => ?_)
    refine v_goto (pc := 236) (tgt := 217) hC dX12_digest_236 (by decide) ?_
    exact v_sub [1, 0] rfl (hK217 _ _ h)
set_option maxRecDepth 20000 in
set_option maxHeartbeats 4000000 in
theorem jl_X12_digest_217 {p : Program} {l : Launch} {e : Env} {s : State} {m : MethodId} {args : Array Value} {below : List Frame} {meth : Method} {c : Code} {E : gE} (hC : CX p s m args meth c cX12_digest RX12 (some .long) E 3) {Q : Int64 → gS → Prop} {F : gS} {x1 : Int32} (h : LP2 (wb_X12_digest_217 Q) F x1) : VV p l e rm_X12_digest s m args below meth c 0 0 (MQ below (va_Ql Q (gB E) (gA E)) args s 0 0 (gA E)) E 3 F 217 [(0, .ref (ad E 121)), (1, .int x1)] [] :=
  LP2_go (V := fun (F : gS) (x1 : Int32) => VV p l e rm_X12_digest s m args below meth c 0 0 (MQ below (va_Ql Q (gB E) (gA E)) args s 0 0 (gA E)) E 3 F 217 [(0, .ref (ad E 121)), (1, .int x1)] []) (fun K217 hK217 F x1 h => jb_X12_digest_217 hC hK217 h) F x1 h
set_option maxRecDepth 20000 in
set_option maxHeartbeats 4000000 in
theorem jb_X12_digest_190 {p : Program} {l : Launch} {e : Env} {s : State} {m : MethodId} {args : Array Value} {below : List Frame} {meth : Method} {c : Code} {E : gE} (hC : CX p s m args meth c cX12_digest RX12 (some .long) E 3) {Q : Int64 → gS → Prop} {F : gS} {x1 : Int32} {K190 : gS → Int32 → Prop} (hK190 : ∀ (F : gS) (x1 : Int32), K190 F x1 → VV p l e rm_X12_digest s m args below meth c 0 0 (MQ below (va_Ql Q (gB E) (gA E)) args s 0 0 (gA E)) E 3 F 190 [(0, .ref (ad E 121)), (1, .int x1)] []) (h : wb_X12_digest_190 Q K190 F x1) : VV p l e rm_X12_digest s m args below meth c 0 0 (MQ below (va_Ql Q (gB E) (gA E)) args s 0 0 (gA E)) E 3 F 190 [(0, .ref (ad E 121)), (1, .int x1)] [] := by
  unfold wb_X12_digest_190 at h
  refine v_iload_n (pc := 190) hC dX12_digest_190 rfl 1 rfl ?_
  refine v_aload_n (pc := 191) hC dX12_digest_191 rfl 0 rfl ?_
  refine v_get (pc := 192) (v := .int (F 121 19)) hC fl_X12_98 kq_121 rfl dX12_digest_192 ?_
  refine v_ic_ge (pc := 195) (tgt := 215) hC dX12_digest_195 (by decide) h (fun h => ?_) (fun h => ?_)
  · skip
    refine v_iconst (pc := 215) (v := 0) hC dX12_digest_215 (by decide) ?_
    refine v_istore_n (pc := 216) (lv' := [(1, .int 0), (0, .ref (ad E 121))]) hC dX12_digest_216 rfl (by decide) rfl ?_
    exact v_sub [1, 0] rfl (jl_X12_digest_217 hC h)
  · skip
    refine v_aload_n (pc := 198) hC dX12_digest_198 rfl 0 rfl ?_
    refine v_aload_n (pc := 199) hC dX12_digest_199 rfl 0 rfl ?_
    refine v_get (pc := 200) (v := .ref (ad E 134)) hC fl_X12_47 kq_121 rfl dX12_digest_200 ?_
    refine v_iload_n (pc := 203) hC dX12_digest_203 rfl 1 rfl ?_
    refine v_bald (pc := 204) (n := 40) hC kq_134 (by decide) dX12_digest_204 h (fun h => ?_)
    refine v_i2l (pc := 205) hC dX12_digest_205 ?_
    refine v_cv (pc := 206) (r_V (rest := []) hC ml_X12_359 mv_X12_mix (c_X12_mix l E h) ⟨rfl, rfl⟩ ⟨Nat.le_of_ble_eq_true rfl, Nat.le_of_ble_eq_true rfl⟩ kq_121 rfl (by decide) rfl rfl (Nat.le_of_ble_eq_true rfl) ⟨Nat.zero_le _, Nat.zero_le _⟩ dX12_digest_206) (fun F19 h => ?_)
    refine v_iinc (pc := 209) (v := 1) hC (fun z => [(1, .int z), (0, .ref (ad E 121))]) dX12_digest_209 1 rfl (by decide) (by decide) (fun _ => rfl) h (fun n20 h => ?_)
    refine v_goto (pc := 212) (tgt := 190) hC dX12_digest_212 (by decide) ?_
    exact v_sub [1, 0] rfl (hK190 _ _ h)
set_option maxRecDepth 20000 in
set_option maxHeartbeats 4000000 in
theorem jl_X12_digest_190 {p : Program} {l : Launch} {e : Env} {s : State} {m : MethodId} {args : Array Value} {below : List Frame} {meth : Method} {c : Code} {E : gE} (hC : CX p s m args meth c cX12_digest RX12 (some .long) E 3) {Q : Int64 → gS → Prop} {F : gS} {x1 : Int32} (h : LP2 (wb_X12_digest_190 Q) F x1) : VV p l e rm_X12_digest s m args below meth c 0 0 (MQ below (va_Ql Q (gB E) (gA E)) args s 0 0 (gA E)) E 3 F 190 [(0, .ref (ad E 121)), (1, .int x1)] [] :=
  LP2_go (V := fun (F : gS) (x1 : Int32) => VV p l e rm_X12_digest s m args below meth c 0 0 (MQ below (va_Ql Q (gB E) (gA E)) args s 0 0 (gA E)) E 3 F 190 [(0, .ref (ad E 121)), (1, .int x1)] []) (fun K190 hK190 F x1 h => jb_X12_digest_190 hC hK190 h) F x1 h
set_option maxRecDepth 20000 in
set_option maxHeartbeats 4000000 in
theorem jb_X12_digest_144 {p : Program} {l : Launch} {e : Env} {s : State} {m : MethodId} {args : Array Value} {below : List Frame} {meth : Method} {c : Code} {E : gE} (hC : CX p s m args meth c cX12_digest RX12 (some .long) E 3) {Q : Int64 → gS → Prop} {F : gS} {x1 : Int32} {K144 : gS → Int32 → Prop} (hK144 : ∀ (F : gS) (x1 : Int32), K144 F x1 → VV p l e rm_X12_digest s m args below meth c 0 0 (MQ below (va_Ql Q (gB E) (gA E)) args s 0 0 (gA E)) E 3 F 144 [(0, .ref (ad E 121)), (1, .int x1)] []) (h : wb_X12_digest_144 Q K144 F x1) : VV p l e rm_X12_digest s m args below meth c 0 0 (MQ below (va_Ql Q (gB E) (gA E)) args s 0 0 (gA E)) E 3 F 144 [(0, .ref (ad E 121)), (1, .int x1)] [] := by
  unfold wb_X12_digest_144 at h
  refine v_iload_n (pc := 144) hC dX12_digest_144 rfl 1 rfl ?_
  refine v_aload_n (pc := 145) hC dX12_digest_145 rfl 0 rfl ?_
  refine v_get (pc := 146) (v := .int (F 121 8)) hC fl_X12_193 kq_121 rfl dX12_digest_146 ?_
  refine v_ic_ge (pc := 149) (tgt := 188) hC dX12_digest_149 (by decide) h (fun h => ?_) (fun h => ?_)
  · skip
    refine v_iconst (pc := 188) (v := 0) hC dX12_digest_188 (by decide) ?_
    refine v_istore_n (pc := 189) (lv' := [(1, .int 0), (0, .ref (ad E 121))]) hC dX12_digest_189 rfl (by decide) rfl ?_
    exact v_sub [1, 0] rfl (jl_X12_digest_190 hC h)
  · skip
    refine v_aload_n (pc := 152) hC dX12_digest_152 rfl 0 rfl ?_
    refine v_get (pc := 153) (v := .int (F 121 2)) hC fl_X12_190 kq_121 rfl dX12_digest_153 ?_
    refine v_if_le (pc := 156) (tgt := 188) hC dX12_digest_156 (by decide) h (fun h => ?_) (fun h => ?_)
    · skip
      refine v_iconst (pc := 188) (v := 0) hC dX12_digest_188 (by decide) ?_
      refine v_istore_n (pc := 189) (lv' := [(1, .int 0), (0, .ref (ad E 121))]) hC dX12_digest_189 rfl (by decide) rfl ?_
      exact v_sub [1, 0] rfl (jl_X12_digest_190 hC h)
    · skip
      refine v_aload_n (pc := 159) hC dX12_digest_159 rfl 0 rfl ?_
      refine v_iload_n (pc := 160) hC dX12_digest_160 rfl 1 rfl ?_
      refine v_cv (pc := 161) (r_V (rest := []) hC ml_X12_298 mv_X12_layNext (c_X12_layNext l E h) ⟨rfl, rfl⟩ ⟨Nat.le_of_ble_eq_true rfl, Nat.le_of_ble_eq_true rfl⟩ kq_121 rfl (by decide) rfl rfl (Nat.le_of_ble_eq_true rfl) ⟨Nat.zero_le _, Nat.zero_le _⟩ dX12_digest_161) (fun F12 h => ?_)
      refine v_aload_n (pc := 164) hC dX12_digest_164 rfl 0 rfl ?_
      refine v_aload_n (pc := 165) hC dX12_digest_165 rfl 0 rfl ?_
      refine v_get (pc := 166) (v := .int (F12 121 54)) hC fl_X12_255 kq_121 rfl dX12_digest_166 ?_
      refine v_i2l (pc := 169) hC dX12_digest_169 ?_
      refine v_cv (pc := 170) (r_V (rest := []) hC ml_X12_359 mv_X12_mix (c_X12_mix l E h) ⟨rfl, rfl⟩ ⟨Nat.le_of_ble_eq_true rfl, Nat.le_of_ble_eq_true rfl⟩ kq_121 rfl (by decide) rfl rfl (Nat.le_of_ble_eq_true rfl) ⟨Nat.zero_le _, Nat.zero_le _⟩ dX12_digest_170) (fun F13 h => ?_)
      refine v_aload_n (pc := 173) hC dX12_digest_173 rfl 0 rfl ?_
      refine v_aload_n (pc := 174) hC dX12_digest_174 rfl 0 rfl ?_
      refine v_get (pc := 175) (v := .int (F13 121 55)) hC fl_X12_246 kq_121 rfl dX12_digest_175 ?_
      refine v_i2l (pc := 178) hC dX12_digest_178 ?_
      refine v_cv (pc := 179) (r_V (rest := []) hC ml_X12_359 mv_X12_mix (c_X12_mix l E h) ⟨rfl, rfl⟩ ⟨Nat.le_of_ble_eq_true rfl, Nat.le_of_ble_eq_true rfl⟩ kq_121 rfl (by decide) rfl rfl (Nat.le_of_ble_eq_true rfl) ⟨Nat.zero_le _, Nat.zero_le _⟩ dX12_digest_179) (fun F14 h => ?_)
      refine v_iinc (pc := 182) (v := 1) hC (fun z => [(1, .int z), (0, .ref (ad E 121))]) dX12_digest_182 1 rfl (by decide) (by decide) (fun _ => rfl) h (fun n15 h => ?_)
      refine v_goto (pc := 185) (tgt := 144) hC dX12_digest_185 (by decide) ?_
      exact v_sub [1, 0] rfl (hK144 _ _ h)
set_option maxRecDepth 20000 in
set_option maxHeartbeats 4000000 in
theorem jl_X12_digest_144 {p : Program} {l : Launch} {e : Env} {s : State} {m : MethodId} {args : Array Value} {below : List Frame} {meth : Method} {c : Code} {E : gE} (hC : CX p s m args meth c cX12_digest RX12 (some .long) E 3) {Q : Int64 → gS → Prop} {F : gS} {x1 : Int32} (h : LP2 (wb_X12_digest_144 Q) F x1) : VV p l e rm_X12_digest s m args below meth c 0 0 (MQ below (va_Ql Q (gB E) (gA E)) args s 0 0 (gA E)) E 3 F 144 [(0, .ref (ad E 121)), (1, .int x1)] [] :=
  LP2_go (V := fun (F : gS) (x1 : Int32) => VV p l e rm_X12_digest s m args below meth c 0 0 (MQ below (va_Ql Q (gB E) (gA E)) args s 0 0 (gA E)) E 3 F 144 [(0, .ref (ad E 121)), (1, .int x1)] []) (fun K144 hK144 F x1 h => jb_X12_digest_144 hC hK144 h) F x1 h
set_option maxRecDepth 20000 in
set_option maxHeartbeats 4000000 in
theorem jb_X12_digest_123 {p : Program} {l : Launch} {e : Env} {s : State} {m : MethodId} {args : Array Value} {below : List Frame} {meth : Method} {c : Code} {E : gE} (hC : CX p s m args meth c cX12_digest RX12 (some .long) E 3) {Q : Int64 → gS → Prop} {F : gS} {x1 : Int32} {K123 : gS → Int32 → Prop} (hK123 : ∀ (F : gS) (x1 : Int32), K123 F x1 → VV p l e rm_X12_digest s m args below meth c 0 0 (MQ below (va_Ql Q (gB E) (gA E)) args s 0 0 (gA E)) E 3 F 123 [(0, .ref (ad E 121)), (1, .int x1)] []) (h : wb_X12_digest_123 Q K123 F x1) : VV p l e rm_X12_digest s m args below meth c 0 0 (MQ below (va_Ql Q (gB E) (gA E)) args s 0 0 (gA E)) E 3 F 123 [(0, .ref (ad E 121)), (1, .int x1)] [] := by
  unfold wb_X12_digest_123 at h
  refine v_iload_n (pc := 123) hC dX12_digest_123 rfl 1 rfl ?_
  refine v_aload_n (pc := 124) hC dX12_digest_124 rfl 0 rfl ?_
  refine v_get (pc := 125) (v := .int (F 121 15)) hC fl_X12_187 kq_121 rfl dX12_digest_125 ?_
  refine v_ic_ge (pc := 128) (tgt := 142) hC dX12_digest_128 (by decide) h (fun h => ?_) (fun h => ?_)
  · skip
    refine v_iconst (pc := 142) (v := 0) hC dX12_digest_142 (by decide) ?_
    refine v_istore_n (pc := 143) (lv' := [(1, .int 0), (0, .ref (ad E 121))]) hC dX12_digest_143 rfl (by decide) rfl ?_
    exact v_sub [1, 0] rfl (jl_X12_digest_144 hC h)
  · skip
    refine v_aload_n (pc := 131) hC dX12_digest_131 rfl 0 rfl ?_
    refine v_iload_n (pc := 132) hC dX12_digest_132 rfl 1 rfl ?_
    refine v_cv (pc := 133) (r_V (rest := []) hC ml_X12_365 mv_X12_mixCake (c_X12_mixCake l E h) ⟨rfl, rfl⟩ ⟨Nat.le_of_ble_eq_true rfl, Nat.le_of_ble_eq_true rfl⟩ kq_121 rfl (by decide) rfl rfl (Nat.le_of_ble_eq_true rfl) ⟨Nat.zero_le _, Nat.zero_le _⟩ dX12_digest_133) (fun F7 h => ?_)
    refine v_iinc (pc := 136) (v := 1) hC (fun z => [(1, .int z), (0, .ref (ad E 121))]) dX12_digest_136 1 rfl (by decide) (by decide) (fun _ => rfl) h (fun n8 h => ?_)
    refine v_goto (pc := 139) (tgt := 123) hC dX12_digest_139 (by decide) ?_
    exact v_sub [1, 0] rfl (hK123 _ _ h)
set_option maxRecDepth 20000 in
set_option maxHeartbeats 4000000 in
theorem jl_X12_digest_123 {p : Program} {l : Launch} {e : Env} {s : State} {m : MethodId} {args : Array Value} {below : List Frame} {meth : Method} {c : Code} {E : gE} (hC : CX p s m args meth c cX12_digest RX12 (some .long) E 3) {Q : Int64 → gS → Prop} {F : gS} {x1 : Int32} (h : LP2 (wb_X12_digest_123 Q) F x1) : VV p l e rm_X12_digest s m args below meth c 0 0 (MQ below (va_Ql Q (gB E) (gA E)) args s 0 0 (gA E)) E 3 F 123 [(0, .ref (ad E 121)), (1, .int x1)] [] :=
  LP2_go (V := fun (F : gS) (x1 : Int32) => VV p l e rm_X12_digest s m args below meth c 0 0 (MQ below (va_Ql Q (gB E) (gA E)) args s 0 0 (gA E)) E 3 F 123 [(0, .ref (ad E 121)), (1, .int x1)] []) (fun K123 hK123 F x1 h => jb_X12_digest_123 hC hK123 h) F x1 h
set_option maxRecDepth 20000 in
set_option maxHeartbeats 4000000 in
theorem jb_X12_digest_49 {p : Program} {l : Launch} {e : Env} {s : State} {m : MethodId} {args : Array Value} {below : List Frame} {meth : Method} {c : Code} {E : gE} (hC : CX p s m args meth c cX12_digest RX12 (some .long) E 3) {Q : Int64 → gS → Prop} {F : gS} {x1 : Int32} {K49 : gS → Int32 → Prop} (hK49 : ∀ (F : gS) (x1 : Int32), K49 F x1 → VV p l e rm_X12_digest s m args below meth c 0 0 (MQ below (va_Ql Q (gB E) (gA E)) args s 0 0 (gA E)) E 3 F 49 [(0, .ref (ad E 121)), (1, .int x1)] []) (h : wb_X12_digest_49 Q K49 F x1) : VV p l e rm_X12_digest s m args below meth c 0 0 (MQ below (va_Ql Q (gB E) (gA E)) args s 0 0 (gA E)) E 3 F 49 [(0, .ref (ad E 121)), (1, .int x1)] [] := by
  unfold wb_X12_digest_49 at h
  refine v_iload_n (pc := 49) hC dX12_digest_49 rfl 1 rfl ?_
  refine v_aload_n (pc := 50) hC dX12_digest_50 rfl 0 rfl ?_
  refine v_get (pc := 51) (v := .int (F 121 8)) hC fl_X12_193 kq_121 rfl dX12_digest_51 ?_
  refine v_ic_ge (pc := 54) (tgt := 121) hC dX12_digest_54 (by decide) h (fun h => ?_) (fun h => ?_)
  · skip
    refine v_iconst (pc := 121) (v := 0) hC dX12_digest_121 (by decide) ?_
    refine v_istore_n (pc := 122) (lv' := [(1, .int 0), (0, .ref (ad E 121))]) hC dX12_digest_122 rfl (by decide) rfl ?_
    exact v_sub [1, 0] rfl (jl_X12_digest_123 hC h)
  · skip
    refine v_iconst (pc := 57) (v := 0) hC dX12_digest_57 (by decide) ?_
    refine v_istore_n (pc := 58) (lv' := [(2, .int 0), (0, .ref (ad E 121)), (1, .int x1)]) hC dX12_digest_58 rfl (by decide) rfl ?_
    exact v_sub [1, 2, 0] rfl (jl_X12_digest_59 hC hK49 h)
set_option maxRecDepth 20000 in
set_option maxHeartbeats 4000000 in
theorem jl_X12_digest_49 {p : Program} {l : Launch} {e : Env} {s : State} {m : MethodId} {args : Array Value} {below : List Frame} {meth : Method} {c : Code} {E : gE} (hC : CX p s m args meth c cX12_digest RX12 (some .long) E 3) {Q : Int64 → gS → Prop} {F : gS} {x1 : Int32} (h : LP2 (wb_X12_digest_49 Q) F x1) : VV p l e rm_X12_digest s m args below meth c 0 0 (MQ below (va_Ql Q (gB E) (gA E)) args s 0 0 (gA E)) E 3 F 49 [(0, .ref (ad E 121)), (1, .int x1)] [] :=
  LP2_go (V := fun (F : gS) (x1 : Int32) => VV p l e rm_X12_digest s m args below meth c 0 0 (MQ below (va_Ql Q (gB E) (gA E)) args s 0 0 (gA E)) E 3 F 49 [(0, .ref (ad E 121)), (1, .int x1)] []) (fun K49 hK49 F x1 h => jb_X12_digest_49 hC hK49 h) F x1 h
set_option maxRecDepth 20000 in
set_option maxHeartbeats 4000000 in
theorem jb_X12_digest_9 {p : Program} {l : Launch} {e : Env} {s : State} {m : MethodId} {args : Array Value} {below : List Frame} {meth : Method} {c : Code} {E : gE} (hC : CX p s m args meth c cX12_digest RX12 (some .long) E 3) {Q : Int64 → gS → Prop} {F : gS} {x1 : Int32} {K9 : gS → Int32 → Prop} (hK9 : ∀ (F : gS) (x1 : Int32), K9 F x1 → VV p l e rm_X12_digest s m args below meth c 0 0 (MQ below (va_Ql Q (gB E) (gA E)) args s 0 0 (gA E)) E 3 F 9 [(0, .ref (ad E 121)), (1, .int x1)] []) (h : wb_X12_digest_9 Q K9 F x1) : VV p l e rm_X12_digest s m args below meth c 0 0 (MQ below (va_Ql Q (gB E) (gA E)) args s 0 0 (gA E)) E 3 F 9 [(0, .ref (ad E 121)), (1, .int x1)] [] := by
  unfold wb_X12_digest_9 at h
  refine v_iload_n (pc := 9) hC dX12_digest_9 rfl 1 rfl ?_
  refine v_aload_n (pc := 10) hC dX12_digest_10 rfl 0 rfl ?_
  refine v_cip (pc := 11) (r_V (rest := [.int x1]) hC ml_X12_202 mv_X12_cells (c_X12_cells l E h) ⟨rfl, rfl⟩ ⟨Nat.le_of_ble_eq_true rfl, Nat.le_of_ble_eq_true rfl⟩ kq_121 rfl (by decide) rfl rfl (Nat.le_of_ble_eq_true rfl) ⟨Nat.zero_le _, Nat.zero_le _⟩ dX12_digest_11) (fun r2 h => ?_)
  refine v_ic_ge (pc := 14) (tgt := 47) hC dX12_digest_14 (by decide) h (fun h => ?_) (fun h => ?_)
  · skip
    refine v_iconst (pc := 47) (v := 0) hC dX12_digest_47 (by decide) ?_
    refine v_istore_n (pc := 48) (lv' := [(1, .int 0), (0, .ref (ad E 121))]) hC dX12_digest_48 rfl (by decide) rfl ?_
    exact v_sub [1, 0] rfl (jl_X12_digest_49 hC h)
  · skip
    refine v_iconst (pc := 17) (v := 0) hC dX12_digest_17 (by decide) ?_
    refine v_istore_n (pc := 18) (lv' := [(2, .int 0), (0, .ref (ad E 121)), (1, .int x1)]) hC dX12_digest_18 rfl (by decide) rfl ?_
    exact v_sub [1, 2, 0] rfl (jl_X12_digest_19 hC hK9 h)
set_option maxRecDepth 20000 in
set_option maxHeartbeats 4000000 in
theorem jl_X12_digest_9 {p : Program} {l : Launch} {e : Env} {s : State} {m : MethodId} {args : Array Value} {below : List Frame} {meth : Method} {c : Code} {E : gE} (hC : CX p s m args meth c cX12_digest RX12 (some .long) E 3) {Q : Int64 → gS → Prop} {F : gS} {x1 : Int32} (h : LP2 (wb_X12_digest_9 Q) F x1) : VV p l e rm_X12_digest s m args below meth c 0 0 (MQ below (va_Ql Q (gB E) (gA E)) args s 0 0 (gA E)) E 3 F 9 [(0, .ref (ad E 121)), (1, .int x1)] [] :=
  LP2_go (V := fun (F : gS) (x1 : Int32) => VV p l e rm_X12_digest s m args below meth c 0 0 (MQ below (va_Ql Q (gB E) (gA E)) args s 0 0 (gA E)) E 3 F 9 [(0, .ref (ad E 121)), (1, .int x1)] []) (fun K9 hK9 F x1 h => jb_X12_digest_9 hC hK9 h) F x1 h
set_option maxRecDepth 20000 in
set_option maxHeartbeats 4000000 in
theorem c_X12_digest (l : Launch) (E : gE) {F : gS} {Q : Int64 → gS → Prop} (h : wp_X12_digest F Q) : CtL l E yX12_digest cX12_digest 3 (some .long) rm_X12_digest [.ref (ad E 121)] F Q := by
  refine ct_of (by decide) (Nat.le_of_ble_eq_true rfl) (fun p e s m below meth c hC => ?_)
  generalize ([.ref (ad E 121)] : List Value).toArray = args at hC ⊢
  refine v_sub (lv' := [(0, .ref (ad E 121))]) [0] rfl ?_
  unfold wp_X12_digest at h
  refine v_aload_n (pc := 0) hC dX12_digest_0 rfl 0 rfl ?_
  refine v_ldc2 (pc := 1) hC kc_X12_363 dX12_digest_1 ?_
  refine v_putl (pc := 4) (j2 := 67) hC fp_X12_355 kq_121 (fs_10_66 E _ _ _) (fn_10_66 E _ _) dX12_digest_4 h (fun F1 h => ?_)
  refine v_iconst (pc := 7) (v := 0) hC dX12_digest_7 (by decide) ?_
  refine v_istore_n (pc := 8) (lv' := [(1, .int 0), (0, .ref (ad E 121))]) hC dX12_digest_8 rfl (by decide) rfl ?_
  exact v_sub [1, 0] rfl (jl_X12_digest_9 hC h)
