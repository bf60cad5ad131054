def rc_X11 : Room := { frames := 3, cells := 120, slots := 1076, locals := 52 }
theorem arrV_same {cI : ClassId} {N : Nat} {f g : Nat → Value} (h : ∀ j, j < N → f j = g j) : arrV cI N f = arrV cI N g := by
  unfold arrV
  congr 1
  apply Array.ext_getElem?
  intro j
  simp only [Array.getElem?_ofFn]
  by_cases q : j < N
  · simp only [q, dif_pos, dite_true]; rw [h j q]
  · simp only [q, dif_neg, dite_false, not_false_iff]
def aP (E : gE) (i : Nat) : Nat → Option Nat := fun j => if j < i then some (ad E (37 + 2 * j)) else none
def aC (E : gE) (i : Nat) : Nat → Option Nat := fun j => if j < i then some (ad E (49 + 3 * j)) else none
def O9 (E : gE) : List Value := [.ref (ad E 1), .ref (ad E 3), .ref (ad E 6), .ref (ad E 9), .ref (ad E 10), .ref (ad E 26), .ref (ad E 29), .ref (ad E 32), .ref (ad E 33), .ref (ad E 34), .int 0, .int 0, .int 0, .int 0, .int 0, .int 0]
def XL (E : gE) (i j : Nat) : List (Nat × va_E) := [(0, .inr (9, O9 E)), (32, .inl (E.2.1 3, 6, .inr (.inr (.inr (.inr (aP E i)))))), (33, .inl (E.2.1 4, 24, .inr (.inr (.inr (.inr (aC E j))))))]
theorem aP_up (E : gE) (i : Nat) : va_up (aP E i) i (some (ad E (37 + 2 * i))) = aP E (i + 1) := by
  funext j
  unfold va_up aP
  by_cases h : j = i
  · subst h; simp
  · rw [if_neg h]
    by_cases h2 : j < i
    · rw [if_pos h2, if_pos (by omega)]
    · rw [if_neg h2, if_neg (by omega)]
theorem aC_up (E : gE) (i : Nat) : va_up (aC E i) i (some (ad E (49 + 3 * i))) = aC E (i + 1) := by
  funext j
  unfold va_up aC
  by_cases h : j = i
  · subst h; simp
  · rw [if_neg h]
    by_cases h2 : j < i
    · rw [if_pos h2, if_pos (by omega)]
    · rw [if_neg h2, if_neg (by omega)]
theorem XL_key (E : gE) (i j k : Nat) (hk : 33 < k) : ∀ z ∈ XL E i j, z.1 < k := by
  intro z hz
  simp only [XL, List.mem_cons, List.not_mem_nil, or_false] at hz
  rcases hz with rfl | rfl | rfl
  · show 0 < k; omega
  · show 32 < k; omega
  · show 33 < k; omega
theorem i6 : ∀ i, i < 6 → (Int32.ofNat i).toNatClampNeg = i ∧ ¬ (6 : Int32) ≤ Int32.ofNat i ∧ ¬ Int32.ofNat i < 0 ∧ Int32.ofNat i + Int32.ofInt 1 = Int32.ofNat (i + 1) := by decide +kernel
theorem i24 : ∀ i, i < 24 → (Int32.ofNat i).toNatClampNeg = i ∧ ¬ (24 : Int32) ≤ Int32.ofNat i ∧ ¬ Int32.ofNat i < 0 ∧ Int32.ofNat i + Int32.ofInt 1 = Int32.ofNat (i + 1) := by decide +kernel
section X11L
variable {p : Program} {l : Launch} {e : Env} {R : Room} {s : State} {m : MethodId} {args : Array Value} {below : List Frame} {meth : Method} {c : Code} {nc ns : Nat} {Q : State → Prop} {E : gE} {nL lo n : Nat} {X : List (Nat × va_E)} {pc : Nat} {lv : List (Nat × Value)} {st : List Value}
theorem k_getM {cc : ByteArray} {own : String} (hC : CB p s m args c cc own E nL) {idx ci j k : Nat} {fs : List Value} {v : Value} (hf : FL own idx ci j) (hX : (k, .inr (ci, fs)) ∈ X) (hv : fs[j]? = some v) (hd : decode cc pc = .ok (.getfield idx, 3)) (kk : VC p l e R s m args below meth c nc ns Q E nL lo n X (pc + 3) lv (v :: st)) : VC p l e R s m args below meth c nc ns Q E nL lo n X pc lv (.ref (ad E k) :: st) := by
  intro H locs ls hP hS hl
  obtain ⟨C, T, N, h1, h2, h3, h4, h5⟩ := hf
  have hat := (hP.2.2 _ hX).2.2
  have hPw : va_P E.1 vwCl [(ad E k, .inr (ci, fs))] H := fun i q hq => by
    cases i with
    | zero => cases hq; exact hat
    | succ i => cases hq
  exact va_get hC.1 hC.2.1 hC.2.2.2.2.1 h3 hC.2.2.2.1 hC.2.2.2.2.2.1 hPw 0 rfl h1 j h2 (hC.2.2.2.2.1 _ h4) (fun _ h => h) hv hd (kk H locs ls hP hS hl)
theorem k_getF {cc : ByteArray} {own : String} (hC : CB p s m args c cc own E nL) {idx ci j k : Nat} {fs : List Value} {v : Value} (hf : FL own idx ci j) (hk : lo ≤ k ∧ k < n) (hX : ∀ x ∈ X, x.1 ≠ k) (hF : FC E k = .inr (ci, fs)) (hv : fs[j]? = some v) (hd : decode cc pc = .ok (.getfield idx, 3)) (kk : VC p l e R s m args below meth c nc ns Q E nL lo n X (pc + 3) lv (v :: st)) : VC p l e R s m args below meth c nc ns Q E nL lo n X pc lv (.ref (ad E k) :: st) := by
  intro H locs ls hP hS hl
  obtain ⟨C, T, N, h1, h2, h3, h4, h5⟩ := hf
  have hat := hP.2.1 k hk.1 hk.2 hX
  rw [hF] at hat
  have hPw : va_P E.1 vwCl [(ad E k, .inr (ci, fs))] H := fun i q hq => by
    cases i with
    | zero => cases hq; exact hat
    | succ i => cases hq
  exact va_get hC.1 hC.2.1 hC.2.2.2.2.1 h3 hC.2.2.2.1 hC.2.2.2.2.2.1 hPw 0 rfl h1 j h2 (hC.2.2.2.2.1 _ h4) (fun _ h => h) hv hd (kk H locs ls hP hS hl)
theorem k_cnt {nc' ns' n' : Nat} (h1 : nc = nc') (h2 : ns = ns') (h3 : n = n') (kk : VC p l e R s m args below meth c nc' ns' Q E nL lo n' X pc lv st) : VC p l e R s m args below meth c nc ns Q E nL lo n X pc lv st := by
  subst h1; subst h2; subst h3; exact kk

theorem xlp1 (hC : CC p s m args meth c cX11_init RX11 E 2) (i : Nat) (hi : i < 6) (kk : VC p l e rc_X11 s m args below meth c (36 + 2 * (i + 1)) (404 + 12 * (i + 1)) Q E 2 0 (37 + 2 * (i + 1)) (XL E (i + 1) 0) 112 [(1, .int (Int32.ofNat (i + 1))), (0, .ref (ad E 0))] []) : VC p l e rc_X11 s m args below meth c (36 + 2 * i) (404 + 12 * i) Q E 2 0 (37 + 2 * i) (XL E i 0) 112 [(1, .int (Int32.ofNat i)), (0, .ref (ad E 0))] [] := by
  have hB := hC.1
  obtain ⟨i1, i2, i3, i4⟩ := i6 i hi
  refine k_iload_n (pc := 112) hB dX11_init_112 rfl 0 rfl ?_
  refine k_bipush (pc := 113) (v := 6) hB dX11_init_113 (by decide) ?_
  refine k_ge_n (pc := 115) (tgt := 137) hB dX11_init_115 (by decide) i2 ?_
  refine k_aload_n (pc := 118) hB dX11_init_118 rfl 1 rfl ?_
  refine k_get (pc := 119) (v := .ref (ad E 32)) hB fl_X11_54 rfl dX11_init_119 ?_
  refine k_iload_n (pc := 122) hB dX11_init_122 rfl 0 rfl ?_
  refine k_make (pc := 123) hB nw_X11_52 (Nat.zero_le _) ⟨by show _ ≤ 120; omega, by show _ ≤ 1076; omega⟩ dX11_init_123 ?_
  refine k_dup (pc := 126) hB dX11_init_126 rfl ?_
  refine k_callN (pc := 127) (k := 37 + 2 * i) (Y := XL E i 0) (As := []) (rest := [.ref (ad E (37 + 2 * i)), .int (Int32.ofNat i), .ref (ad E 32)]) hB mn_X11_71 mi_X7 (c_X7_init l E (lo := 37 + 2 * i) (kd_pl i hi)) ⟨rfl, rfl⟩ ⟨Nat.le_of_ble_eq_true rfl, Nat.le_of_ble_eq_true rfl⟩ rfl rfl (Nat.le_of_ble_eq_true rfl) ⟨by show _ ≤ 120; omega, by show _ ≤ 1076; omega⟩ dX11_init_127 List.mem_cons_self (Nat.zero_le _) (by omega) (tail_lt (XL_key E _ _ _ (by omega))) head_or (fun x h => by cases h) ?_
  refine k_aast (pc := 130) (g := aP E (i + 1)) (ka := 32) (kb := 37 + 2 * i) (t0 := 3) (N := 6) (r := (RX7, TX7, 6)) (Y := XL E (i + 1) 0) hB (List.mem_cons_of_mem _ List.mem_cons_self) rfl ⟨Nat.zero_le _, by omega⟩ (fun x hx => Nat.ne_of_lt (XL_key E _ _ _ (by omega) x hx)) (by rw [FC_v0 (kd_pl i hi) (by decide)]; rfl) rfl (by intro q; rcases q with q | q; exact i3 q; rw [i1] at q; omega) (by rw [i1]; exact aP_up E i) (by simp only [XL, List.mem_cons, List.not_mem_nil, or_false]; rintro x (rfl | rfl | rfl) <;> simp) (by simp only [XL, List.mem_cons, List.not_mem_nil, or_false]; rintro x (rfl | rfl | rfl) <;> simp) (by simp [XL]) dX11_init_130 ?_
  refine k_iinc (pc := 131) (v := Int32.ofNat (i + 1)) hB dX11_init_131 0 rfl (by decide) i4 rfl ?_
  refine k_goto (pc := 134) (tgt := 112) hB dX11_init_134 (by decide) ?_
  exact k_cnt (by omega) (by omega) (by omega) kk
theorem xlp2 (hC : CC p s m args meth c cX11_init RX11 E 2) (i : Nat) (hi : i < 24) (kk : VC p l e rc_X11 s m args below meth c (48 + 3 * (i + 1)) (476 + 25 * (i + 1)) Q E 2 0 (49 + 3 * (i + 1)) (XL E 6 (i + 1)) 139 [(1, .int (Int32.ofNat (i + 1))), (0, .ref (ad E 0))] []) : VC p l e rc_X11 s m args below meth c (48 + 3 * i) (476 + 25 * i) Q E 2 0 (49 + 3 * i) (XL E 6 i) 139 [(1, .int (Int32.ofNat i)), (0, .ref (ad E 0))] [] := by
  have hB := hC.1
  obtain ⟨i1, i2, i3, i4⟩ := i24 i hi
  refine k_iload_n (pc := 139) hB dX11_init_139 rfl 0 rfl ?_
  refine k_bipush (pc := 140) (v := 24) hB dX11_init_140 (by decide) ?_
  refine k_ge_n (pc := 142) (tgt := 164) hB dX11_init_142 (by decide) i2 ?_
  refine k_aload_n (pc := 145) hB dX11_init_145 rfl 1 rfl ?_
  refine k_get (pc := 146) (v := .ref (ad E 33)) hB fl_X11_60 rfl dX11_init_146 ?_
  refine k_iload_n (pc := 149) hB dX11_init_149 rfl 0 rfl ?_
  refine k_make (pc := 150) hB nw_X11_58 (Nat.zero_le _) ⟨by show _ ≤ 120; omega, by show _ ≤ 1076; omega⟩ dX11_init_150 ?_
  refine k_dup (pc := 153) hB dX11_init_153 rfl ?_
  refine k_callN (pc := 154) (k := 49 + 3 * i) (Y := XL E 6 i) (As := []) (rest := [.ref (ad E (49 + 3 * i)), .int (Int32.ofNat i), .ref (ad E 33)]) hB mn_X11_72 mi_X0 (c_X0_init l E (lo := 49 + 3 * i) (kd_ck i hi)) ⟨rfl, rfl⟩ ⟨Nat.le_of_ble_eq_true rfl, Nat.le_of_ble_eq_true rfl⟩ rfl rfl (Nat.le_of_ble_eq_true rfl) ⟨by show _ ≤ 120; omega, by show _ ≤ 1076; omega⟩ dX11_init_154 List.mem_cons_self (Nat.zero_le _) (by omega) (tail_lt (XL_key E _ _ _ (by omega))) head_or (fun x h => by cases h) ?_
  refine k_aast (pc := 157) (g := aC E (i + 1)) (ka := 33) (kb := 49 + 3 * i) (t0 := 4) (N := 24) (r := (RX0, TX0, 2)) (Y := XL E 6 (i + 1)) hB (List.mem_cons_of_mem _ (List.mem_cons_of_mem _ List.mem_cons_self)) rfl ⟨Nat.zero_le _, by omega⟩ (fun x hx => Nat.ne_of_lt (XL_key E _ _ _ (by omega) x hx)) (by rw [FC_v0 (kd_ck i hi) (by decide)]; rfl) rfl (by intro q; rcases q with q | q; exact i3 q; rw [i1] at q; omega) (by rw [i1]; exact aC_up E i) (by simp only [XL, List.mem_cons, List.not_mem_nil, or_false]; rintro x (rfl | rfl | rfl) <;> simp) (by simp only [XL, List.mem_cons, List.not_mem_nil, or_false]; rintro x (rfl | rfl | rfl) <;> simp) (by simp [XL]) dX11_init_157 ?_
  refine k_iinc (pc := 158) (v := Int32.ofNat (i + 1)) hB dX11_init_158 0 rfl (by decide) i4 rfl ?_
  refine k_goto (pc := 161) (tgt := 139) hB dX11_init_161 (by decide) ?_
  exact k_cnt (by omega) (by omega) (by omega) kk
theorem lpA (hC : CC p s m args meth c cX11_init RX11 E 2) (kk : VC p l e rc_X11 s m args below meth c 48 476 Q E 2 0 49 (XL E 6 0) 112 [(1, .int (Int32.ofNat 6)), (0, .ref (ad E 0))] []) : VC p l e rc_X11 s m args below meth c 36 404 Q E 2 0 37 (XL E 0 0) 112 [(1, .int (Int32.ofNat 0)), (0, .ref (ad E 0))] [] :=
  xlp1 hC 0 (by decide) (xlp1 hC 1 (by decide) (xlp1 hC 2 (by decide) (xlp1 hC 3 (by decide) (xlp1 hC 4 (by decide) (xlp1 hC 5 (by decide) kk)))))
theorem lpB (hC : CC p s m args meth c cX11_init RX11 E 2) (kk : VC p l e rc_X11 s m args below meth c (48 + 3 * 24) (476 + 25 * 24) Q E 2 0 (49 + 3 * 24) (XL E 6 24) 139 [(1, .int (Int32.ofNat 24)), (0, .ref (ad E 0))] []) : ∀ d i, d + i = 24 → VC p l e rc_X11 s m args below meth c (48 + 3 * i) (476 + 25 * i) Q E 2 0 (49 + 3 * i) (XL E 6 i) 139 [(1, .int (Int32.ofNat i)), (0, .ref (ad E 0))] [] := by
  intro d
  induction d with
  | zero => intro i h; have : i = 24 := by omega
            subst this; exact kk
  | succ d ih => intro i h; exact xlp2 hC i (by omega) (ih (i + 1) (by omega))
theorem XL_end {H : Heap} (h : CW E 0 121 (XL E 6 24) H) : CW E 0 121 [] H := by
  refine h.swap (fun y hy => by cases hy) (fun x hx => Or.inr ?_)
  simp only [XL, List.mem_cons, List.not_mem_nil, or_false] at hx
  rcases hx with rfl | rfl | rfl
  · exact fun z => z
  · intro z
    show H[ad E 32]? = some (vp_cell (E.2.1 3) (6, .inr (.inr (.inr (.inr (fun i => some (ad E (37 + 2 * i))))))))
    have z2 : H[ad E 32]? = some (vp_cell (E.2.1 3) (6, .inr (.inr (.inr (.inr (aP E 6)))))) := z
    rw [z2, vp_cell_q, vp_cell_q]
    exact congrArg some (arrV_same (fun j hj => by unfold aP; rw [if_pos hj]))
  · intro z
    show H[ad E 33]? = some (vp_cell (E.2.1 4) (24, .inr (.inr (.inr (.inr (fun i => some (ad E (49 + 3 * i))))))))
    have z2 : H[ad E 33]? = some (vp_cell (E.2.1 4) (24, .inr (.inr (.inr (.inr (aC E 24)))))) := z
    rw [z2, vp_cell_q, vp_cell_q]
    exact congrArg some (arrV_same (fun j hj => by unfold aC; rw [if_pos hj]))
end X11L
theorem c_X11_init (l : Launch) (E : gE) : CtC l E yX11_init cX11_init 2 rc_X11 [.ref (ad E 0)] 0 (.inr (9, [.null, .null, .null, .null, .null, .null, .null, .null, .null, .null, .int 0, .int 0, .int 0, .int 0, .int 0, .int 0])) 121 [] 120 1076 := by
  refine cc_of (by decide) rfl (Nat.le_of_ble_eq_true rfl) (fun p e s m below meth c hC => ?_)
  generalize ([.ref (ad E 0)] : List Value).toArray = args at hC ⊢
  have hB := hC.1
  refine k_sub (lv' := [(0, .ref (ad E 0))]) [0] rfl ?_
  refine k_aload_n (pc := 0) hB dX11_init_0 rfl 0 rfl ?_
  refine k_obj (pc := 1) hB oi_X11_1 oi_m oi_c dX11_init_1 ⟨Nat.le_of_ble_eq_true rfl, Nat.le_of_ble_eq_true rfl⟩ ?_
  refine k_aload_n (pc := 4) hB dX11_init_4 rfl 0 rfl ?_
  refine k_make (pc := 5) hB nw_X11_7 (Nat.le_of_ble_eq_true rfl) ⟨Nat.le_of_ble_eq_true rfl, Nat.le_of_ble_eq_true rfl⟩ dX11_init_5 ?_
  refine k_dup (pc := 8) hB dX11_init_8 rfl ?_
  refine k_callN (pc := 9) (k := 1) (Y := [(0, .inr (9, [.null, .null, .null, .null, .null, .null, .null, .null, .null, .null, .int 0, .int 0, .int 0, .int 0, .int 0, .int 0]))]) (As := []) (rest := [.ref (ad E 1), .ref (ad E 0)]) hB mn_X11_9 mi_X4 (c_X4_init l E ) ⟨rfl, rfl⟩ ⟨Nat.le_of_ble_eq_true rfl, Nat.le_of_ble_eq_true rfl⟩ rfl rfl (Nat.le_of_ble_eq_true rfl) ⟨Nat.le_of_ble_eq_true rfl, Nat.le_of_ble_eq_true rfl⟩ dX11_init_9 List.mem_cons_self (Nat.le_of_ble_eq_true rfl) (Nat.le_of_ble_eq_true rfl) (tail_lt (List.forall_mem_cons.mpr ⟨Nat.le_of_ble_eq_true rfl, (fun _ h => by cases h)⟩)) head_or (fun x h => by cases h) ?_
  refine k_put (pc := 12) (fs' := [.ref (ad E 1), .null, .null, .null, .null, .null, .null, .null, .null, .null, .int 0, .int 0, .int 0, .int 0, .int 0, .int 0]) hC ff_X11_10 rfl rfl (Nat.le_of_ble_eq_true rfl) (fun _ h => by cases h) rfl dX11_init_12 ?_
  refine k_aload_n (pc := 15) hB dX11_init_15 rfl 0 rfl ?_
  refine k_make (pc := 16) hB nw_X11_16 (Nat.le_of_ble_eq_true rfl) ⟨Nat.le_of_ble_eq_true rfl, Nat.le_of_ble_eq_true rfl⟩ dX11_init_16 ?_
  refine k_dup (pc := 19) hB dX11_init_19 rfl ?_
  refine k_callN (pc := 20) (k := 3) (Y := [(0, .inr (9, [.ref (ad E 1), .null, .null, .null, .null, .null, .null, .null, .null, .null, .int 0, .int 0, .int 0, .int 0, .int 0, .int 0]))]) (As := []) (rest := [.ref (ad E 3), .ref (ad E 0)]) hB mn_X11_18 mi_X6 (c_X6_init l E ) ⟨rfl, rfl⟩ ⟨Nat.le_of_ble_eq_true rfl, Nat.le_of_ble_eq_true rfl⟩ rfl rfl (Nat.le_of_ble_eq_true rfl) ⟨Nat.le_of_ble_eq_true rfl, Nat.le_of_ble_eq_true rfl⟩ dX11_init_20 List.mem_cons_self (Nat.le_of_ble_eq_true rfl) (Nat.le_of_ble_eq_true rfl) (tail_lt (List.forall_mem_cons.mpr ⟨Nat.le_of_ble_eq_true rfl, (fun _ h => by cases h)⟩)) head_or (fun x h => by cases h) ?_
  refine k_put (pc := 23) (fs' := [.ref (ad E 1), .ref (ad E 3), .null, .null, .null, .null, .null, .null, .null, .null, .int 0, .int 0, .int 0, .int 0, .int 0, .int 0]) hC ff_X11_19 rfl rfl (Nat.le_of_ble_eq_true rfl) (fun _ h => by cases h) rfl dX11_init_23 ?_
  refine k_aload_n (pc := 26) hB dX11_init_26 rfl 0 rfl ?_
  refine k_make (pc := 27) hB nw_X11_23 (Nat.le_of_ble_eq_true rfl) ⟨Nat.le_of_ble_eq_true rfl, Nat.le_of_ble_eq_true rfl⟩ dX11_init_27 ?_
  refine k_dup (pc := 30) hB dX11_init_30 rfl ?_
  refine k_callN (pc := 31) (k := 6) (Y := [(0, .inr (9, [.ref (ad E 1), .ref (ad E 3), .null, .null, .null, .null, .null, .null, .null, .null, .int 0, .int 0, .int 0, .int 0, .int 0, .int 0]))]) (As := []) (rest := [.ref (ad E 6), .ref (ad E 0)]) hB mn_X11_25 mi_X8 (c_X8_init l E ) ⟨rfl, rfl⟩ ⟨Nat.le_of_ble_eq_true rfl, Nat.le_of_ble_eq_true rfl⟩ rfl rfl (Nat.le_of_ble_eq_true rfl) ⟨Nat.le_of_ble_eq_true rfl, Nat.le_of_ble_eq_true rfl⟩ dX11_init_31 List.mem_cons_self (Nat.le_of_ble_eq_true rfl) (Nat.le_of_ble_eq_true rfl) (tail_lt (List.forall_mem_cons.mpr ⟨Nat.le_of_ble_eq_true rfl, (fun _ h => by cases h)⟩)) head_or (fun x h => by cases h) ?_
  refine k_put (pc := 34) (fs' := [.ref (ad E 1), .ref (ad E 3), .ref (ad E 6), .null, .null, .null, .null, .null, .null, .null, .int 0, .int 0, .int 0, .int 0, .int 0, .int 0]) hC ff_X11_26 rfl rfl (Nat.le_of_ble_eq_true rfl) (fun _ h => by cases h) rfl dX11_init_34 ?_
  refine k_aload_n (pc := 37) hB dX11_init_37 rfl 0 rfl ?_
  refine k_make (pc := 38) hB nw_X11_30 (Nat.le_of_ble_eq_true rfl) ⟨Nat.le_of_ble_eq_true rfl, Nat.le_of_ble_eq_true rfl⟩ dX11_init_38 ?_
  refine k_dup (pc := 41) hB dX11_init_41 rfl ?_
  refine k_callN (pc := 42) (k := 9) (Y := [(0, .inr (9, [.ref (ad E 1), .ref (ad E 3), .ref (ad E 6), .null, .null, .null, .null, .null, .null, .null, .int 0, .int 0, .int 0, .int 0, .int 0, .int 0]))]) (As := []) (rest := [.ref (ad E 9), .ref (ad E 0)]) hB mn_X11_32 mi_X2 (c_X2_init l E ) ⟨rfl, rfl⟩ ⟨Nat.le_of_ble_eq_true rfl, Nat.le_of_ble_eq_true rfl⟩ rfl rfl (Nat.le_of_ble_eq_true rfl) ⟨Nat.le_of_ble_eq_true rfl, Nat.le_of_ble_eq_true rfl⟩ dX11_init_42 List.mem_cons_self (Nat.le_of_ble_eq_true rfl) (Nat.le_of_ble_eq_true rfl) (tail_lt (List.forall_mem_cons.mpr ⟨Nat.le_of_ble_eq_true rfl, (fun _ h => by cases h)⟩)) head_or (fun x h => by cases h) ?_
  refine k_put (pc := 45) (fs' := [.ref (ad E 1), .ref (ad E 3), .ref (ad E 6), .ref (ad E 9), .null, .null, .null, .null, .null, .null, .int 0, .int 0, .int 0, .int 0, .int 0, .int 0]) hC ff_X11_33 rfl rfl (Nat.le_of_ble_eq_true rfl) (fun _ h => by cases h) rfl dX11_init_45 ?_
  refine k_aload_n (pc := 48) hB dX11_init_48 rfl 0 rfl ?_
  refine k_aload_n (pc := 49) hB dX11_init_49 rfl 0 rfl ?_
  refine k_get (pc := 50) (fs := [.ref (ad E 1), .ref (ad E 3), .ref (ad E 6), .ref (ad E 9), .null, .null, .null, .null, .null, .null, .int 0, .int 0, .int 0, .int 0, .int 0, .int 0]) (v := .ref (ad E 9)) hB fl_X11_33 rfl dX11_init_50 ?_
  refine k_getF (pc := 53) (k := 9) (ci := 2) (fs := [.ref (ad E 10), .ref (ad E 15), .ref (ad E 18), .ref (ad E 21), .ref (ad E 24), .int 0, .int 0, .int 0]) (v := .ref (ad E 10)) hB fl_X11_37 ⟨Nat.le_of_ble_eq_true rfl, Nat.le_of_ble_eq_true rfl⟩ (List.forall_mem_cons.mpr ⟨Nat.ne_of_lt (Nat.le_of_ble_eq_true rfl), (fun _ h => by cases h)⟩) rfl rfl dX11_init_53 ?_
  refine k_put (pc := 56) (fs' := [.ref (ad E 1), .ref (ad E 3), .ref (ad E 6), .ref (ad E 9), .ref (ad E 10), .null, .null, .null, .null, .null, .int 0, .int 0, .int 0, .int 0, .int 0, .int 0]) hC ff_X11_41 rfl rfl (Nat.le_of_ble_eq_true rfl) (fun _ h => by cases h) rfl dX11_init_56 ?_
  refine k_aload_n (pc := 59) hB dX11_init_59 rfl 0 rfl ?_
  refine k_make (pc := 60) hB nw_X11_42 (Nat.le_of_ble_eq_true rfl) ⟨Nat.le_of_ble_eq_true rfl, Nat.le_of_ble_eq_true rfl⟩ dX11_init_60 ?_
  refine k_dup (pc := 63) hB dX11_init_63 rfl ?_
  refine k_callN (pc := 64) (k := 26) (Y := [(0, .inr (9, [.ref (ad E 1), .ref (ad E 3), .ref (ad E 6), .ref (ad E 9), .ref (ad E 10), .null, .null, .null, .null, .null, .int 0, .int 0, .int 0, .int 0, .int 0, .int 0]))]) (As := []) (rest := [.ref (ad E 26), .ref (ad E 0)]) hB mn_X11_44 mi_X1 (c_X1_init l E (lo := 26) kq_26) ⟨rfl, rfl⟩ ⟨Nat.le_of_ble_eq_true rfl, Nat.le_of_ble_eq_true rfl⟩ rfl rfl (Nat.le_of_ble_eq_true rfl) ⟨Nat.le_of_ble_eq_true rfl, Nat.le_of_ble_eq_true rfl⟩ dX11_init_64 List.mem_cons_self (Nat.le_of_ble_eq_true rfl) (Nat.le_of_ble_eq_true rfl) (tail_lt (List.forall_mem_cons.mpr ⟨Nat.le_of_ble_eq_true rfl, (fun _ h => by cases h)⟩)) head_or (fun x h => by cases h) ?_
  refine k_put (pc := 67) (fs' := [.ref (ad E 1), .ref (ad E 3), .ref (ad E 6), .ref (ad E 9), .ref (ad E 10), .ref (ad E 26), .null, .null, .null, .null, .int 0, .int 0, .int 0, .int 0, .int 0, .int 0]) hC ff_X11_45 rfl rfl (Nat.le_of_ble_eq_true rfl) (fun _ h => by cases h) rfl dX11_init_67 ?_
  refine k_aload_n (pc := 70) hB dX11_init_70 rfl 0 rfl ?_
  refine k_make (pc := 71) hB nw_X11_42 (Nat.le_of_ble_eq_true rfl) ⟨Nat.le_of_ble_eq_true rfl, Nat.le_of_ble_eq_true rfl⟩ dX11_init_71 ?_
  refine k_dup (pc := 74) hB dX11_init_74 rfl ?_
  refine k_callN (pc := 75) (k := 29) (Y := [(0, .inr (9, [.ref (ad E 1), .ref (ad E 3), .ref (ad E 6), .ref (ad E 9), .ref (ad E 10), .ref (ad E 26), .null, .null, .null, .null, .int 0, .int 0, .int 0, .int 0, .int 0, .int 0]))]) (As := []) (rest := [.ref (ad E 29), .ref (ad E 0)]) hB mn_X11_44 mi_X1 (c_X1_init l E (lo := 29) kq_29) ⟨rfl, rfl⟩ ⟨Nat.le_of_ble_eq_true rfl, Nat.le_of_ble_eq_true rfl⟩ rfl rfl (Nat.le_of_ble_eq_true rfl) ⟨Nat.le_of_ble_eq_true rfl, Nat.le_of_ble_eq_true rfl⟩ dX11_init_75 List.mem_cons_self (Nat.le_of_ble_eq_true rfl) (Nat.le_of_ble_eq_true rfl) (tail_lt (List.forall_mem_cons.mpr ⟨Nat.le_of_ble_eq_true rfl, (fun _ h => by cases h)⟩)) head_or (fun x h => by cases h) ?_
  refine k_put (pc := 78) (fs' := [.ref (ad E 1), .ref (ad E 3), .ref (ad E 6), .ref (ad E 9), .ref (ad E 10), .ref (ad E 26), .ref (ad E 29), .null, .null, .null, .int 0, .int 0, .int 0, .int 0, .int 0, .int 0]) hC ff_X11_49 rfl rfl (Nat.le_of_ble_eq_true rfl) (fun _ h => by cases h) rfl dX11_init_78 ?_
  refine k_aload_n (pc := 81) hB dX11_init_81 rfl 0 rfl ?_
  refine k_bipush (pc := 82) (v := 6) hB dX11_init_82 (by decide) ?_
  refine k_anew (pc := 84) (t0 := 3) (N := 6) hB cl_X11_52 hB.2.2.2.2.2.2.2.2.1 (by decide +kernel) (by decide) (by decide) rfl (Nat.le_of_ble_eq_true rfl) ⟨Nat.le_of_ble_eq_true rfl, Nat.le_of_ble_eq_true rfl⟩ dX11_init_84 ?_
  refine k_swap (Y := [(0, .inr (9, [.ref (ad E 1), .ref (ad E 3), .ref (ad E 6), .ref (ad E 9), .ref (ad E 10), .ref (ad E 26), .ref (ad E 29), .null, .null, .null, .int 0, .int 0, .int 0, .int 0, .int 0, .int 0])), (32, .inl (E.2.1 3, 6, .inr (.inr (.inr (.inr (fun _ => none))))))]) (fun H h => h) ?_
  refine k_put (pc := 87) (fs' := [.ref (ad E 1), .ref (ad E 3), .ref (ad E 6), .ref (ad E 9), .ref (ad E 10), .ref (ad E 26), .ref (ad E 29), .ref (ad E 32), .null, .null, .int 0, .int 0, .int 0, .int 0, .int 0, .int 0]) hC ff_X11_54 rfl rfl (Nat.le_of_ble_eq_true rfl) (List.forall_mem_cons.mpr ⟨Nat.ne_of_gt (Nat.le_of_ble_eq_true rfl), (fun _ h => by cases h)⟩) rfl dX11_init_87 ?_
  refine k_aload_n (pc := 90) hB dX11_init_90 rfl 0 rfl ?_
  refine k_bipush (pc := 91) (v := 24) hB dX11_init_91 (by decide) ?_
  refine k_anew (pc := 93) (t0 := 4) (N := 24) hB cl_X11_58 hB.2.2.2.2.2.2.2.2.2 (by decide +kernel) (by decide) (by decide) rfl (Nat.le_of_ble_eq_true rfl) ⟨Nat.le_of_ble_eq_true rfl, Nat.le_of_ble_eq_true rfl⟩ dX11_init_93 ?_
  refine k_swap (Y := [(0, .inr (9, [.ref (ad E 1), .ref (ad E 3), .ref (ad E 6), .ref (ad E 9), .ref (ad E 10), .ref (ad E 26), .ref (ad E 29), .ref (ad E 32), .null, .null, .int 0, .int 0, .int 0, .int 0, .int 0, .int 0])), (32, .inl (E.2.1 3, 6, .inr (.inr (.inr (.inr (fun _ => none)))))), (33, .inl (E.2.1 4, 24, .inr (.inr (.inr (.inr (fun _ => none))))))]) (fun H h => h) ?_
  refine k_put (pc := 96) (fs' := [.ref (ad E 1), .ref (ad E 3), .ref (ad E 6), .ref (ad E 9), .ref (ad E 10), .ref (ad E 26), .ref (ad E 29), .ref (ad E 32), .ref (ad E 33), .null, .int 0, .int 0, .int 0, .int 0, .int 0, .int 0]) hC ff_X11_60 rfl rfl (Nat.le_of_ble_eq_true rfl) (List.forall_mem_cons.mpr ⟨Nat.ne_of_gt (Nat.le_of_ble_eq_true rfl), (List.forall_mem_cons.mpr ⟨Nat.ne_of_gt (Nat.le_of_ble_eq_true rfl), (fun _ h => by cases h)⟩)⟩) rfl dX11_init_96 ?_
  refine k_aload_n (pc := 99) hB dX11_init_99 rfl 0 rfl ?_
  refine k_make (pc := 100) hB nw_X11_64 (Nat.le_of_ble_eq_true rfl) ⟨Nat.le_of_ble_eq_true rfl, Nat.le_of_ble_eq_true rfl⟩ dX11_init_100 ?_
  refine k_dup (pc := 103) hB dX11_init_103 rfl ?_
  refine k_callN (pc := 104) (k := 34) (Y := [(0, .inr (9, [.ref (ad E 1), .ref (ad E 3), .ref (ad E 6), .ref (ad E 9), .ref (ad E 10), .ref (ad E 26), .ref (ad E 29), .ref (ad E 32), .ref (ad E 33), .null, .int 0, .int 0, .int 0, .int 0, .int 0, .int 0])), (32, .inl (E.2.1 3, 6, .inr (.inr (.inr (.inr (fun _ => none)))))), (33, .inl (E.2.1 4, 24, .inr (.inr (.inr (.inr (fun _ => none))))))]) (As := []) (rest := [.ref (ad E 34), .ref (ad E 0)]) hB mn_X11_66 mi_X3 (c_X3_init l E ) ⟨rfl, rfl⟩ ⟨Nat.le_of_ble_eq_true rfl, Nat.le_of_ble_eq_true rfl⟩ rfl rfl (Nat.le_of_ble_eq_true rfl) ⟨Nat.le_of_ble_eq_true rfl, Nat.le_of_ble_eq_true rfl⟩ dX11_init_104 List.mem_cons_self (Nat.le_of_ble_eq_true rfl) (Nat.le_of_ble_eq_true rfl) (tail_lt (List.forall_mem_cons.mpr ⟨Nat.le_of_ble_eq_true rfl, (List.forall_mem_cons.mpr ⟨Nat.le_of_ble_eq_true rfl, (List.forall_mem_cons.mpr ⟨Nat.le_of_ble_eq_true rfl, (fun _ h => by cases h)⟩)⟩)⟩)) head_or (fun x h => by cases h) ?_
  refine k_put (pc := 107) (fs' := [.ref (ad E 1), .ref (ad E 3), .ref (ad E 6), .ref (ad E 9), .ref (ad E 10), .ref (ad E 26), .ref (ad E 29), .ref (ad E 32), .ref (ad E 33), .ref (ad E 34), .int 0, .int 0, .int 0, .int 0, .int 0, .int 0]) hC ff_X11_67 rfl rfl (Nat.le_of_ble_eq_true rfl) (List.forall_mem_cons.mpr ⟨Nat.ne_of_gt (Nat.le_of_ble_eq_true rfl), (List.forall_mem_cons.mpr ⟨Nat.ne_of_gt (Nat.le_of_ble_eq_true rfl), (fun _ h => by cases h)⟩)⟩) rfl dX11_init_107 ?_
  refine k_iconst (pc := 110) (v := 0) hB dX11_init_110 (by decide) ?_
  refine k_istore_n (pc := 111) hB dX11_init_111 rfl (by decide) rfl ?_
  refine k_swap (Y := XL E 0 0) (fun H h => h) ?_
  refine k_cnt (nc' := 36) (ns' := 404) (n' := 37) rfl rfl rfl ?_
  refine lpA hC ?_
  refine k_iload_n (pc := 112) hB dX11_init_112 rfl 0 rfl ?_
  refine k_bipush (pc := 113) (v := 6) hB dX11_init_113 (by decide) ?_
  refine k_ge_y (pc := 115) (tgt := 137) hB dX11_init_115 (by decide) (by decide) ?_
  refine k_iconst (pc := 137) (v := 0) hB dX11_init_137 (by decide) ?_
  refine k_istore_n (pc := 138) hB dX11_init_138 rfl (by decide) rfl ?_
  refine lpB hC ?_ 24 0 rfl
  refine k_iload_n (pc := 139) hB dX11_init_139 rfl 0 rfl ?_
  refine k_bipush (pc := 140) (v := 24) hB dX11_init_140 (by decide) ?_
  refine k_ge_y (pc := 142) (tgt := 164) hB dX11_init_142 (by decide) (by decide) ?_
  refine k_cnt (nc' := 120) (ns' := 1076) (n' := 121) rfl rfl rfl ?_
  refine k_swap (Y := []) (fun H h => XL_end h) ?_
  exact k_ret (pc := 164) hC dX11_init_164 (fun x h => by cases h) (fun x h => by cases h)
