theorem Inv_0 : Inv 0 (fun _ _ => 0) := by
  have no : ∀ (j : Nat) {P : Prop}, j < 0 → P := fun j _ h => absurd h (Nat.not_lt_zero j)
  have z : (0 : Int32) = nI 0 := nI_0.symm
  refine ⟨(0, 0, fun _ => 0, fun _ => 0), 0, 0, 0, (fun _ => 0, fun _ => 0, 0), 0, 0, ?_, ?_, ?_, ?_, ?_, ?_, ?_⟩
  · exact ⟨⟨z, z, z, fun _ _ => rfl, fun _ _ => rfl⟩, ⟨z, z, fun _ _ => rfl, fun _ _ => rfl⟩, z, z, Nat.le_refl _, Or.inl ⟨rfl, rfl, rfl⟩⟩
  · exact ⟨by decide, z, z, fun j hj => no j hj⟩
  · exact ⟨by decide, z, z, fun j hj => no j hj⟩
  · exact ⟨⟨fun _ _ => rfl, fun _ _ => rfl, rfl⟩, fun _ _ => rfl, fun _ _ => rfl, rfl, ⟨fun j hj => no j hj, ⟨0, Nat.zero_le _, z⟩⟩, fun _ _ _ => rfl⟩
  · exact Or.inl ⟨rfl, Or.inl rfl⟩
  · exact ⟨by decide, z, z, fun j hj => no j hj⟩
  · exact ⟨by decide, z, z⟩
theorem ite_tf {P : Prop} [Decidable P] (h : P) : if P then True else False := by rw [if_pos h]; trivial
theorem lw_cmp {L k : Nat} (hL : L ≤ 3584) (hk : 7 * k ≤ L) : if Int32.ofNat L - 7 < nI (7 * k) then True else 7 * k + 7 ≤ L := by
  by_cases q : 7 * k + 7 ≤ L
  · have e : Int32.ofNat L - 7 = nI (L - 7) := by
      have h1 : nI (L - 7) + nI 7 = nI L := by rw [nI_add]; congr 1; omega
      show nI L - nI 7 = nI (L - 7)
      rw [← h1, Int32.add_sub_cancel]
    rw [e, if_neg (nI_nlt (by omega) (by omega))]
    exact q
  · have hlt : Int32.ofNat L - 7 < nI (7 * k) := by
      by_cases h7 : 7 ≤ L
      · have e : Int32.ofNat L - 7 = nI (L - 7) := by
          have h1 : nI (L - 7) + nI 7 = nI L := by rw [nI_add]; congr 1; omega
          show nI L - nI 7 = nI (L - 7)
          rw [← h1, Int32.add_sub_cancel]
        rw [e]
        exact nI_lt (by omega) (by omega)
      · have hk0 : k = 0 := by omega
        subst hk0
        have : ∀ L, L < 7 → Int32.ofNat L - 7 < nI (7 * 0) := by decide +kernel
        exact this L (by omega)
    rw [if_pos hlt]
    trivial
section LAW
variable {p : Program} {l : Launch} {e : Env} {R : Room} {s : State} {m : MethodId} {args : Array Value} {below : List Frame} {meth : Method} {c : Code} {nc ns : Nat} {Q : State → Prop} {E : gE} {nL : Nat} {F : gS} {pc : Nat} {lv : List (Nat × Value)} {st : List Value} {cc : ByteArray} {own : String} {ret0 : Option FieldType} {b L : Nat} {xs : Nat → Int32} {k : Nat}
theorem v_sld (hC : CX p s m args meth c cc own ret0 E nL) (hX : va_X b L xs s s.heap) (hbl : b < s.heap.size) (hbA : ¬ gA E b) {i : Int32} (hin : vp_in i L) (hd : decode cc pc = .ok (.iaload, 1)) (kk : VV p l e R s m args below meth c nc ns Q E nL F (pc + 1) lv (.int (xs i.toNatClampNeg) :: st)) : VV p l e R s m args below meth c nc ns Q E nL F pc lv (.int i :: .ref b :: st) :=
  fun H locs ls hP hS hl => va_sld hC.1 hC.2.1 hX hbl hbA hS hin hd (kk H locs ls hP hS hl)
theorem v_slen (hC : CX p s m args meth c cc own ret0 E nL) (hX : va_X b L xs s s.heap) (hbl : b < s.heap.size) (hbA : ¬ gA E b) (hd : decode cc pc = .ok (.arraylength, 1)) (kk : VV p l e R s m args below meth c nc ns Q E nL F (pc + 1) lv (.int (Int32.ofNat L) :: st)) : VV p l e R s m args below meth c nc ns Q E nL F pc lv (.ref b :: st) :=
  fun H locs ls hP hS hl => va_slen hC.1 hC.2.1 hX hbl hbA hS hd (kk H locs ls hP hS hl)
theorem lc_0 (hC : CX p s m #[Value.ref b] meth c cL_law RL ret E 4) (hX : va_X b L xs s s.heap) (hbl : b < s.heap.size) (hbA : ¬ gA E b) (hin : ∀ j, j < 7 → vp_in (nI (7 * k) + nI j) L) (hk : k < 2 ^ 20) (hI : Inv k F) (kk : ∀ G, Inv (k + 1) G → VV p l e room_1 s m #[Value.ref b] below meth c 150 2103 Q E 4 G 1004 [(3, .int (nI (7 * k))), (2, .ref (ad E 121)), (1, .ref (ad E 0)), (0, .ref b)] []) : VV p l e room_1 s m #[Value.ref b] below meth c 150 2103 Q E 4 F 164 [(3, .int (nI (7 * k))), (2, .ref (ad E 121)), (1, .ref (ad E 0)), (0, .ref b)] [] := by
  refine v_aload_n (pc := 164) hC dL_law_164 rfl 2 rfl ?_
  refine v_aload_n (pc := 165) hC dL_law_165 rfl 3 rfl ?_
  refine v_iload_n (pc := 166) hC dL_law_166 rfl 0 rfl ?_
  refine v_iconst (pc := 167) (v := 1) hC dL_law_167 (by decide) ?_
  refine v_iadd (pc := 168) hC dL_law_168 ?_
  refine v_sld (pc := 169) hC hX hbl hbA (hin 1 (by decide)) dL_law_169 ?_
  refine v_i2l (pc := 170) hC dL_law_170 ?_
  refine v_bipush (pc := 171) (v := 32) hC dL_law_171 (by decide) ?_
  refine v_lshl (pc := 173) hC dL_law_173 ?_
  refine v_aload_n (pc := 174) hC dL_law_174 rfl 3 rfl ?_
  refine v_iload_n (pc := 175) hC dL_law_175 rfl 0 rfl ?_
  refine v_iconst (pc := 176) (v := 2) hC dL_law_176 (by decide) ?_
  refine v_iadd (pc := 177) hC dL_law_177 ?_
  refine v_sld (pc := 178) hC hX hbl hbA (hin 2 (by decide)) dL_law_178 ?_
  refine v_i2l (pc := 179) hC dL_law_179 ?_
  refine v_ldc2 (pc := 180) (v := 4294967295) hC kc_L_13 dL_law_180 ?_
  refine v_land (pc := 183) hC dL_law_183 ?_
  refine v_lor (pc := 184) hC dL_law_184 ?_
  refine v_ci (pc := 185) (r_V (rest := []) hC ml_L_15 mv_X11_letters (c_X11_letters l E (T_letters hI)) ⟨rfl, rfl⟩ ⟨Nat.le_of_ble_eq_true rfl, Nat.le_of_ble_eq_true rfl⟩ kq_0 rfl (by decide) rfl rfl (Nat.le_of_ble_eq_true rfl) ⟨Nat.le_of_ble_eq_true rfl, Nat.le_of_ble_eq_true rfl⟩ dL_law_185) (fun r G h => ?_)
  refine v_aload_n (pc := 188) hC dL_law_188 rfl 1 rfl ?_
  refine v_aload_n (pc := 189) hC dL_law_189 rfl 3 rfl ?_
  refine v_iload_n (pc := 190) hC dL_law_190 rfl 0 rfl ?_
  refine v_iconst (pc := 191) (v := 1) hC dL_law_191 (by decide) ?_
  refine v_iadd (pc := 192) hC dL_law_192 ?_
  refine v_sld (pc := 193) hC hX hbl hbA (hin 1 (by decide)) dL_law_193 ?_
  refine v_i2l (pc := 194) hC dL_law_194 ?_
  refine v_bipush (pc := 195) (v := 32) hC dL_law_195 (by decide) ?_
  refine v_lshl (pc := 197) hC dL_law_197 ?_
  refine v_aload_n (pc := 198) hC dL_law_198 rfl 3 rfl ?_
  refine v_iload_n (pc := 199) hC dL_law_199 rfl 0 rfl ?_
  refine v_iconst (pc := 200) (v := 2) hC dL_law_200 (by decide) ?_
  refine v_iadd (pc := 201) hC dL_law_201 ?_
  refine v_sld (pc := 202) hC hX hbl hbA (hin 2 (by decide)) dL_law_202 ?_
  refine v_i2l (pc := 203) hC dL_law_203 ?_
  refine v_ldc2 (pc := 204) (v := 4294967295) hC kc_L_13 dL_law_204 ?_
  refine v_land (pc := 207) hC dL_law_207 ?_
  refine v_lor (pc := 208) hC dL_law_208 ?_
  refine v_ci (pc := 209) (r_V (rest := [.int r]) hC ml_L_19 mv_X12_letters (c_X12_letters l E h) ⟨rfl, rfl⟩ ⟨Nat.le_of_ble_eq_true rfl, Nat.le_of_ble_eq_true rfl⟩ kq_121 rfl (by decide) rfl rfl (Nat.le_of_ble_eq_true rfl) ⟨Nat.le_of_ble_eq_true rfl, Nat.le_of_ble_eq_true rfl⟩ dL_law_209) (fun r' H h => ?_)
  exact v_ic_eq (pc := 212) (tgt := 1004) (A := True) (B := False) hC dL_law_212 (by decide) (ite_tf h.1) (fun _ => kk H h.2) (fun h => h.elim)
theorem lc_1 (hC : CX p s m #[Value.ref b] meth c cL_law RL ret E 4) (hX : va_X b L xs s s.heap) (hbl : b < s.heap.size) (hbA : ¬ gA E b) (hin : ∀ j, j < 7 → vp_in (nI (7 * k) + nI j) L) (hk : k < 2 ^ 20) (hI : Inv k F) (kk : ∀ G, Inv (k + 1) G → VV p l e room_1 s m #[Value.ref b] below meth c 150 2103 Q E 4 G 1004 [(3, .int (nI (7 * k))), (2, .ref (ad E 121)), (1, .ref (ad E 0)), (0, .ref b)] []) : VV p l e room_1 s m #[Value.ref b] below meth c 150 2103 Q E 4 F 217 [(3, .int (nI (7 * k))), (2, .ref (ad E 121)), (1, .ref (ad E 0)), (0, .ref b)] [] := by
  refine v_aload_n (pc := 217) hC dL_law_217 rfl 2 rfl ?_
  refine v_ci (pc := 218) (r_V (rest := []) hC ml_L_20 mv_X11_blank (c_X11_blank l E (T_blank hI)) ⟨rfl, rfl⟩ ⟨Nat.le_of_ble_eq_true rfl, Nat.le_of_ble_eq_true rfl⟩ kq_0 rfl (by decide) rfl rfl (Nat.le_of_ble_eq_true rfl) ⟨Nat.le_of_ble_eq_true rfl, Nat.le_of_ble_eq_true rfl⟩ dL_law_218) (fun r G h => ?_)
  refine v_aload_n (pc := 221) hC dL_law_221 rfl 1 rfl ?_
  refine v_ci (pc := 222) (r_V (rest := [.int r]) hC ml_L_24 mv_X12_blank (c_X12_blank l E h) ⟨rfl, rfl⟩ ⟨Nat.le_of_ble_eq_true rfl, Nat.le_of_ble_eq_true rfl⟩ kq_121 rfl (by decide) rfl rfl (Nat.le_of_ble_eq_true rfl) ⟨Nat.le_of_ble_eq_true rfl, Nat.le_of_ble_eq_true rfl⟩ dL_law_222) (fun r' H h => ?_)
  exact v_ic_eq (pc := 225) (tgt := 1004) (A := True) (B := False) hC dL_law_225 (by decide) (ite_tf h.1) (fun _ => kk H h.2) (fun h => h.elim)
theorem lc_2 (hC : CX p s m #[Value.ref b] meth c cL_law RL ret E 4) (hX : va_X b L xs s s.heap) (hbl : b < s.heap.size) (hbA : ¬ gA E b) (hin : ∀ j, j < 7 → vp_in (nI (7 * k) + nI j) L) (hk : k < 2 ^ 20) (hI : Inv k F) (kk : ∀ G, Inv (k + 1) G → VV p l e room_1 s m #[Value.ref b] below meth c 150 2103 Q E 4 G 1004 [(3, .int (nI (7 * k))), (2, .ref (ad E 121)), (1, .ref (ad E 0)), (0, .ref b)] []) : VV p l e room_1 s m #[Value.ref b] below meth c 150 2103 Q E 4 F 230 [(3, .int (nI (7 * k))), (2, .ref (ad E 121)), (1, .ref (ad E 0)), (0, .ref b)] [] := by
  refine v_aload_n (pc := 230) hC dL_law_230 rfl 2 rfl ?_
  refine v_aload_n (pc := 231) hC dL_law_231 rfl 3 rfl ?_
  refine v_iload_n (pc := 232) hC dL_law_232 rfl 0 rfl ?_
  refine v_iconst (pc := 233) (v := 1) hC dL_law_233 (by decide) ?_
  refine v_iadd (pc := 234) hC dL_law_234 ?_
  refine v_sld (pc := 235) hC hX hbl hbA (hin 1 (by decide)) dL_law_235 ?_
  refine v_ci (pc := 236) (r_V (rest := []) hC ml_L_25 mv_X11_fault (c_X11_fault l E (T_fault hI)) ⟨rfl, rfl⟩ ⟨Nat.le_of_ble_eq_true rfl, Nat.le_of_ble_eq_true rfl⟩ kq_0 rfl (by decide) rfl rfl (Nat.le_of_ble_eq_true rfl) ⟨Nat.le_of_ble_eq_true rfl, Nat.le_of_ble_eq_true rfl⟩ dL_law_236) (fun r G h => ?_)
  refine v_aload_n (pc := 239) hC dL_law_239 rfl 1 rfl ?_
  refine v_aload_n (pc := 240) hC dL_law_240 rfl 3 rfl ?_
  refine v_iload_n (pc := 241) hC dL_law_241 rfl 0 rfl ?_
  refine v_iconst (pc := 242) (v := 1) hC dL_law_242 (by decide) ?_
  refine v_iadd (pc := 243) hC dL_law_243 ?_
  refine v_sld (pc := 244) hC hX hbl hbA (hin 1 (by decide)) dL_law_244 ?_
  refine v_ci (pc := 245) (r_V (rest := [.int r]) hC ml_L_29 mv_X12_fault (c_X12_fault l E h) ⟨rfl, rfl⟩ ⟨Nat.le_of_ble_eq_true rfl, Nat.le_of_ble_eq_true rfl⟩ kq_121 rfl (by decide) rfl rfl (Nat.le_of_ble_eq_true rfl) ⟨Nat.le_of_ble_eq_true rfl, Nat.le_of_ble_eq_true rfl⟩ dL_law_245) (fun r' H h => ?_)
  exact v_ic_eq (pc := 248) (tgt := 1004) (A := True) (B := False) hC dL_law_248 (by decide) (ite_tf h.1) (fun _ => kk H h.2) (fun h => h.elim)
theorem lc_3 (hC : CX p s m #[Value.ref b] meth c cL_law RL ret E 4) (hX : va_X b L xs s s.heap) (hbl : b < s.heap.size) (hbA : ¬ gA E b) (hin : ∀ j, j < 7 → vp_in (nI (7 * k) + nI j) L) (hk : k < 2 ^ 20) (hI : Inv k F) (kk : ∀ G, Inv (k + 1) G → VV p l e room_1 s m #[Value.ref b] below meth c 150 2103 Q E 4 G 1004 [(3, .int (nI (7 * k))), (2, .ref (ad E 121)), (1, .ref (ad E 0)), (0, .ref b)] []) : VV p l e room_1 s m #[Value.ref b] below meth c 150 2103 Q E 4 F 253 [(3, .int (nI (7 * k))), (2, .ref (ad E 121)), (1, .ref (ad E 0)), (0, .ref b)] [] := by
  refine v_aload_n (pc := 253) hC dL_law_253 rfl 2 rfl ?_
  refine v_ci (pc := 254) (r_V (rest := []) hC ml_L_30 mv_X11_pan (c_X11_pan l E (T_pan hk hI)) ⟨rfl, rfl⟩ ⟨Nat.le_of_ble_eq_true rfl, Nat.le_of_ble_eq_true rfl⟩ kq_0 rfl (by decide) rfl rfl (Nat.le_of_ble_eq_true rfl) ⟨Nat.le_of_ble_eq_true rfl, Nat.le_of_ble_eq_true rfl⟩ dL_law_254) (fun r G h => ?_)
  refine v_aload_n (pc := 257) hC dL_law_257 rfl 1 rfl ?_
  refine v_ci (pc := 258) (r_V (rest := [.int r]) hC ml_L_33 mv_X12_pan (c_X12_pan l E h) ⟨rfl, rfl⟩ ⟨Nat.le_of_ble_eq_true rfl, Nat.le_of_ble_eq_true rfl⟩ kq_121 rfl (by decide) rfl rfl (Nat.le_of_ble_eq_true rfl) ⟨Nat.le_of_ble_eq_true rfl, Nat.le_of_ble_eq_true rfl⟩ dL_law_258) (fun r' H h => ?_)
  exact v_ic_eq (pc := 261) (tgt := 1004) (A := True) (B := False) hC dL_law_261 (by decide) (ite_tf h.1) (fun _ => kk H h.2) (fun h => h.elim)
theorem lc_4 (hC : CX p s m #[Value.ref b] meth c cL_law RL ret E 4) (hX : va_X b L xs s s.heap) (hbl : b < s.heap.size) (hbA : ¬ gA E b) (hin : ∀ j, j < 7 → vp_in (nI (7 * k) + nI j) L) (hk : k < 2 ^ 20) (hI : Inv k F) (kk : ∀ G, Inv (k + 1) G → VV p l e room_1 s m #[Value.ref b] below meth c 150 2103 Q E 4 G 1004 [(3, .int (nI (7 * k))), (2, .ref (ad E 121)), (1, .ref (ad E 0)), (0, .ref b)] []) : VV p l e room_1 s m #[Value.ref b] below meth c 150 2103 Q E 4 F 266 [(3, .int (nI (7 * k))), (2, .ref (ad E 121)), (1, .ref (ad E 0)), (0, .ref b)] [] := by
  refine v_aload_n (pc := 266) hC dL_law_266 rfl 2 rfl ?_
  refine v_ci (pc := 267) (r_V (rest := []) hC ml_L_34 mv_X11_plan (c_X11_plan l E (T_plan hI)) ⟨rfl, rfl⟩ ⟨Nat.le_of_ble_eq_true rfl, Nat.le_of_ble_eq_true rfl⟩ kq_0 rfl (by decide) rfl rfl (Nat.le_of_ble_eq_true rfl) ⟨Nat.le_of_ble_eq_true rfl, Nat.le_of_ble_eq_true rfl⟩ dL_law_267) (fun r G h => ?_)
  refine v_aload_n (pc := 270) hC dL_law_270 rfl 1 rfl ?_
  refine v_ci (pc := 271) (r_V (rest := [.int r]) hC ml_L_37 mv_X12_plan (c_X12_plan l E h) ⟨rfl, rfl⟩ ⟨Nat.le_of_ble_eq_true rfl, Nat.le_of_ble_eq_true rfl⟩ kq_121 rfl (by decide) rfl rfl (Nat.le_of_ble_eq_true rfl) ⟨Nat.le_of_ble_eq_true rfl, Nat.le_of_ble_eq_true rfl⟩ dL_law_271) (fun r' H h => ?_)
  exact v_ic_eq (pc := 274) (tgt := 1004) (A := True) (B := False) hC dL_law_274 (by decide) (ite_tf h.1) (fun _ => kk H h.2) (fun h => h.elim)
theorem lc_5 (hC : CX p s m #[Value.ref b] meth c cL_law RL ret E 4) (hX : va_X b L xs s s.heap) (hbl : b < s.heap.size) (hbA : ¬ gA E b) (hin : ∀ j, j < 7 → vp_in (nI (7 * k) + nI j) L) (hk : k < 2 ^ 20) (hI : Inv k F) (kk : ∀ G, Inv (k + 1) G → VV p l e room_1 s m #[Value.ref b] below meth c 150 2103 Q E 4 G 1004 [(3, .int (nI (7 * k))), (2, .ref (ad E 121)), (1, .ref (ad E 0)), (0, .ref b)] []) : VV p l e room_1 s m #[Value.ref b] below meth c 150 2103 Q E 4 F 279 [(3, .int (nI (7 * k))), (2, .ref (ad E 121)), (1, .ref (ad E 0)), (0, .ref b)] [] := by
  refine v_aload_n (pc := 279) hC dL_law_279 rfl 2 rfl ?_
  refine v_aload_n (pc := 280) hC dL_law_280 rfl 3 rfl ?_
  refine v_iload_n (pc := 281) hC dL_law_281 rfl 0 rfl ?_
  refine v_iconst (pc := 282) (v := 1) hC dL_law_282 (by decide) ?_
  refine v_iadd (pc := 283) hC dL_law_283 ?_
  refine v_sld (pc := 284) hC hX hbl hbA (hin 1 (by decide)) dL_law_284 ?_
  refine v_aload_n (pc := 285) hC dL_law_285 rfl 3 rfl ?_
  refine v_iload_n (pc := 286) hC dL_law_286 rfl 0 rfl ?_
  refine v_iconst (pc := 287) (v := 2) hC dL_law_287 (by decide) ?_
  refine v_iadd (pc := 288) hC dL_law_288 ?_
  refine v_sld (pc := 289) hC hX hbl hbA (hin 2 (by decide)) dL_law_289 ?_
  refine v_cip (pc := 290) (r_V (rest := []) hC ml_L_38 mv_X11_planTold (c_X11_planTold l E (T_planTold hI)) ⟨rfl, rfl⟩ ⟨Nat.le_of_ble_eq_true rfl, Nat.le_of_ble_eq_true rfl⟩ kq_0 rfl (by decide) rfl rfl (Nat.le_of_ble_eq_true rfl) ⟨Nat.le_of_ble_eq_true rfl, Nat.le_of_ble_eq_true rfl⟩ dL_law_290) (fun r h => ?_)
  refine v_aload_n (pc := 293) hC dL_law_293 rfl 1 rfl ?_
  refine v_aload_n (pc := 294) hC dL_law_294 rfl 3 rfl ?_
  refine v_iload_n (pc := 295) hC dL_law_295 rfl 0 rfl ?_
  refine v_iconst (pc := 296) (v := 1) hC dL_law_296 (by decide) ?_
  refine v_iadd (pc := 297) hC dL_law_297 ?_
  refine v_sld (pc := 298) hC hX hbl hbA (hin 1 (by decide)) dL_law_298 ?_
  refine v_aload_n (pc := 299) hC dL_law_299 rfl 3 rfl ?_
  refine v_iload_n (pc := 300) hC dL_law_300 rfl 0 rfl ?_
  refine v_iconst (pc := 301) (v := 2) hC dL_law_301 (by decide) ?_
  refine v_iadd (pc := 302) hC dL_law_302 ?_
  refine v_sld (pc := 303) hC hX hbl hbA (hin 2 (by decide)) dL_law_303 ?_
  refine v_cip (pc := 304) (r_V (rest := [.int r]) hC ml_L_42 mv_X12_planTold (c_X12_planTold l E h) ⟨rfl, rfl⟩ ⟨Nat.le_of_ble_eq_true rfl, Nat.le_of_ble_eq_true rfl⟩ kq_121 rfl (by decide) rfl rfl (Nat.le_of_ble_eq_true rfl) ⟨Nat.le_of_ble_eq_true rfl, Nat.le_of_ble_eq_true rfl⟩ dL_law_304) (fun r' h => ?_)
  exact v_ic_eq (pc := 307) (tgt := 1004) (A := True) (B := False) hC dL_law_307 (by decide) (ite_tf h) (fun _ => kk F (Inv_s hI)) (fun h => h.elim)
theorem lc_6 (hC : CX p s m #[Value.ref b] meth c cL_law RL ret E 4) (hX : va_X b L xs s s.heap) (hbl : b < s.heap.size) (hbA : ¬ gA E b) (hin : ∀ j, j < 7 → vp_in (nI (7 * k) + nI j) L) (hk : k < 2 ^ 20) (hI : Inv k F) (kk : ∀ G, Inv (k + 1) G → VV p l e room_1 s m #[Value.ref b] below meth c 150 2103 Q E 4 G 1004 [(3, .int (nI (7 * k))), (2, .ref (ad E 121)), (1, .ref (ad E 0)), (0, .ref b)] []) : VV p l e room_1 s m #[Value.ref b] below meth c 150 2103 Q E 4 F 312 [(3, .int (nI (7 * k))), (2, .ref (ad E 121)), (1, .ref (ad E 0)), (0, .ref b)] [] := by
  refine v_aload_n (pc := 312) hC dL_law_312 rfl 2 rfl ?_
  refine v_aload_n (pc := 313) hC dL_law_313 rfl 3 rfl ?_
  refine v_iload_n (pc := 314) hC dL_law_314 rfl 0 rfl ?_
  refine v_iconst (pc := 315) (v := 1) hC dL_law_315 (by decide) ?_
  refine v_iadd (pc := 316) hC dL_law_316 ?_
  refine v_sld (pc := 317) hC hX hbl hbA (hin 1 (by decide)) dL_law_317 ?_
  refine v_aload_n (pc := 318) hC dL_law_318 rfl 3 rfl ?_
  refine v_iload_n (pc := 319) hC dL_law_319 rfl 0 rfl ?_
  refine v_iconst (pc := 320) (v := 2) hC dL_law_320 (by decide) ?_
  refine v_iadd (pc := 321) hC dL_law_321 ?_
  refine v_sld (pc := 322) hC hX hbl hbA (hin 2 (by decide)) dL_law_322 ?_
  refine v_cip (pc := 323) (r_V (rest := []) hC ml_L_43 mv_X11_cell (c_X11_cell l E (T_cell hk hI)) ⟨rfl, rfl⟩ ⟨Nat.le_of_ble_eq_true rfl, Nat.le_of_ble_eq_true rfl⟩ kq_0 rfl (by decide) rfl rfl (Nat.le_of_ble_eq_true rfl) ⟨Nat.le_of_ble_eq_true rfl, Nat.le_of_ble_eq_true rfl⟩ dL_law_323) (fun r h => ?_)
  refine v_aload_n (pc := 326) hC dL_law_326 rfl 1 rfl ?_
  refine v_aload_n (pc := 327) hC dL_law_327 rfl 3 rfl ?_
  refine v_iload_n (pc := 328) hC dL_law_328 rfl 0 rfl ?_
  refine v_iconst (pc := 329) (v := 1) hC dL_law_329 (by decide) ?_
  refine v_iadd (pc := 330) hC dL_law_330 ?_
  refine v_sld (pc := 331) hC hX hbl hbA (hin 1 (by decide)) dL_law_331 ?_
  refine v_aload_n (pc := 332) hC dL_law_332 rfl 3 rfl ?_
  refine v_iload_n (pc := 333) hC dL_law_333 rfl 0 rfl ?_
  refine v_iconst (pc := 334) (v := 2) hC dL_law_334 (by decide) ?_
  refine v_iadd (pc := 335) hC dL_law_335 ?_
  refine v_sld (pc := 336) hC hX hbl hbA (hin 2 (by decide)) dL_law_336 ?_
  refine v_cip (pc := 337) (r_V (rest := [.int r]) hC ml_L_46 mv_X12_cell (c_X12_cell l E h) ⟨rfl, rfl⟩ ⟨Nat.le_of_ble_eq_true rfl, Nat.le_of_ble_eq_true rfl⟩ kq_121 rfl (by decide) rfl rfl (Nat.le_of_ble_eq_true rfl) ⟨Nat.le_of_ble_eq_true rfl, Nat.le_of_ble_eq_true rfl⟩ dL_law_337) (fun r' h => ?_)
  exact v_ic_eq (pc := 340) (tgt := 1004) (A := True) (B := False) hC dL_law_340 (by decide) (ite_tf h) (fun _ => kk F (Inv_s hI)) (fun h => h.elim)
theorem lc_7 (hC : CX p s m #[Value.ref b] meth c cL_law RL ret E 4) (hX : va_X b L xs s s.heap) (hbl : b < s.heap.size) (hbA : ¬ gA E b) (hin : ∀ j, j < 7 → vp_in (nI (7 * k) + nI j) L) (hk : k < 2 ^ 20) (hI : Inv k F) (kk : ∀ G, Inv (k + 1) G → VV p l e room_1 s m #[Value.ref b] below meth c 150 2103 Q E 4 G 1004 [(3, .int (nI (7 * k))), (2, .ref (ad E 121)), (1, .ref (ad E 0)), (0, .ref b)] []) : VV p l e room_1 s m #[Value.ref b] below meth c 150 2103 Q E 4 F 345 [(3, .int (nI (7 * k))), (2, .ref (ad E 121)), (1, .ref (ad E 0)), (0, .ref b)] [] := by
  refine v_aload_n (pc := 345) hC dL_law_345 rfl 2 rfl ?_
  refine v_aload_n (pc := 346) hC dL_law_346 rfl 3 rfl ?_
  refine v_iload_n (pc := 347) hC dL_law_347 rfl 0 rfl ?_
  refine v_iconst (pc := 348) (v := 1) hC dL_law_348 (by decide) ?_
  refine v_iadd (pc := 349) hC dL_law_349 ?_
  refine v_sld (pc := 350) hC hX hbl hbA (hin 1 (by decide)) dL_law_350 ?_
  refine v_aload_n (pc := 351) hC dL_law_351 rfl 3 rfl ?_
  refine v_iload_n (pc := 352) hC dL_law_352 rfl 0 rfl ?_
  refine v_iconst (pc := 353) (v := 2) hC dL_law_353 (by decide) ?_
  refine v_iadd (pc := 354) hC dL_law_354 ?_
  refine v_sld (pc := 355) hC hX hbl hbA (hin 2 (by decide)) dL_law_355 ?_
  refine v_ci (pc := 356) (r_V (rest := []) hC ml_L_47 mv_X11_warm (c_X11_warm l E (T_warm hk hI)) ⟨rfl, rfl⟩ ⟨Nat.le_of_ble_eq_true rfl, Nat.le_of_ble_eq_true rfl⟩ kq_0 rfl (by decide) rfl rfl (Nat.le_of_ble_eq_true rfl) ⟨Nat.le_of_ble_eq_true rfl, Nat.le_of_ble_eq_true rfl⟩ dL_law_356) (fun r G h => ?_)
  refine v_aload_n (pc := 359) hC dL_law_359 rfl 1 rfl ?_
  refine v_aload_n (pc := 360) hC dL_law_360 rfl 3 rfl ?_
  refine v_iload_n (pc := 361) hC dL_law_361 rfl 0 rfl ?_
  refine v_iconst (pc := 362) (v := 1) hC dL_law_362 (by decide) ?_
  refine v_iadd (pc := 363) hC dL_law_363 ?_
  refine v_sld (pc := 364) hC hX hbl hbA (hin 1 (by decide)) dL_law_364 ?_
  refine v_aload_n (pc := 365) hC dL_law_365 rfl 3 rfl ?_
  refine v_iload_n (pc := 366) hC dL_law_366 rfl 0 rfl ?_
  refine v_iconst (pc := 367) (v := 2) hC dL_law_367 (by decide) ?_
  refine v_iadd (pc := 368) hC dL_law_368 ?_
  refine v_sld (pc := 369) hC hX hbl hbA (hin 2 (by decide)) dL_law_369 ?_
  refine v_ci (pc := 370) (r_V (rest := [.int r]) hC ml_L_50 mv_X12_warm (c_X12_warm l E h) ⟨rfl, rfl⟩ ⟨Nat.le_of_ble_eq_true rfl, Nat.le_of_ble_eq_true rfl⟩ kq_121 rfl (by decide) rfl rfl (Nat.le_of_ble_eq_true rfl) ⟨Nat.le_of_ble_eq_true rfl, Nat.le_of_ble_eq_true rfl⟩ dL_law_370) (fun r' H h => ?_)
  exact v_ic_eq (pc := 373) (tgt := 1004) (A := True) (B := False) hC dL_law_373 (by decide) (ite_tf h.1) (fun _ => kk H h.2) (fun h => h.elim)
theorem lc_8 (hC : CX p s m #[Value.ref b] meth c cL_law RL ret E 4) (hX : va_X b L xs s s.heap) (hbl : b < s.heap.size) (hbA : ¬ gA E b) (hin : ∀ j, j < 7 → vp_in (nI (7 * k) + nI j) L) (hk : k < 2 ^ 20) (hI : Inv k F) (kk : ∀ G, Inv (k + 1) G → VV p l e room_1 s m #[Value.ref b] below meth c 150 2103 Q E 4 G 1004 [(3, .int (nI (7 * k))), (2, .ref (ad E 121)), (1, .ref (ad E 0)), (0, .ref b)] []) : VV p l e room_1 s m #[Value.ref b] below meth c 150 2103 Q E 4 F 378 [(3, .int (nI (7 * k))), (2, .ref (ad E 121)), (1, .ref (ad E 0)), (0, .ref b)] [] := by
  refine v_aload_n (pc := 378) hC dL_law_378 rfl 2 rfl ?_
  refine v_aload_n (pc := 379) hC dL_law_379 rfl 3 rfl ?_
  refine v_iload_n (pc := 380) hC dL_law_380 rfl 0 rfl ?_
  refine v_iconst (pc := 381) (v := 1) hC dL_law_381 (by decide) ?_
  refine v_iadd (pc := 382) hC dL_law_382 ?_
  refine v_sld (pc := 383) hC hX hbl hbA (hin 1 (by decide)) dL_law_383 ?_
  refine v_ci (pc := 384) (r_V (rest := []) hC ml_L_51 mv_X11_fat (c_X11_fat l E (T_fat hk hI)) ⟨rfl, rfl⟩ ⟨Nat.le_of_ble_eq_true rfl, Nat.le_of_ble_eq_true rfl⟩ kq_0 rfl (by decide) rfl rfl (Nat.le_of_ble_eq_true rfl) ⟨Nat.le_of_ble_eq_true rfl, Nat.le_of_ble_eq_true rfl⟩ dL_law_384) (fun r G h => ?_)
  refine v_aload_n (pc := 387) hC dL_law_387 rfl 1 rfl ?_
  refine v_aload_n (pc := 388) hC dL_law_388 rfl 3 rfl ?_
  refine v_iload_n (pc := 389) hC dL_law_389 rfl 0 rfl ?_
  refine v_iconst (pc := 390) (v := 1) hC dL_law_390 (by decide) ?_
  refine v_iadd (pc := 391) hC dL_law_391 ?_
  refine v_sld (pc := 392) hC hX hbl hbA (hin 1 (by decide)) dL_law_392 ?_
  refine v_ci (pc := 393) (r_V (rest := [.int r]) hC ml_L_54 mv_X12_fat (c_X12_fat l E h) ⟨rfl, rfl⟩ ⟨Nat.le_of_ble_eq_true rfl, Nat.le_of_ble_eq_true rfl⟩ kq_121 rfl (by decide) rfl rfl (Nat.le_of_ble_eq_true rfl) ⟨Nat.le_of_ble_eq_true rfl, Nat.le_of_ble_eq_true rfl⟩ dL_law_393) (fun r' H h => ?_)
  exact v_ic_eq (pc := 396) (tgt := 1004) (A := True) (B := False) hC dL_law_396 (by decide) (ite_tf h.1) (fun _ => kk H h.2) (fun h => h.elim)
theorem lc_9 (hC : CX p s m #[Value.ref b] meth c cL_law RL ret E 4) (hX : va_X b L xs s s.heap) (hbl : b < s.heap.size) (hbA : ¬ gA E b) (hin : ∀ j, j < 7 → vp_in (nI (7 * k) + nI j) L) (hk : k < 2 ^ 20) (hI : Inv k F) (kk : ∀ G, Inv (k + 1) G → VV p l e room_1 s m #[Value.ref b] below meth c 150 2103 Q E 4 G 1004 [(3, .int (nI (7 * k))), (2, .ref (ad E 121)), (1, .ref (ad E 0)), (0, .ref b)] []) : VV p l e room_1 s m #[Value.ref b] below meth c 150 2103 Q E 4 F 401 [(3, .int (nI (7 * k))), (2, .ref (ad E 121)), (1, .ref (ad E 0)), (0, .ref b)] [] := by
  refine v_aload_n (pc := 401) hC dL_law_401 rfl 2 rfl ?_
  refine v_ci (pc := 402) (r_V (rest := []) hC ml_L_55 mv_X11_scrape (c_X11_scrape l E (T_scrape hk hI)) ⟨rfl, rfl⟩ ⟨Nat.le_of_ble_eq_true rfl, Nat.le_of_ble_eq_true rfl⟩ kq_0 rfl (by decide) rfl rfl (Nat.le_of_ble_eq_true rfl) ⟨Nat.le_of_ble_eq_true rfl, Nat.le_of_ble_eq_true rfl⟩ dL_law_402) (fun r G h => ?_)
  refine v_aload_n (pc := 405) hC dL_law_405 rfl 1 rfl ?_
  refine v_ci (pc := 406) (r_V (rest := [.int r]) hC ml_L_58 mv_X12_scrape (c_X12_scrape l E h) ⟨rfl, rfl⟩ ⟨Nat.le_of_ble_eq_true rfl, Nat.le_of_ble_eq_true rfl⟩ kq_121 rfl (by decide) rfl rfl (Nat.le_of_ble_eq_true rfl) ⟨Nat.le_of_ble_eq_true rfl, Nat.le_of_ble_eq_true rfl⟩ dL_law_406) (fun r' H h => ?_)
  exact v_ic_eq (pc := 409) (tgt := 1004) (A := True) (B := False) hC dL_law_409 (by decide) (ite_tf h.1) (fun _ => kk H h.2) (fun h => h.elim)
theorem lc_10 (hC : CX p s m #[Value.ref b] meth c cL_law RL ret E 4) (hX : va_X b L xs s s.heap) (hbl : b < s.heap.size) (hbA : ¬ gA E b) (hin : ∀ j, j < 7 → vp_in (nI (7 * k) + nI j) L) (hk : k < 2 ^ 20) (hI : Inv k F) (kk : ∀ G, Inv (k + 1) G → VV p l e room_1 s m #[Value.ref b] below meth c 150 2103 Q E 4 G 1004 [(3, .int (nI (7 * k))), (2, .ref (ad E 121)), (1, .ref (ad E 0)), (0, .ref b)] []) : VV p l e room_1 s m #[Value.ref b] below meth c 150 2103 Q E 4 F 414 [(3, .int (nI (7 * k))), (2, .ref (ad E 121)), (1, .ref (ad E 0)), (0, .ref b)] [] := by
  refine v_aload_n (pc := 414) hC dL_law_414 rfl 2 rfl ?_
  refine v_aload_n (pc := 415) hC dL_law_415 rfl 3 rfl ?_
  refine v_iload_n (pc := 416) hC dL_law_416 rfl 0 rfl ?_
  refine v_iconst (pc := 417) (v := 1) hC dL_law_417 (by decide) ?_
  refine v_iadd (pc := 418) hC dL_law_418 ?_
  refine v_sld (pc := 419) hC hX hbl hbA (hin 1 (by decide)) dL_law_419 ?_
  refine v_ci (pc := 420) (r_V (rest := []) hC ml_L_59 mv_X11_fry (c_X11_fry l E (T_fry hk hI)) ⟨rfl, rfl⟩ ⟨Nat.le_of_ble_eq_true rfl, Nat.le_of_ble_eq_true rfl⟩ kq_0 rfl (by decide) rfl rfl (Nat.le_of_ble_eq_true rfl) ⟨Nat.le_of_ble_eq_true rfl, Nat.le_of_ble_eq_true rfl⟩ dL_law_420) (fun r G h => ?_)
  refine v_aload_n (pc := 423) hC dL_law_423 rfl 1 rfl ?_
  refine v_aload_n (pc := 424) hC dL_law_424 rfl 3 rfl ?_
  refine v_iload_n (pc := 425) hC dL_law_425 rfl 0 rfl ?_
  refine v_iconst (pc := 426) (v := 1) hC dL_law_426 (by decide) ?_
  refine v_iadd (pc := 427) hC dL_law_427 ?_
  refine v_sld (pc := 428) hC hX hbl hbA (hin 1 (by decide)) dL_law_428 ?_
  refine v_ci (pc := 429) (r_V (rest := [.int r]) hC ml_L_62 mv_X12_fry (c_X12_fry l E h) ⟨rfl, rfl⟩ ⟨Nat.le_of_ble_eq_true rfl, Nat.le_of_ble_eq_true rfl⟩ kq_121 rfl (by decide) rfl rfl (Nat.le_of_ble_eq_true rfl) ⟨Nat.le_of_ble_eq_true rfl, Nat.le_of_ble_eq_true rfl⟩ dL_law_429) (fun r' H h => ?_)
  exact v_ic_eq (pc := 432) (tgt := 1004) (A := True) (B := False) hC dL_law_432 (by decide) (ite_tf h.1) (fun _ => kk H h.2) (fun h => h.elim)
theorem lc_11 (hC : CX p s m #[Value.ref b] meth c cL_law RL ret E 4) (hX : va_X b L xs s s.heap) (hbl : b < s.heap.size) (hbA : ¬ gA E b) (hin : ∀ j, j < 7 → vp_in (nI (7 * k) + nI j) L) (hk : k < 2 ^ 20) (hI : Inv k F) (kk : ∀ G, Inv (k + 1) G → VV p l e room_1 s m #[Value.ref b] below meth c 150 2103 Q E 4 G 1004 [(3, .int (nI (7 * k))), (2, .ref (ad E 121)), (1, .ref (ad E 0)), (0, .ref b)] []) : VV p l e room_1 s m #[Value.ref b] below meth c 150 2103 Q E 4 F 437 [(3, .int (nI (7 * k))), (2, .ref (ad E 121)), (1, .ref (ad E 0)), (0, .ref b)] [] := by
  refine v_aload_n (pc := 437) hC dL_law_437 rfl 2 rfl ?_
  refine v_aload_n (pc := 438) hC dL_law_438 rfl 3 rfl ?_
  refine v_iload_n (pc := 439) hC dL_law_439 rfl 0 rfl ?_
  refine v_iconst (pc := 440) (v := 1) hC dL_law_440 (by decide) ?_
  refine v_iadd (pc := 441) hC dL_law_441 ?_
  refine v_sld (pc := 442) hC hX hbl hbA (hin 1 (by decide)) dL_law_442 ?_
  refine v_aload_n (pc := 443) hC dL_law_443 rfl 3 rfl ?_
  refine v_iload_n (pc := 444) hC dL_law_444 rfl 0 rfl ?_
  refine v_iconst (pc := 445) (v := 2) hC dL_law_445 (by decide) ?_
  refine v_iadd (pc := 446) hC dL_law_446 ?_
  refine v_sld (pc := 447) hC hX hbl hbA (hin 2 (by decide)) dL_law_447 ?_
  refine v_cip (pc := 448) (r_V (rest := []) hC ml_L_63 mv_X11_cake (c_X11_cake l E (T_cake hI)) ⟨rfl, rfl⟩ ⟨Nat.le_of_ble_eq_true rfl, Nat.le_of_ble_eq_true rfl⟩ kq_0 rfl (by decide) rfl rfl (Nat.le_of_ble_eq_true rfl) ⟨Nat.le_of_ble_eq_true rfl, Nat.le_of_ble_eq_true rfl⟩ dL_law_448) (fun r h => ?_)
  refine v_aload_n (pc := 451) hC dL_law_451 rfl 1 rfl ?_
  refine v_aload_n (pc := 452) hC dL_law_452 rfl 3 rfl ?_
  refine v_iload_n (pc := 453) hC dL_law_453 rfl 0 rfl ?_
  refine v_iconst (pc := 454) (v := 1) hC dL_law_454 (by decide) ?_
  refine v_iadd (pc := 455) hC dL_law_455 ?_
  refine v_sld (pc := 456) hC hX hbl hbA (hin 1 (by decide)) dL_law_456 ?_
  refine v_aload_n (pc := 457) hC dL_law_457 rfl 3 rfl ?_
  refine v_iload_n (pc := 458) hC dL_law_458 rfl 0 rfl ?_
  refine v_iconst (pc := 459) (v := 2) hC dL_law_459 (by decide) ?_
  refine v_iadd (pc := 460) hC dL_law_460 ?_
  refine v_sld (pc := 461) hC hX hbl hbA (hin 2 (by decide)) dL_law_461 ?_
  refine v_cip (pc := 462) (r_V (rest := [.int r]) hC ml_L_66 mv_X12_cake (c_X12_cake l E h) ⟨rfl, rfl⟩ ⟨Nat.le_of_ble_eq_true rfl, Nat.le_of_ble_eq_true rfl⟩ kq_121 rfl (by decide) rfl rfl (Nat.le_of_ble_eq_true rfl) ⟨Nat.le_of_ble_eq_true rfl, Nat.le_of_ble_eq_true rfl⟩ dL_law_462) (fun r' h => ?_)
  exact v_ic_eq (pc := 465) (tgt := 1004) (A := True) (B := False) hC dL_law_465 (by decide) (ite_tf h) (fun _ => kk F (Inv_s hI)) (fun h => h.elim)
theorem lc_12 (hC : CX p s m #[Value.ref b] meth c cL_law RL ret E 4) (hX : va_X b L xs s s.heap) (hbl : b < s.heap.size) (hbA : ¬ gA E b) (hin : ∀ j, j < 7 → vp_in (nI (7 * k) + nI j) L) (hk : k < 2 ^ 20) (hI : Inv k F) (kk : ∀ G, Inv (k + 1) G → VV p l e room_1 s m #[Value.ref b] below meth c 150 2103 Q E 4 G 1004 [(3, .int (nI (7 * k))), (2, .ref (ad E 121)), (1, .ref (ad E 0)), (0, .ref b)] []) : VV p l e room_1 s m #[Value.ref b] below meth c 150 2103 Q E 4 F 470 [(3, .int (nI (7 * k))), (2, .ref (ad E 121)), (1, .ref (ad E 0)), (0, .ref b)] [] := by
  refine v_aload_n (pc := 470) hC dL_law_470 rfl 2 rfl ?_
  refine v_aload_n (pc := 471) hC dL_law_471 rfl 3 rfl ?_
  refine v_iload_n (pc := 472) hC dL_law_472 rfl 0 rfl ?_
  refine v_iconst (pc := 473) (v := 1) hC dL_law_473 (by decide) ?_
  refine v_iadd (pc := 474) hC dL_law_474 ?_
  refine v_sld (pc := 475) hC hX hbl hbA (hin 1 (by decide)) dL_law_475 ?_
  refine v_aload_n (pc := 476) hC dL_law_476 rfl 3 rfl ?_
  refine v_iload_n (pc := 477) hC dL_law_477 rfl 0 rfl ?_
  refine v_iconst (pc := 478) (v := 2) hC dL_law_478 (by decide) ?_
  refine v_iadd (pc := 479) hC dL_law_479 ?_
  refine v_sld (pc := 480) hC hX hbl hbA (hin 2 (by decide)) dL_law_480 ?_
  refine v_cip (pc := 481) (r_V (rest := []) hC ml_L_67 mv_X11_as (c_X11_as l E (T_as hI)) ⟨rfl, rfl⟩ ⟨Nat.le_of_ble_eq_true rfl, Nat.le_of_ble_eq_true rfl⟩ kq_0 rfl (by decide) rfl rfl (Nat.le_of_ble_eq_true rfl) ⟨Nat.le_of_ble_eq_true rfl, Nat.le_of_ble_eq_true rfl⟩ dL_law_481) (fun r h => ?_)
  refine v_aload_n (pc := 484) hC dL_law_484 rfl 1 rfl ?_
  refine v_aload_n (pc := 485) hC dL_law_485 rfl 3 rfl ?_
  refine v_iload_n (pc := 486) hC dL_law_486 rfl 0 rfl ?_
  refine v_iconst (pc := 487) (v := 1) hC dL_law_487 (by decide) ?_
  refine v_iadd (pc := 488) hC dL_law_488 ?_
  refine v_sld (pc := 489) hC hX hbl hbA (hin 1 (by decide)) dL_law_489 ?_
  refine v_aload_n (pc := 490) hC dL_law_490 rfl 3 rfl ?_
  refine v_iload_n (pc := 491) hC dL_law_491 rfl 0 rfl ?_
  refine v_iconst (pc := 492) (v := 2) hC dL_law_492 (by decide) ?_
  refine v_iadd (pc := 493) hC dL_law_493 ?_
  refine v_sld (pc := 494) hC hX hbl hbA (hin 2 (by decide)) dL_law_494 ?_
  refine v_cip (pc := 495) (r_V (rest := [.int r]) hC ml_L_70 mv_X12_as (c_X12_as l E h) ⟨rfl, rfl⟩ ⟨Nat.le_of_ble_eq_true rfl, Nat.le_of_ble_eq_true rfl⟩ kq_121 rfl (by decide) rfl rfl (Nat.le_of_ble_eq_true rfl) ⟨Nat.le_of_ble_eq_true rfl, Nat.le_of_ble_eq_true rfl⟩ dL_law_495) (fun r' h => ?_)
  exact v_ic_eq (pc := 498) (tgt := 1004) (A := True) (B := False) hC dL_law_498 (by decide) (ite_tf h) (fun _ => kk F (Inv_s hI)) (fun h => h.elim)
theorem lc_13 (hC : CX p s m #[Value.ref b] meth c cL_law RL ret E 4) (hX : va_X b L xs s s.heap) (hbl : b < s.heap.size) (hbA : ¬ gA E b) (hin : ∀ j, j < 7 → vp_in (nI (7 * k) + nI j) L) (hk : k < 2 ^ 20) (hI : Inv k F) (kk : ∀ G, Inv (k + 1) G → VV p l e room_1 s m #[Value.ref b] below meth c 150 2103 Q E 4 G 1004 [(3, .int (nI (7 * k))), (2, .ref (ad E 121)), (1, .ref (ad E 0)), (0, .ref b)] []) : VV p l e room_1 s m #[Value.ref b] below meth c 150 2103 Q E 4 F 503 [(3, .int (nI (7 * k))), (2, .ref (ad E 121)), (1, .ref (ad E 0)), (0, .ref b)] [] := by
  refine v_aload_n (pc := 503) hC dL_law_503 rfl 2 rfl ?_
  refine v_aload_n (pc := 504) hC dL_law_504 rfl 3 rfl ?_
  refine v_iload_n (pc := 505) hC dL_law_505 rfl 0 rfl ?_
  refine v_iconst (pc := 506) (v := 1) hC dL_law_506 (by decide) ?_
  refine v_iadd (pc := 507) hC dL_law_507 ?_
  refine v_sld (pc := 508) hC hX hbl hbA (hin 1 (by decide)) dL_law_508 ?_
  refine v_aload_n (pc := 509) hC dL_law_509 rfl 3 rfl ?_
  refine v_iload_n (pc := 510) hC dL_law_510 rfl 0 rfl ?_
  refine v_iconst (pc := 511) (v := 2) hC dL_law_511 (by decide) ?_
  refine v_iadd (pc := 512) hC dL_law_512 ?_
  refine v_sld (pc := 513) hC hX hbl hbA (hin 2 (by decide)) dL_law_513 ?_
  refine v_cip (pc := 514) (r_V (rest := []) hC ml_L_71 mv_X11_thick (c_X11_thick l E (T_thick hk hI)) ⟨rfl, rfl⟩ ⟨Nat.le_of_ble_eq_true rfl, Nat.le_of_ble_eq_true rfl⟩ kq_0 rfl (by decide) rfl rfl (Nat.le_of_ble_eq_true rfl) ⟨Nat.le_of_ble_eq_true rfl, Nat.le_of_ble_eq_true rfl⟩ dL_law_514) (fun r h => ?_)
  refine v_aload_n (pc := 517) hC dL_law_517 rfl 1 rfl ?_
  refine v_aload_n (pc := 518) hC dL_law_518 rfl 3 rfl ?_
  refine v_iload_n (pc := 519) hC dL_law_519 rfl 0 rfl ?_
  refine v_iconst (pc := 520) (v := 1) hC dL_law_520 (by decide) ?_
  refine v_iadd (pc := 521) hC dL_law_521 ?_
  refine v_sld (pc := 522) hC hX hbl hbA (hin 1 (by decide)) dL_law_522 ?_
  refine v_aload_n (pc := 523) hC dL_law_523 rfl 3 rfl ?_
  refine v_iload_n (pc := 524) hC dL_law_524 rfl 0 rfl ?_
  refine v_iconst (pc := 525) (v := 2) hC dL_law_525 (by decide) ?_
  refine v_iadd (pc := 526) hC dL_law_526 ?_
  refine v_sld (pc := 527) hC hX hbl hbA (hin 2 (by decide)) dL_law_527 ?_
  refine v_cip (pc := 528) (r_V (rest := [.int r]) hC ml_L_74 mv_X12_thick (c_X12_thick l E h) ⟨rfl, rfl⟩ ⟨Nat.le_of_ble_eq_true rfl, Nat.le_of_ble_eq_true rfl⟩ kq_121 rfl (by decide) rfl rfl (Nat.le_of_ble_eq_true rfl) ⟨Nat.le_of_ble_eq_true rfl, Nat.le_of_ble_eq_true rfl⟩ dL_law_528) (fun r' h => ?_)
  exact v_ic_eq (pc := 531) (tgt := 1004) (A := True) (B := False) hC dL_law_531 (by decide) (ite_tf h) (fun _ => kk F (Inv_s hI)) (fun h => h.elim)
theorem lc_14 (hC : CX p s m #[Value.ref b] meth c cL_law RL ret E 4) (hX : va_X b L xs s s.heap) (hbl : b < s.heap.size) (hbA : ¬ gA E b) (hin : ∀ j, j < 7 → vp_in (nI (7 * k) + nI j) L) (hk : k < 2 ^ 20) (hI : Inv k F) (kk : ∀ G, Inv (k + 1) G → VV p l e room_1 s m #[Value.ref b] below meth c 150 2103 Q E 4 G 1004 [(3, .int (nI (7 * k))), (2, .ref (ad E 121)), (1, .ref (ad E 0)), (0, .ref b)] []) : VV p l e room_1 s m #[Value.ref b] below meth c 150 2103 Q E 4 F 536 [(3, .int (nI (7 * k))), (2, .ref (ad E 121)), (1, .ref (ad E 0)), (0, .ref b)] [] := by
  refine v_aload_n (pc := 536) hC dL_law_536 rfl 2 rfl ?_
  refine v_aload_n (pc := 537) hC dL_law_537 rfl 3 rfl ?_
  refine v_iload_n (pc := 538) hC dL_law_538 rfl 0 rfl ?_
  refine v_iconst (pc := 539) (v := 1) hC dL_law_539 (by decide) ?_
  refine v_iadd (pc := 540) hC dL_law_540 ?_
  refine v_sld (pc := 541) hC hX hbl hbA (hin 1 (by decide)) dL_law_541 ?_
  refine v_aload_n (pc := 542) hC dL_law_542 rfl 3 rfl ?_
  refine v_iload_n (pc := 543) hC dL_law_543 rfl 0 rfl ?_
  refine v_iconst (pc := 544) (v := 2) hC dL_law_544 (by decide) ?_
  refine v_iadd (pc := 545) hC dL_law_545 ?_
  refine v_sld (pc := 546) hC hX hbl hbA (hin 2 (by decide)) dL_law_546 ?_
  refine v_ci (pc := 547) (r_V (rest := []) hC ml_L_75 mv_X11_tried (c_X11_tried l E (T_tried hk hI)) ⟨rfl, rfl⟩ ⟨Nat.le_of_ble_eq_true rfl, Nat.le_of_ble_eq_true rfl⟩ kq_0 rfl (by decide) rfl rfl (Nat.le_of_ble_eq_true rfl) ⟨Nat.le_of_ble_eq_true rfl, Nat.le_of_ble_eq_true rfl⟩ dL_law_547) (fun r G h => ?_)
  refine v_aload_n (pc := 550) hC dL_law_550 rfl 1 rfl ?_
  refine v_aload_n (pc := 551) hC dL_law_551 rfl 3 rfl ?_
  refine v_iload_n (pc := 552) hC dL_law_552 rfl 0 rfl ?_
  refine v_iconst (pc := 553) (v := 1) hC dL_law_553 (by decide) ?_
  refine v_iadd (pc := 554) hC dL_law_554 ?_
  refine v_sld (pc := 555) hC hX hbl hbA (hin 1 (by decide)) dL_law_555 ?_
  refine v_aload_n (pc := 556) hC dL_law_556 rfl 3 rfl ?_
  refine v_iload_n (pc := 557) hC dL_law_557 rfl 0 rfl ?_
  refine v_iconst (pc := 558) (v := 2) hC dL_law_558 (by decide) ?_
  refine v_iadd (pc := 559) hC dL_law_559 ?_
  refine v_sld (pc := 560) hC hX hbl hbA (hin 2 (by decide)) dL_law_560 ?_
  refine v_ci (pc := 561) (r_V (rest := [.int r]) hC ml_L_78 mv_X12_tried (c_X12_tried l E h) ⟨rfl, rfl⟩ ⟨Nat.le_of_ble_eq_true rfl, Nat.le_of_ble_eq_true rfl⟩ kq_121 rfl (by decide) rfl rfl (Nat.le_of_ble_eq_true rfl) ⟨Nat.le_of_ble_eq_true rfl, Nat.le_of_ble_eq_true rfl⟩ dL_law_561) (fun r' H h => ?_)
  exact v_ic_eq (pc := 564) (tgt := 1004) (A := True) (B := False) hC dL_law_564 (by decide) (ite_tf h.1) (fun _ => kk H h.2) (fun h => h.elim)
theorem lc_15 (hC : CX p s m #[Value.ref b] meth c cL_law RL ret E 4) (hX : va_X b L xs s s.heap) (hbl : b < s.heap.size) (hbA : ¬ gA E b) (hin : ∀ j, j < 7 → vp_in (nI (7 * k) + nI j) L) (hk : k < 2 ^ 20) (hI : Inv k F) (kk : ∀ G, Inv (k + 1) G → VV p l e room_1 s m #[Value.ref b] below meth c 150 2103 Q E 4 G 1004 [(3, .int (nI (7 * k))), (2, .ref (ad E 121)), (1, .ref (ad E 0)), (0, .ref b)] []) : VV p l e room_1 s m #[Value.ref b] below meth c 150 2103 Q E 4 F 569 [(3, .int (nI (7 * k))), (2, .ref (ad E 121)), (1, .ref (ad E 0)), (0, .ref b)] [] := by
  refine v_aload_n (pc := 569) hC dL_law_569 rfl 2 rfl ?_
  refine v_aload_n (pc := 570) hC dL_law_570 rfl 3 rfl ?_
  refine v_iload_n (pc := 571) hC dL_law_571 rfl 0 rfl ?_
  refine v_iconst (pc := 572) (v := 1) hC dL_law_572 (by decide) ?_
  refine v_iadd (pc := 573) hC dL_law_573 ?_
  refine v_sld (pc := 574) hC hX hbl hbA (hin 1 (by decide)) dL_law_574 ?_
  refine v_ci (pc := 575) (r_V (rest := []) hC ml_L_79 mv_X11_from (c_X11_from l E (T_from hk hI)) ⟨rfl, rfl⟩ ⟨Nat.le_of_ble_eq_true rfl, Nat.le_of_ble_eq_true rfl⟩ kq_0 rfl (by decide) rfl rfl (Nat.le_of_ble_eq_true rfl) ⟨Nat.le_of_ble_eq_true rfl, Nat.le_of_ble_eq_true rfl⟩ dL_law_575) (fun r G h => ?_)
  refine v_aload_n (pc := 578) hC dL_law_578 rfl 1 rfl ?_
  refine v_aload_n (pc := 579) hC dL_law_579 rfl 3 rfl ?_
  refine v_iload_n (pc := 580) hC dL_law_580 rfl 0 rfl ?_
  refine v_iconst (pc := 581) (v := 1) hC dL_law_581 (by decide) ?_
  refine v_iadd (pc := 582) hC dL_law_582 ?_
  refine v_sld (pc := 583) hC hX hbl hbA (hin 1 (by decide)) dL_law_583 ?_
  refine v_ci (pc := 584) (r_V (rest := [.int r]) hC ml_L_82 mv_X12_from (c_X12_from l E h) ⟨rfl, rfl⟩ ⟨Nat.le_of_ble_eq_true rfl, Nat.le_of_ble_eq_true rfl⟩ kq_121 rfl (by decide) rfl rfl (Nat.le_of_ble_eq_true rfl) ⟨Nat.le_of_ble_eq_true rfl, Nat.le_of_ble_eq_true rfl⟩ dL_law_584) (fun r' H h => ?_)
  exact v_ic_eq (pc := 587) (tgt := 1004) (A := True) (B := False) hC dL_law_587 (by decide) (ite_tf h.1) (fun _ => kk H h.2) (fun h => h.elim)
theorem lc_16 (hC : CX p s m #[Value.ref b] meth c cL_law RL ret E 4) (hX : va_X b L xs s s.heap) (hbl : b < s.heap.size) (hbA : ¬ gA E b) (hin : ∀ j, j < 7 → vp_in (nI (7 * k) + nI j) L) (hk : k < 2 ^ 20) (hI : Inv k F) (kk : ∀ G, Inv (k + 1) G → VV p l e room_1 s m #[Value.ref b] below meth c 150 2103 Q E 4 G 1004 [(3, .int (nI (7 * k))), (2, .ref (ad E 121)), (1, .ref (ad E 0)), (0, .ref b)] []) : VV p l e room_1 s m #[Value.ref b] below meth c 150 2103 Q E 4 F 592 [(3, .int (nI (7 * k))), (2, .ref (ad E 121)), (1, .ref (ad E 0)), (0, .ref b)] [] := by
  refine v_aload_n (pc := 592) hC dL_law_592 rfl 2 rfl ?_
  refine v_aload_n (pc := 593) hC dL_law_593 rfl 3 rfl ?_
  refine v_iload_n (pc := 594) hC dL_law_594 rfl 0 rfl ?_
  refine v_iconst (pc := 595) (v := 1) hC dL_law_595 (by decide) ?_
  refine v_iadd (pc := 596) hC dL_law_596 ?_
  refine v_sld (pc := 597) hC hX hbl hbA (hin 1 (by decide)) dL_law_597 ?_
  refine v_ci (pc := 598) (r_V (rest := []) hC ml_L_83 mv_X11_dogs (c_X11_dogs l E (T_dogs hk hI)) ⟨rfl, rfl⟩ ⟨Nat.le_of_ble_eq_true rfl, Nat.le_of_ble_eq_true rfl⟩ kq_0 rfl (by decide) rfl rfl (Nat.le_of_ble_eq_true rfl) ⟨Nat.le_of_ble_eq_true rfl, Nat.le_of_ble_eq_true rfl⟩ dL_law_598) (fun r G h => ?_)
  refine v_aload_n (pc := 601) hC dL_law_601 rfl 1 rfl ?_
  refine v_aload_n (pc := 602) hC dL_law_602 rfl 3 rfl ?_
  refine v_iload_n (pc := 603) hC dL_law_603 rfl 0 rfl ?_
  refine v_iconst (pc := 604) (v := 1) hC dL_law_604 (by decide) ?_
  refine v_iadd (pc := 605) hC dL_law_605 ?_
  refine v_sld (pc := 606) hC hX hbl hbA (hin 1 (by decide)) dL_law_606 ?_
  refine v_ci (pc := 607) (r_V (rest := [.int r]) hC ml_L_86 mv_X12_dogs (c_X12_dogs l E h) ⟨rfl, rfl⟩ ⟨Nat.le_of_ble_eq_true rfl, Nat.le_of_ble_eq_true rfl⟩ kq_121 rfl (by decide) rfl rfl (Nat.le_of_ble_eq_true rfl) ⟨Nat.le_of_ble_eq_true rfl, Nat.le_of_ble_eq_true rfl⟩ dL_law_607) (fun r' H h => ?_)
  exact v_ic_eq (pc := 610) (tgt := 1004) (A := True) (B := False) hC dL_law_610 (by decide) (ite_tf h.1) (fun _ => kk H h.2) (fun h => h.elim)
theorem lc_17 (hC : CX p s m #[Value.ref b] meth c cL_law RL ret E 4) (hX : va_X b L xs s s.heap) (hbl : b < s.heap.size) (hbA : ¬ gA E b) (hin : ∀ j, j < 7 → vp_in (nI (7 * k) + nI j) L) (hk : k < 2 ^ 20) (hI : Inv k F) (kk : ∀ G, Inv (k + 1) G → VV p l e room_1 s m #[Value.ref b] below meth c 150 2103 Q E 4 G 1004 [(3, .int (nI (7 * k))), (2, .ref (ad E 121)), (1, .ref (ad E 0)), (0, .ref b)] []) : VV p l e room_1 s m #[Value.ref b] below meth c 150 2103 Q E 4 F 615 [(3, .int (nI (7 * k))), (2, .ref (ad E 121)), (1, .ref (ad E 0)), (0, .ref b)] [] := by
  refine v_aload_n (pc := 615) hC dL_law_615 rfl 2 rfl ?_
  refine v_aload_n (pc := 616) hC dL_law_616 rfl 3 rfl ?_
  refine v_iload_n (pc := 617) hC dL_law_617 rfl 0 rfl ?_
  refine v_iconst (pc := 618) (v := 1) hC dL_law_618 (by decide) ?_
  refine v_iadd (pc := 619) hC dL_law_619 ?_
  refine v_sld (pc := 620) hC hX hbl hbA (hin 1 (by decide)) dL_law_620 ?_
  refine v_ci (pc := 621) (r_V (rest := []) hC ml_L_87 mv_X11_why (c_X11_why l E (T_why hk hI)) ⟨rfl, rfl⟩ ⟨Nat.le_of_ble_eq_true rfl, Nat.le_of_ble_eq_true rfl⟩ kq_0 rfl (by decide) rfl rfl (Nat.le_of_ble_eq_true rfl) ⟨Nat.le_of_ble_eq_true rfl, Nat.le_of_ble_eq_true rfl⟩ dL_law_621) (fun r G h => ?_)
  refine v_aload_n (pc := 624) hC dL_law_624 rfl 1 rfl ?_
  refine v_aload_n (pc := 625) hC dL_law_625 rfl 3 rfl ?_
  refine v_iload_n (pc := 626) hC dL_law_626 rfl 0 rfl ?_
  refine v_iconst (pc := 627) (v := 1) hC dL_law_627 (by decide) ?_
  refine v_iadd (pc := 628) hC dL_law_628 ?_
  refine v_sld (pc := 629) hC hX hbl hbA (hin 1 (by decide)) dL_law_629 ?_
  refine v_ci (pc := 630) (r_V (rest := [.int r]) hC ml_L_90 mv_X12_why (c_X12_why l E h) ⟨rfl, rfl⟩ ⟨Nat.le_of_ble_eq_true rfl, Nat.le_of_ble_eq_true rfl⟩ kq_121 rfl (by decide) rfl rfl (Nat.le_of_ble_eq_true rfl) ⟨Nat.le_of_ble_eq_true rfl, Nat.le_of_ble_eq_true rfl⟩ dL_law_630) (fun r' H h => ?_)
  exact v_ic_eq (pc := 633) (tgt := 1004) (A := True) (B := False) hC dL_law_633 (by decide) (ite_tf h.1) (fun _ => kk H h.2) (fun h => h.elim)
theorem lc_18 (hC : CX p s m #[Value.ref b] meth c cL_law RL ret E 4) (hX : va_X b L xs s s.heap) (hbl : b < s.heap.size) (hbA : ¬ gA E b) (hin : ∀ j, j < 7 → vp_in (nI (7 * k) + nI j) L) (hk : k < 2 ^ 20) (hI : Inv k F) (kk : ∀ G, Inv (k + 1) G → VV p l e room_1 s m #[Value.ref b] below meth c 150 2103 Q E 4 G 1004 [(3, .int (nI (7 * k))), (2, .ref (ad E 121)), (1, .ref (ad E 0)), (0, .ref b)] []) : VV p l e room_1 s m #[Value.ref b] below meth c 150 2103 Q E 4 F 638 [(3, .int (nI (7 * k))), (2, .ref (ad E 121)), (1, .ref (ad E 0)), (0, .ref b)] [] := by
  refine v_aload_n (pc := 638) hC dL_law_638 rfl 2 rfl ?_
  refine v_aload_n (pc := 639) hC dL_law_639 rfl 3 rfl ?_
  refine v_iload_n (pc := 640) hC dL_law_640 rfl 0 rfl ?_
  refine v_iconst (pc := 641) (v := 1) hC dL_law_641 (by decide) ?_
  refine v_iadd (pc := 642) hC dL_law_642 ?_
  refine v_sld (pc := 643) hC hX hbl hbA (hin 1 (by decide)) dL_law_643 ?_
  refine v_aload_n (pc := 644) hC dL_law_644 rfl 3 rfl ?_
  refine v_iload_n (pc := 645) hC dL_law_645 rfl 0 rfl ?_
  refine v_iconst (pc := 646) (v := 2) hC dL_law_646 (by decide) ?_
  refine v_iadd (pc := 647) hC dL_law_647 ?_
  refine v_sld (pc := 648) hC hX hbl hbA (hin 2 (by decide)) dL_law_648 ?_
  refine v_aload_n (pc := 649) hC dL_law_649 rfl 3 rfl ?_
  refine v_iload_n (pc := 650) hC dL_law_650 rfl 0 rfl ?_
  refine v_iconst (pc := 651) (v := 3) hC dL_law_651 (by decide) ?_
  refine v_iadd (pc := 652) hC dL_law_652 ?_
  refine v_sld (pc := 653) hC hX hbl hbA (hin 3 (by decide)) dL_law_653 ?_
  refine v_ci (pc := 654) (r_V (rest := []) hC ml_L_91 mv_X11_bestFire (c_X11_bestFire l E (T_bestFire hk hI)) ⟨rfl, rfl⟩ ⟨Nat.le_of_ble_eq_true rfl, Nat.le_of_ble_eq_true rfl⟩ kq_0 rfl (by decide) rfl rfl (Nat.le_of_ble_eq_true rfl) ⟨Nat.le_of_ble_eq_true rfl, Nat.le_of_ble_eq_true rfl⟩ dL_law_654) (fun r G h => ?_)
  refine v_aload_n (pc := 657) hC dL_law_657 rfl 1 rfl ?_
  refine v_aload_n (pc := 658) hC dL_law_658 rfl 3 rfl ?_
  refine v_iload_n (pc := 659) hC dL_law_659 rfl 0 rfl ?_
  refine v_iconst (pc := 660) (v := 1) hC dL_law_660 (by decide) ?_
  refine v_iadd (pc := 661) hC dL_law_661 ?_
  refine v_sld (pc := 662) hC hX hbl hbA (hin 1 (by decide)) dL_law_662 ?_
  refine v_aload_n (pc := 663) hC dL_law_663 rfl 3 rfl ?_
  refine v_iload_n (pc := 664) hC dL_law_664 rfl 0 rfl ?_
  refine v_iconst (pc := 665) (v := 2) hC dL_law_665 (by decide) ?_
  refine v_iadd (pc := 666) hC dL_law_666 ?_
  refine v_sld (pc := 667) hC hX hbl hbA (hin 2 (by decide)) dL_law_667 ?_
  refine v_aload_n (pc := 668) hC dL_law_668 rfl 3 rfl ?_
  refine v_iload_n (pc := 669) hC dL_law_669 rfl 0 rfl ?_
  refine v_iconst (pc := 670) (v := 3) hC dL_law_670 (by decide) ?_
  refine v_iadd (pc := 671) hC dL_law_671 ?_
  refine v_sld (pc := 672) hC hX hbl hbA (hin 3 (by decide)) dL_law_672 ?_
  refine v_ci (pc := 673) (r_V (rest := [.int r]) hC ml_L_95 mv_X12_bestFire (c_X12_bestFire l E h) ⟨rfl, rfl⟩ ⟨Nat.le_of_ble_eq_true rfl, Nat.le_of_ble_eq_true rfl⟩ kq_121 rfl (by decide) rfl rfl (Nat.le_of_ble_eq_true rfl) ⟨Nat.le_of_ble_eq_true rfl, Nat.le_of_ble_eq_true rfl⟩ dL_law_673) (fun r' H h => ?_)
  exact v_ic_eq (pc := 676) (tgt := 1004) (A := True) (B := False) hC dL_law_676 (by decide) (ite_tf h.1) (fun _ => kk H h.2) (fun h => h.elim)
theorem lc_19 (hC : CX p s m #[Value.ref b] meth c cL_law RL ret E 4) (hX : va_X b L xs s s.heap) (hbl : b < s.heap.size) (hbA : ¬ gA E b) (hin : ∀ j, j < 7 → vp_in (nI (7 * k) + nI j) L) (hk : k < 2 ^ 20) (hI : Inv k F) (kk : ∀ G, Inv (k + 1) G → VV p l e room_1 s m #[Value.ref b] below meth c 150 2103 Q E 4 G 1004 [(3, .int (nI (7 * k))), (2, .ref (ad E 121)), (1, .ref (ad E 0)), (0, .ref b)] []) : VV p l e room_1 s m #[Value.ref b] below meth c 150 2103 Q E 4 F 681 [(3, .int (nI (7 * k))), (2, .ref (ad E 121)), (1, .ref (ad E 0)), (0, .ref b)] [] := by
  refine v_aload_n (pc := 681) hC dL_law_681 rfl 2 rfl ?_
  refine v_aload_n (pc := 682) hC dL_law_682 rfl 3 rfl ?_
  refine v_iload_n (pc := 683) hC dL_law_683 rfl 0 rfl ?_
  refine v_iconst (pc := 684) (v := 1) hC dL_law_684 (by decide) ?_
  refine v_iadd (pc := 685) hC dL_law_685 ?_
  refine v_sld (pc := 686) hC hX hbl hbA (hin 1 (by decide)) dL_law_686 ?_
  refine v_aload_n (pc := 687) hC dL_law_687 rfl 3 rfl ?_
  refine v_iload_n (pc := 688) hC dL_law_688 rfl 0 rfl ?_
  refine v_iconst (pc := 689) (v := 2) hC dL_law_689 (by decide) ?_
  refine v_iadd (pc := 690) hC dL_law_690 ?_
  refine v_sld (pc := 691) hC hX hbl hbA (hin 2 (by decide)) dL_law_691 ?_
  refine v_aload_n (pc := 692) hC dL_law_692 rfl 3 rfl ?_
  refine v_iload_n (pc := 693) hC dL_law_693 rfl 0 rfl ?_
  refine v_iconst (pc := 694) (v := 3) hC dL_law_694 (by decide) ?_
  refine v_iadd (pc := 695) hC dL_law_695 ?_
  refine v_sld (pc := 696) hC hX hbl hbA (hin 3 (by decide)) dL_law_696 ?_
  refine v_ci (pc := 697) (r_V (rest := []) hC ml_L_96 mv_X11_bestSwing (c_X11_bestSwing l E (T_bestSwing hk hI)) ⟨rfl, rfl⟩ ⟨Nat.le_of_ble_eq_true rfl, Nat.le_of_ble_eq_true rfl⟩ kq_0 rfl (by decide) rfl rfl (Nat.le_of_ble_eq_true rfl) ⟨Nat.le_of_ble_eq_true rfl, Nat.le_of_ble_eq_true rfl⟩ dL_law_697) (fun r G h => ?_)
  refine v_aload_n (pc := 700) hC dL_law_700 rfl 1 rfl ?_
  refine v_aload_n (pc := 701) hC dL_law_701 rfl 3 rfl ?_
  refine v_iload_n (pc := 702) hC dL_law_702 rfl 0 rfl ?_
  refine v_iconst (pc := 703) (v := 1) hC dL_law_703 (by decide) ?_
  refine v_iadd (pc := 704) hC dL_law_704 ?_
  refine v_sld (pc := 705) hC hX hbl hbA (hin 1 (by decide)) dL_law_705 ?_
  refine v_aload_n (pc := 706) hC dL_law_706 rfl 3 rfl ?_
  refine v_iload_n (pc := 707) hC dL_law_707 rfl 0 rfl ?_
  refine v_iconst (pc := 708) (v := 2) hC dL_law_708 (by decide) ?_
  refine v_iadd (pc := 709) hC dL_law_709 ?_
  refine v_sld (pc := 710) hC hX hbl hbA (hin 2 (by decide)) dL_law_710 ?_
  refine v_aload_n (pc := 711) hC dL_law_711 rfl 3 rfl ?_
  refine v_iload_n (pc := 712) hC dL_law_712 rfl 0 rfl ?_
  refine v_iconst (pc := 713) (v := 3) hC dL_law_713 (by decide) ?_
  refine v_iadd (pc := 714) hC dL_law_714 ?_
  refine v_sld (pc := 715) hC hX hbl hbA (hin 3 (by decide)) dL_law_715 ?_
  refine v_ci (pc := 716) (r_V (rest := [.int r]) hC ml_L_99 mv_X12_bestSwing (c_X12_bestSwing l E h) ⟨rfl, rfl⟩ ⟨Nat.le_of_ble_eq_true rfl, Nat.le_of_ble_eq_true rfl⟩ kq_121 rfl (by decide) rfl rfl (Nat.le_of_ble_eq_true rfl) ⟨Nat.le_of_ble_eq_true rfl, Nat.le_of_ble_eq_true rfl⟩ dL_law_716) (fun r' H h => ?_)
  exact v_ic_eq (pc := 719) (tgt := 1004) (A := True) (B := False) hC dL_law_719 (by decide) (ite_tf h.1) (fun _ => kk H h.2) (fun h => h.elim)
theorem lc_20 (hC : CX p s m #[Value.ref b] meth c cL_law RL ret E 4) (hX : va_X b L xs s s.heap) (hbl : b < s.heap.size) (hbA : ¬ gA E b) (hin : ∀ j, j < 7 → vp_in (nI (7 * k) + nI j) L) (hk : k < 2 ^ 20) (hI : Inv k F) (kk : ∀ G, Inv (k + 1) G → VV p l e room_1 s m #[Value.ref b] below meth c 150 2103 Q E 4 G 1004 [(3, .int (nI (7 * k))), (2, .ref (ad E 121)), (1, .ref (ad E 0)), (0, .ref b)] []) : VV p l e room_1 s m #[Value.ref b] below meth c 150 2103 Q E 4 F 724 [(3, .int (nI (7 * k))), (2, .ref (ad E 121)), (1, .ref (ad E 0)), (0, .ref b)] [] := by
  refine v_aload_n (pc := 724) hC dL_law_724 rfl 2 rfl ?_
  refine v_aload_n (pc := 725) hC dL_law_725 rfl 3 rfl ?_
  refine v_iload_n (pc := 726) hC dL_law_726 rfl 0 rfl ?_
  refine v_iconst (pc := 727) (v := 1) hC dL_law_727 (by decide) ?_
  refine v_iadd (pc := 728) hC dL_law_728 ?_
  refine v_sld (pc := 729) hC hX hbl hbA (hin 1 (by decide)) dL_law_729 ?_
  refine v_ci (pc := 730) (r_V (rest := []) hC ml_L_100 mv_X11_nextTwo (c_X11_nextTwo l E (T_nextTwo hk hI)) ⟨rfl, rfl⟩ ⟨Nat.le_of_ble_eq_true rfl, Nat.le_of_ble_eq_true rfl⟩ kq_0 rfl (by decide) rfl rfl (Nat.le_of_ble_eq_true rfl) ⟨Nat.le_of_ble_eq_true rfl, Nat.le_of_ble_eq_true rfl⟩ dL_law_730) (fun r G h => ?_)
  refine v_aload_n (pc := 733) hC dL_law_733 rfl 1 rfl ?_
  refine v_aload_n (pc := 734) hC dL_law_734 rfl 3 rfl ?_
  refine v_iload_n (pc := 735) hC dL_law_735 rfl 0 rfl ?_
  refine v_iconst (pc := 736) (v := 1) hC dL_law_736 (by decide) ?_
  refine v_iadd (pc := 737) hC dL_law_737 ?_
  refine v_sld (pc := 738) hC hX hbl hbA (hin 1 (by decide)) dL_law_738 ?_
  refine v_ci (pc := 739) (r_V (rest := [.int r]) hC ml_L_103 mv_X12_nextTwo (c_X12_nextTwo l E h) ⟨rfl, rfl⟩ ⟨Nat.le_of_ble_eq_true rfl, Nat.le_of_ble_eq_true rfl⟩ kq_121 rfl (by decide) rfl rfl (Nat.le_of_ble_eq_true rfl) ⟨Nat.le_of_ble_eq_true rfl, Nat.le_of_ble_eq_true rfl⟩ dL_law_739) (fun r' H h => ?_)
  exact v_ic_eq (pc := 742) (tgt := 1004) (A := True) (B := False) hC dL_law_742 (by decide) (ite_tf h.1) (fun _ => kk H h.2) (fun h => h.elim)
theorem lc_21 (hC : CX p s m #[Value.ref b] meth c cL_law RL ret E 4) (hX : va_X b L xs s s.heap) (hbl : b < s.heap.size) (hbA : ¬ gA E b) (hin : ∀ j, j < 7 → vp_in (nI (7 * k) + nI j) L) (hk : k < 2 ^ 20) (hI : Inv k F) (kk : ∀ G, Inv (k + 1) G → VV p l e room_1 s m #[Value.ref b] below meth c 150 2103 Q E 4 G 1004 [(3, .int (nI (7 * k))), (2, .ref (ad E 121)), (1, .ref (ad E 0)), (0, .ref b)] []) : VV p l e room_1 s m #[Value.ref b] below meth c 150 2103 Q E 4 F 747 [(3, .int (nI (7 * k))), (2, .ref (ad E 121)), (1, .ref (ad E 0)), (0, .ref b)] [] := by
  refine v_aload_n (pc := 747) hC dL_law_747 rfl 2 rfl ?_
  refine v_aload_n (pc := 748) hC dL_law_748 rfl 3 rfl ?_
  refine v_iload_n (pc := 749) hC dL_law_749 rfl 0 rfl ?_
  refine v_iconst (pc := 750) (v := 1) hC dL_law_750 (by decide) ?_
  refine v_iadd (pc := 751) hC dL_law_751 ?_
  refine v_sld (pc := 752) hC hX hbl hbA (hin 1 (by decide)) dL_law_752 ?_
  refine v_aload_n (pc := 753) hC dL_law_753 rfl 3 rfl ?_
  refine v_iload_n (pc := 754) hC dL_law_754 rfl 0 rfl ?_
  refine v_iconst (pc := 755) (v := 2) hC dL_law_755 (by decide) ?_
  refine v_iadd (pc := 756) hC dL_law_756 ?_
  refine v_sld (pc := 757) hC hX hbl hbA (hin 2 (by decide)) dL_law_757 ?_
  refine v_aload_n (pc := 758) hC dL_law_758 rfl 3 rfl ?_
  refine v_iload_n (pc := 759) hC dL_law_759 rfl 0 rfl ?_
  refine v_iconst (pc := 760) (v := 3) hC dL_law_760 (by decide) ?_
  refine v_iadd (pc := 761) hC dL_law_761 ?_
  refine v_sld (pc := 762) hC hX hbl hbA (hin 3 (by decide)) dL_law_762 ?_
  refine v_aload_n (pc := 763) hC dL_law_763 rfl 3 rfl ?_
  refine v_iload_n (pc := 764) hC dL_law_764 rfl 0 rfl ?_
  refine v_iconst (pc := 765) (v := 4) hC dL_law_765 (by decide) ?_
  refine v_iadd (pc := 766) hC dL_law_766 ?_
  refine v_sld (pc := 767) hC hX hbl hbA (hin 4 (by decide)) dL_law_767 ?_
  refine v_aload_n (pc := 768) hC dL_law_768 rfl 3 rfl ?_
  refine v_iload_n (pc := 769) hC dL_law_769 rfl 0 rfl ?_
  refine v_iconst (pc := 770) (v := 5) hC dL_law_770 (by decide) ?_
  refine v_iadd (pc := 771) hC dL_law_771 ?_
  refine v_sld (pc := 772) hC hX hbl hbA (hin 5 (by decide)) dL_law_772 ?_
  refine v_aload_n (pc := 773) hC dL_law_773 rfl 3 rfl ?_
  refine v_iload_n (pc := 774) hC dL_law_774 rfl 0 rfl ?_
  refine v_bipush (pc := 775) (v := 6) hC dL_law_775 (by decide) ?_
  refine v_iadd (pc := 777) hC dL_law_777 ?_
  refine v_sld (pc := 778) hC hX hbl hbA (hin 6 (by decide)) dL_law_778 ?_
  refine v_ci (pc := 779) (r_V (rest := []) hC ml_L_104 mv_X11_rounds (c_X11_rounds l E (T_rounds hI)) ⟨rfl, rfl⟩ ⟨Nat.le_of_ble_eq_true rfl, Nat.le_of_ble_eq_true rfl⟩ kq_0 rfl (by decide) rfl rfl (Nat.le_of_ble_eq_true rfl) ⟨Nat.le_of_ble_eq_true rfl, Nat.le_of_ble_eq_true rfl⟩ dL_law_779) (fun r G h => ?_)
  refine v_aload_n (pc := 782) hC dL_law_782 rfl 1 rfl ?_
  refine v_aload_n (pc := 783) hC dL_law_783 rfl 3 rfl ?_
  refine v_iload_n (pc := 784) hC dL_law_784 rfl 0 rfl ?_
  refine v_iconst (pc := 785) (v := 1) hC dL_law_785 (by decide) ?_
  refine v_iadd (pc := 786) hC dL_law_786 ?_
  refine v_sld (pc := 787) hC hX hbl hbA (hin 1 (by decide)) dL_law_787 ?_
  refine v_aload_n (pc := 788) hC dL_law_788 rfl 3 rfl ?_
  refine v_iload_n (pc := 789) hC dL_law_789 rfl 0 rfl ?_
  refine v_iconst (pc := 790) (v := 2) hC dL_law_790 (by decide) ?_
  refine v_iadd (pc := 791) hC dL_law_791 ?_
  refine v_sld (pc := 792) hC hX hbl hbA (hin 2 (by decide)) dL_law_792 ?_
  refine v_aload_n (pc := 793) hC dL_law_793 rfl 3 rfl ?_
  refine v_iload_n (pc := 794) hC dL_law_794 rfl 0 rfl ?_
  refine v_iconst (pc := 795) (v := 3) hC dL_law_795 (by decide) ?_
  refine v_iadd (pc := 796) hC dL_law_796 ?_
  refine v_sld (pc := 797) hC hX hbl hbA (hin 3 (by decide)) dL_law_797 ?_
  refine v_aload_n (pc := 798) hC dL_law_798 rfl 3 rfl ?_
  refine v_iload_n (pc := 799) hC dL_law_799 rfl 0 rfl ?_
  refine v_iconst (pc := 800) (v := 4) hC dL_law_800 (by decide) ?_
  refine v_iadd (pc := 801) hC dL_law_801 ?_
  refine v_sld (pc := 802) hC hX hbl hbA (hin 4 (by decide)) dL_law_802 ?_
  refine v_aload_n (pc := 803) hC dL_law_803 rfl 3 rfl ?_
  refine v_iload_n (pc := 804) hC dL_law_804 rfl 0 rfl ?_
  refine v_iconst (pc := 805) (v := 5) hC dL_law_805 (by decide) ?_
  refine v_iadd (pc := 806) hC dL_law_806 ?_
  refine v_sld (pc := 807) hC hX hbl hbA (hin 5 (by decide)) dL_law_807 ?_
  refine v_aload_n (pc := 808) hC dL_law_808 rfl 3 rfl ?_
  refine v_iload_n (pc := 809) hC dL_law_809 rfl 0 rfl ?_
  refine v_bipush (pc := 810) (v := 6) hC dL_law_810 (by decide) ?_
  refine v_iadd (pc := 812) hC dL_law_812 ?_
  refine v_sld (pc := 813) hC hX hbl hbA (hin 6 (by decide)) dL_law_813 ?_
  refine v_ci (pc := 814) (r_V (rest := [.int r]) hC ml_L_108 mv_X12_rounds (c_X12_rounds l E h) ⟨rfl, rfl⟩ ⟨Nat.le_of_ble_eq_true rfl, Nat.le_of_ble_eq_true rfl⟩ kq_121 rfl (by decide) rfl rfl (Nat.le_of_ble_eq_true rfl) ⟨Nat.le_of_ble_eq_true rfl, Nat.le_of_ble_eq_true rfl⟩ dL_law_814) (fun r' H h => ?_)
  exact v_ic_eq (pc := 817) (tgt := 1004) (A := True) (B := False) hC dL_law_817 (by decide) (ite_tf h.1) (fun _ => kk H h.2) (fun h => h.elim)
theorem lc_22 (hC : CX p s m #[Value.ref b] meth c cL_law RL ret E 4) (hX : va_X b L xs s s.heap) (hbl : b < s.heap.size) (hbA : ¬ gA E b) (hin : ∀ j, j < 7 → vp_in (nI (7 * k) + nI j) L) (hk : k < 2 ^ 20) (hI : Inv k F) (kk : ∀ G, Inv (k + 1) G → VV p l e room_1 s m #[Value.ref b] below meth c 150 2103 Q E 4 G 1004 [(3, .int (nI (7 * k))), (2, .ref (ad E 121)), (1, .ref (ad E 0)), (0, .ref b)] []) : VV p l e room_1 s m #[Value.ref b] below meth c 150 2103 Q E 4 F 822 [(3, .int (nI (7 * k))), (2, .ref (ad E 121)), (1, .ref (ad E 0)), (0, .ref b)] [] := by
  refine v_aload_n (pc := 822) hC dL_law_822 rfl 2 rfl ?_
  refine v_aload_n (pc := 823) hC dL_law_823 rfl 3 rfl ?_
  refine v_iload_n (pc := 824) hC dL_law_824 rfl 0 rfl ?_
  refine v_iconst (pc := 825) (v := 1) hC dL_law_825 (by decide) ?_
  refine v_iadd (pc := 826) hC dL_law_826 ?_
  refine v_sld (pc := 827) hC hX hbl hbA (hin 1 (by decide)) dL_law_827 ?_
  refine v_aload_n (pc := 828) hC dL_law_828 rfl 3 rfl ?_
  refine v_iload_n (pc := 829) hC dL_law_829 rfl 0 rfl ?_
  refine v_iconst (pc := 830) (v := 2) hC dL_law_830 (by decide) ?_
  refine v_iadd (pc := 831) hC dL_law_831 ?_
  refine v_sld (pc := 832) hC hX hbl hbA (hin 2 (by decide)) dL_law_832 ?_
  refine v_cip (pc := 833) (r_V (rest := []) hC ml_L_109 mv_X11_toss (c_X11_toss l E T_toss) ⟨rfl, rfl⟩ ⟨Nat.le_of_ble_eq_true rfl, Nat.le_of_ble_eq_true rfl⟩ kq_0 rfl (by decide) rfl rfl (Nat.le_of_ble_eq_true rfl) ⟨Nat.le_of_ble_eq_true rfl, Nat.le_of_ble_eq_true rfl⟩ dL_law_833) (fun r h => ?_)
  refine v_aload_n (pc := 836) hC dL_law_836 rfl 1 rfl ?_
  refine v_aload_n (pc := 837) hC dL_law_837 rfl 3 rfl ?_
  refine v_iload_n (pc := 838) hC dL_law_838 rfl 0 rfl ?_
  refine v_iconst (pc := 839) (v := 1) hC dL_law_839 (by decide) ?_
  refine v_iadd (pc := 840) hC dL_law_840 ?_
  refine v_sld (pc := 841) hC hX hbl hbA (hin 1 (by decide)) dL_law_841 ?_
  refine v_aload_n (pc := 842) hC dL_law_842 rfl 3 rfl ?_
  refine v_iload_n (pc := 843) hC dL_law_843 rfl 0 rfl ?_
  refine v_iconst (pc := 844) (v := 2) hC dL_law_844 (by decide) ?_
  refine v_iadd (pc := 845) hC dL_law_845 ?_
  refine v_sld (pc := 846) hC hX hbl hbA (hin 2 (by decide)) dL_law_846 ?_
  refine v_cip (pc := 847) (r_V (rest := [.int r]) hC ml_L_112 mv_X12_toss (c_X12_toss l E h) ⟨rfl, rfl⟩ ⟨Nat.le_of_ble_eq_true rfl, Nat.le_of_ble_eq_true rfl⟩ kq_121 rfl (by decide) rfl rfl (Nat.le_of_ble_eq_true rfl) ⟨Nat.le_of_ble_eq_true rfl, Nat.le_of_ble_eq_true rfl⟩ dL_law_847) (fun r' h => ?_)
  exact v_ic_eq (pc := 850) (tgt := 1004) (A := True) (B := False) hC dL_law_850 (by decide) (ite_tf h) (fun _ => kk F (Inv_s hI)) (fun h => h.elim)
theorem lc_23 (hC : CX p s m #[Value.ref b] meth c cL_law RL ret E 4) (hX : va_X b L xs s s.heap) (hbl : b < s.heap.size) (hbA : ¬ gA E b) (hin : ∀ j, j < 7 → vp_in (nI (7 * k) + nI j) L) (hk : k < 2 ^ 20) (hI : Inv k F) (kk : ∀ G, Inv (k + 1) G → VV p l e room_1 s m #[Value.ref b] below meth c 150 2103 Q E 4 G 1004 [(3, .int (nI (7 * k))), (2, .ref (ad E 121)), (1, .ref (ad E 0)), (0, .ref b)] []) : VV p l e room_1 s m #[Value.ref b] below meth c 150 2103 Q E 4 F 855 [(3, .int (nI (7 * k))), (2, .ref (ad E 121)), (1, .ref (ad E 0)), (0, .ref b)] [] := by
  refine v_aload_n (pc := 855) hC dL_law_855 rfl 2 rfl ?_
  refine v_aload_n (pc := 856) hC dL_law_856 rfl 3 rfl ?_
  refine v_iload_n (pc := 857) hC dL_law_857 rfl 0 rfl ?_
  refine v_iconst (pc := 858) (v := 1) hC dL_law_858 (by decide) ?_
  refine v_iadd (pc := 859) hC dL_law_859 ?_
  refine v_sld (pc := 860) hC hX hbl hbA (hin 1 (by decide)) dL_law_860 ?_
  refine v_aload_n (pc := 861) hC dL_law_861 rfl 3 rfl ?_
  refine v_iload_n (pc := 862) hC dL_law_862 rfl 0 rfl ?_
  refine v_iconst (pc := 863) (v := 2) hC dL_law_863 (by decide) ?_
  refine v_iadd (pc := 864) hC dL_law_864 ?_
  refine v_sld (pc := 865) hC hX hbl hbA (hin 2 (by decide)) dL_law_865 ?_
  refine v_aload_n (pc := 866) hC dL_law_866 rfl 3 rfl ?_
  refine v_iload_n (pc := 867) hC dL_law_867 rfl 0 rfl ?_
  refine v_iconst (pc := 868) (v := 3) hC dL_law_868 (by decide) ?_
  refine v_iadd (pc := 869) hC dL_law_869 ?_
  refine v_sld (pc := 870) hC hX hbl hbA (hin 3 (by decide)) dL_law_870 ?_
  refine v_aload_n (pc := 871) hC dL_law_871 rfl 3 rfl ?_
  refine v_iload_n (pc := 872) hC dL_law_872 rfl 0 rfl ?_
  refine v_iconst (pc := 873) (v := 4) hC dL_law_873 (by decide) ?_
  refine v_iadd (pc := 874) hC dL_law_874 ?_
  refine v_sld (pc := 875) hC hX hbl hbA (hin 4 (by decide)) dL_law_875 ?_
  refine v_cip (pc := 876) (r_V (rest := []) hC ml_L_113 mv_X11_lands (c_X11_lands l E T_lands) ⟨rfl, rfl⟩ ⟨Nat.le_of_ble_eq_true rfl, Nat.le_of_ble_eq_true rfl⟩ kq_0 rfl (by decide) rfl rfl (Nat.le_of_ble_eq_true rfl) ⟨Nat.le_of_ble_eq_true rfl, Nat.le_of_ble_eq_true rfl⟩ dL_law_876) (fun r h => ?_)
  refine v_aload_n (pc := 879) hC dL_law_879 rfl 1 rfl ?_
  refine v_aload_n (pc := 880) hC dL_law_880 rfl 3 rfl ?_
  refine v_iload_n (pc := 881) hC dL_law_881 rfl 0 rfl ?_
  refine v_iconst (pc := 882) (v := 1) hC dL_law_882 (by decide) ?_
  refine v_iadd (pc := 883) hC dL_law_883 ?_
  refine v_sld (pc := 884) hC hX hbl hbA (hin 1 (by decide)) dL_law_884 ?_
  refine v_aload_n (pc := 885) hC dL_law_885 rfl 3 rfl ?_
  refine v_iload_n (pc := 886) hC dL_law_886 rfl 0 rfl ?_
  refine v_iconst (pc := 887) (v := 2) hC dL_law_887 (by decide) ?_
  refine v_iadd (pc := 888) hC dL_law_888 ?_
  refine v_sld (pc := 889) hC hX hbl hbA (hin 2 (by decide)) dL_law_889 ?_
  refine v_aload_n (pc := 890) hC dL_law_890 rfl 3 rfl ?_
  refine v_iload_n (pc := 891) hC dL_law_891 rfl 0 rfl ?_
  refine v_iconst (pc := 892) (v := 3) hC dL_law_892 (by decide) ?_
  refine v_iadd (pc := 893) hC dL_law_893 ?_
  refine v_sld (pc := 894) hC hX hbl hbA (hin 3 (by decide)) dL_law_894 ?_
  refine v_aload_n (pc := 895) hC dL_law_895 rfl 3 rfl ?_
  refine v_iload_n (pc := 896) hC dL_law_896 rfl 0 rfl ?_
  refine v_iconst (pc := 897) (v := 4) hC dL_law_897 (by decide) ?_
  refine v_iadd (pc := 898) hC dL_law_898 ?_
  refine v_sld (pc := 899) hC hX hbl hbA (hin 4 (by decide)) dL_law_899 ?_
  refine v_cip (pc := 900) (r_V (rest := [.int r]) hC ml_L_117 mv_X12_lands (c_X12_lands l E h) ⟨rfl, rfl⟩ ⟨Nat.le_of_ble_eq_true rfl, Nat.le_of_ble_eq_true rfl⟩ kq_121 rfl (by decide) rfl rfl (Nat.le_of_ble_eq_true rfl) ⟨Nat.le_of_ble_eq_true rfl, Nat.le_of_ble_eq_true rfl⟩ dL_law_900) (fun r' h => ?_)
  exact v_ic_eq (pc := 903) (tgt := 1004) (A := True) (B := False) hC dL_law_903 (by decide) (ite_tf h) (fun _ => kk F (Inv_s hI)) (fun h => h.elim)
theorem lc_24 (hC : CX p s m #[Value.ref b] meth c cL_law RL ret E 4) (hX : va_X b L xs s s.heap) (hbl : b < s.heap.size) (hbA : ¬ gA E b) (hin : ∀ j, j < 7 → vp_in (nI (7 * k) + nI j) L) (hk : k < 2 ^ 20) (hI : Inv k F) (kk : ∀ G, Inv (k + 1) G → VV p l e room_1 s m #[Value.ref b] below meth c 150 2103 Q E 4 G 1004 [(3, .int (nI (7 * k))), (2, .ref (ad E 121)), (1, .ref (ad E 0)), (0, .ref b)] []) : VV p l e room_1 s m #[Value.ref b] below meth c 150 2103 Q E 4 F 908 [(3, .int (nI (7 * k))), (2, .ref (ad E 121)), (1, .ref (ad E 0)), (0, .ref b)] [] := by
  refine v_aload_n (pc := 908) hC dL_law_908 rfl 2 rfl ?_
  refine v_aload_n (pc := 909) hC dL_law_909 rfl 3 rfl ?_
  refine v_iload_n (pc := 910) hC dL_law_910 rfl 0 rfl ?_
  refine v_iconst (pc := 911) (v := 1) hC dL_law_911 (by decide) ?_
  refine v_iadd (pc := 912) hC dL_law_912 ?_
  refine v_sld (pc := 913) hC hX hbl hbA (hin 1 (by decide)) dL_law_913 ?_
  refine v_aload_n (pc := 914) hC dL_law_914 rfl 3 rfl ?_
  refine v_iload_n (pc := 915) hC dL_law_915 rfl 0 rfl ?_
  refine v_iconst (pc := 916) (v := 2) hC dL_law_916 (by decide) ?_
  refine v_iadd (pc := 917) hC dL_law_917 ?_
  refine v_sld (pc := 918) hC hX hbl hbA (hin 2 (by decide)) dL_law_918 ?_
  refine v_cip (pc := 919) (r_V (rest := []) hC ml_L_118 mv_X11_bestSpin (c_X11_bestSpin l E T_bestSpin) ⟨rfl, rfl⟩ ⟨Nat.le_of_ble_eq_true rfl, Nat.le_of_ble_eq_true rfl⟩ kq_0 rfl (by decide) rfl rfl (Nat.le_of_ble_eq_true rfl) ⟨Nat.le_of_ble_eq_true rfl, Nat.le_of_ble_eq_true rfl⟩ dL_law_919) (fun r h => ?_)
  refine v_aload_n (pc := 922) hC dL_law_922 rfl 1 rfl ?_
  refine v_aload_n (pc := 923) hC dL_law_923 rfl 3 rfl ?_
  refine v_iload_n (pc := 924) hC dL_law_924 rfl 0 rfl ?_
  refine v_iconst (pc := 925) (v := 1) hC dL_law_925 (by decide) ?_
  refine v_iadd (pc := 926) hC dL_law_926 ?_
  refine v_sld (pc := 927) hC hX hbl hbA (hin 1 (by decide)) dL_law_927 ?_
  refine v_aload_n (pc := 928) hC dL_law_928 rfl 3 rfl ?_
  refine v_iload_n (pc := 929) hC dL_law_929 rfl 0 rfl ?_
  refine v_iconst (pc := 930) (v := 2) hC dL_law_930 (by decide) ?_
  refine v_iadd (pc := 931) hC dL_law_931 ?_
  refine v_sld (pc := 932) hC hX hbl hbA (hin 2 (by decide)) dL_law_932 ?_
  refine v_cip (pc := 933) (r_V (rest := [.int r]) hC ml_L_121 mv_X12_bestSpin (c_X12_bestSpin l E h) ⟨rfl, rfl⟩ ⟨Nat.le_of_ble_eq_true rfl, Nat.le_of_ble_eq_true rfl⟩ kq_121 rfl (by decide) rfl rfl (Nat.le_of_ble_eq_true rfl) ⟨Nat.le_of_ble_eq_true rfl, Nat.le_of_ble_eq_true rfl⟩ dL_law_933) (fun r' h => ?_)
  exact v_ic_eq (pc := 936) (tgt := 1004) (A := True) (B := False) hC dL_law_936 (by decide) (ite_tf h) (fun _ => kk F (Inv_s hI)) (fun h => h.elim)
theorem lc_25 (hC : CX p s m #[Value.ref b] meth c cL_law RL ret E 4) (hX : va_X b L xs s s.heap) (hbl : b < s.heap.size) (hbA : ¬ gA E b) (hin : ∀ j, j < 7 → vp_in (nI (7 * k) + nI j) L) (hk : k < 2 ^ 20) (hI : Inv k F) (kk : ∀ G, Inv (k + 1) G → VV p l e room_1 s m #[Value.ref b] below meth c 150 2103 Q E 4 G 1004 [(3, .int (nI (7 * k))), (2, .ref (ad E 121)), (1, .ref (ad E 0)), (0, .ref b)] []) : VV p l e room_1 s m #[Value.ref b] below meth c 150 2103 Q E 4 F 941 [(3, .int (nI (7 * k))), (2, .ref (ad E 121)), (1, .ref (ad E 0)), (0, .ref b)] [] := by
  refine v_aload_n (pc := 941) hC dL_law_941 rfl 2 rfl ?_
  refine v_ci (pc := 942) (r_V (rest := []) hC ml_L_122 mv_X11_image (c_X11_image l E (T_image hk hI)) ⟨rfl, rfl⟩ ⟨Nat.le_of_ble_eq_true rfl, Nat.le_of_ble_eq_true rfl⟩ kq_0 rfl (by decide) rfl rfl (Nat.le_of_ble_eq_true rfl) ⟨Nat.le_of_ble_eq_true rfl, Nat.le_of_ble_eq_true rfl⟩ dL_law_942) (fun r G h => ?_)
  refine v_aload_n (pc := 945) hC dL_law_945 rfl 1 rfl ?_
  refine v_ci (pc := 946) (r_V (rest := [.int r]) hC ml_L_125 mv_X12_image (c_X12_image l E h) ⟨rfl, rfl⟩ ⟨Nat.le_of_ble_eq_true rfl, Nat.le_of_ble_eq_true rfl⟩ kq_121 rfl (by decide) rfl rfl (Nat.le_of_ble_eq_true rfl) ⟨Nat.le_of_ble_eq_true rfl, Nat.le_of_ble_eq_true rfl⟩ dL_law_946) (fun r' H h => ?_)
  exact v_ic_eq (pc := 949) (tgt := 1004) (A := True) (B := False) hC dL_law_949 (by decide) (ite_tf h.1) (fun _ => kk H h.2) (fun h => h.elim)
theorem lc_26 (hC : CX p s m #[Value.ref b] meth c cL_law RL ret E 4) (hX : va_X b L xs s s.heap) (hbl : b < s.heap.size) (hbA : ¬ gA E b) (hin : ∀ j, j < 7 → vp_in (nI (7 * k) + nI j) L) (hk : k < 2 ^ 20) (hI : Inv k F) (kk : ∀ G, Inv (k + 1) G → VV p l e room_1 s m #[Value.ref b] below meth c 150 2103 Q E 4 G 1004 [(3, .int (nI (7 * k))), (2, .ref (ad E 121)), (1, .ref (ad E 0)), (0, .ref b)] []) : VV p l e room_1 s m #[Value.ref b] below meth c 150 2103 Q E 4 F 954 [(3, .int (nI (7 * k))), (2, .ref (ad E 121)), (1, .ref (ad E 0)), (0, .ref b)] [] := by
  refine v_aload_n (pc := 954) hC dL_law_954 rfl 2 rfl ?_
  refine v_ci (pc := 955) (r_V (rest := []) hC ml_L_126 mv_X11_restore (c_X11_restore l E (T_restore hk hI)) ⟨rfl, rfl⟩ ⟨Nat.le_of_ble_eq_true rfl, Nat.le_of_ble_eq_true rfl⟩ kq_0 rfl (by decide) rfl rfl (Nat.le_of_ble_eq_true rfl) ⟨Nat.le_of_ble_eq_true rfl, Nat.le_of_ble_eq_true rfl⟩ dL_law_955) (fun r G h => ?_)
  refine v_aload_n (pc := 958) hC dL_law_958 rfl 1 rfl ?_
  refine v_ci (pc := 959) (r_V (rest := [.int r]) hC ml_L_129 mv_X12_restore (c_X12_restore l E h) ⟨rfl, rfl⟩ ⟨Nat.le_of_ble_eq_true rfl, Nat.le_of_ble_eq_true rfl⟩ kq_121 rfl (by decide) rfl rfl (Nat.le_of_ble_eq_true rfl) ⟨Nat.le_of_ble_eq_true rfl, Nat.le_of_ble_eq_true rfl⟩ dL_law_959) (fun r' H h => ?_)
  exact v_ic_eq (pc := 962) (tgt := 1004) (A := True) (B := False) hC dL_law_962 (by decide) (ite_tf h.1) (fun _ => kk H h.2) (fun h => h.elim)
theorem lc_27 (hC : CX p s m #[Value.ref b] meth c cL_law RL ret E 4) (hX : va_X b L xs s s.heap) (hbl : b < s.heap.size) (hbA : ¬ gA E b) (hin : ∀ j, j < 7 → vp_in (nI (7 * k) + nI j) L) (hk : k < 2 ^ 20) (hI : Inv k F) (kk : ∀ G, Inv (k + 1) G → VV p l e room_1 s m #[Value.ref b] below meth c 150 2103 Q E 4 G 1004 [(3, .int (nI (7 * k))), (2, .ref (ad E 121)), (1, .ref (ad E 0)), (0, .ref b)] []) : VV p l e room_1 s m #[Value.ref b] below meth c 150 2103 Q E 4 F 967 [(3, .int (nI (7 * k))), (2, .ref (ad E 121)), (1, .ref (ad E 0)), (0, .ref b)] [] := by
  refine v_aload_n (pc := 967) hC dL_law_967 rfl 2 rfl ?_
  refine v_aload_n (pc := 968) hC dL_law_968 rfl 3 rfl ?_
  refine v_iload_n (pc := 969) hC dL_law_969 rfl 0 rfl ?_
  refine v_iconst (pc := 970) (v := 1) hC dL_law_970 (by decide) ?_
  refine v_iadd (pc := 971) hC dL_law_971 ?_
  refine v_sld (pc := 972) hC hX hbl hbA (hin 1 (by decide)) dL_law_972 ?_
  refine v_cip (pc := 973) (r_V (rest := []) hC ml_L_130 mv_X11_count (c_X11_count l E (T_count hk hI)) ⟨rfl, rfl⟩ ⟨Nat.le_of_ble_eq_true rfl, Nat.le_of_ble_eq_true rfl⟩ kq_0 rfl (by decide) rfl rfl (Nat.le_of_ble_eq_true rfl) ⟨Nat.le_of_ble_eq_true rfl, Nat.le_of_ble_eq_true rfl⟩ dL_law_973) (fun r h => ?_)
  refine v_aload_n (pc := 976) hC dL_law_976 rfl 1 rfl ?_
  refine v_aload_n (pc := 977) hC dL_law_977 rfl 3 rfl ?_
  refine v_iload_n (pc := 978) hC dL_law_978 rfl 0 rfl ?_
  refine v_iconst (pc := 979) (v := 1) hC dL_law_979 (by decide) ?_
  refine v_iadd (pc := 980) hC dL_law_980 ?_
  refine v_sld (pc := 981) hC hX hbl hbA (hin 1 (by decide)) dL_law_981 ?_
  refine v_cip (pc := 982) (r_V (rest := [.int r]) hC ml_L_133 mv_X12_count (c_X12_count l E h) ⟨rfl, rfl⟩ ⟨Nat.le_of_ble_eq_true rfl, Nat.le_of_ble_eq_true rfl⟩ kq_121 rfl (by decide) rfl rfl (Nat.le_of_ble_eq_true rfl) ⟨Nat.le_of_ble_eq_true rfl, Nat.le_of_ble_eq_true rfl⟩ dL_law_982) (fun r' h => ?_)
  exact v_ic_eq (pc := 985) (tgt := 1004) (A := True) (B := False) hC dL_law_985 (by decide) (ite_tf h) (fun _ => kk F (Inv_s hI)) (fun h => h.elim)
theorem lc_28 (hC : CX p s m #[Value.ref b] meth c cL_law RL ret E 4) (hX : va_X b L xs s s.heap) (hbl : b < s.heap.size) (hbA : ¬ gA E b) (hin : ∀ j, j < 7 → vp_in (nI (7 * k) + nI j) L) (hk : k < 2 ^ 20) (hI : Inv k F) (kk : ∀ G, Inv (k + 1) G → VV p l e room_1 s m #[Value.ref b] below meth c 150 2103 Q E 4 G 1004 [(3, .int (nI (7 * k))), (2, .ref (ad E 121)), (1, .ref (ad E 0)), (0, .ref b)] []) : VV p l e room_1 s m #[Value.ref b] below meth c 150 2103 Q E 4 F 990 [(3, .int (nI (7 * k))), (2, .ref (ad E 121)), (1, .ref (ad E 0)), (0, .ref b)] [] := by
  refine v_aload_n (pc := 990) hC dL_law_990 rfl 2 rfl ?_
  refine v_cl (pc := 991) (r_V (rest := []) hC ml_L_134 mv_X11_digest (c_X11_digest l E (T_digest hk hI)) ⟨rfl, rfl⟩ ⟨Nat.le_of_ble_eq_true rfl, Nat.le_of_ble_eq_true rfl⟩ kq_0 rfl (by decide) rfl rfl (Nat.le_of_ble_eq_true rfl) ⟨Nat.le_of_ble_eq_true rfl, Nat.le_of_ble_eq_true rfl⟩ dL_law_991) (fun r G h => ?_)
  refine v_aload_n (pc := 994) hC dL_law_994 rfl 1 rfl ?_
  refine v_cl (pc := 995) (r_V (rest := [.long r]) hC ml_L_138 mv_X12_digest (c_X12_digest l E h) ⟨rfl, rfl⟩ ⟨Nat.le_of_ble_eq_true rfl, Nat.le_of_ble_eq_true rfl⟩ kq_121 rfl (by decide) rfl rfl (Nat.le_of_ble_eq_true rfl) ⟨Nat.le_of_ble_eq_true rfl, Nat.le_of_ble_eq_true rfl⟩ dL_law_995) (fun r' H h => ?_)
  refine v_lcmp (pc := 998) hC dL_law_998 ?_
  have hz : (if r' < r then (1 : Int32) else if r = r' then 0 else -1) = 0 := by rw [← h.1, if_neg (Int64.lt_irrefl), if_pos rfl]
  exact v_if_eq (pc := 999) (tgt := 1004) (A := True) (B := False) hC dL_law_999 (by decide) (ite_tf hz) (fun _ => kk H h.2) (fun h => h.elim)
theorem law_end (hC : CX p s m #[Value.ref b] meth c cL_law RL ret E 4) (hsz : E.2.2.2 0 = s.heap.size) : VV p l e room_1 s m #[Value.ref b] below meth c 150 2103 (lw_Z below #[Value.ref b] s) E 4 F 1011 lv [.int 1] :=
  fun H locs ls hP hS hl => va_forget (fun q hq => by have h := hS.2.2 q hq; unfold gA at h; rw [hsz] at h; exact h) (W.widen (Nat.le_of_ble_eq_true rfl) (Nat.le_of_ble_eq_true rfl) (lw_ret hC.1 hC.2.1 hC.2.2.2.2.2.2.1 hC.2.2.2.2.2.2.2 dL_law_1011))
theorem law_loop (hC : CX p s m #[Value.ref b] meth c cL_law RL ret E 4) (hX : va_X b L xs s s.heap) (hbl : b < s.heap.size) (hsz : E.2.2.2 0 = s.heap.size) (hL : L ≤ 3584) : ∀ (n k : Nat) (F : gS), 7 * k ≤ L → L + 1 ≤ 7 * k + n → Inv k F → VV p l e room_1 s m #[Value.ref b] below meth c 150 2103 (lw_Z below #[Value.ref b] s) E 4 F 18 [(3, .int (nI (7 * k))), (2, .ref (ad E 121)), (1, .ref (ad E 0)), (0, .ref b)] [] := by
  have hbA : ¬ gA E b := by unfold gA; rw [hsz]; exact Nat.not_le.mpr hbl
  intro n
  induction n with
  | zero => intro k F h1 h2; omega
  | succ n ih =>
    intro k F h1 h2 hI
    have hk : k < 2 ^ 20 := by omega
    refine v_iload_n (pc := 18) hC dL_law_18 rfl 0 rfl ?_
    refine v_aload_n (pc := 19) hC dL_law_19 rfl 3 rfl ?_
    refine v_slen (pc := 20) hC hX hbl hbA dL_law_20 ?_
    refine v_bipush (pc := 21) (v := 7) hC dL_law_21 (by decide) ?_
    refine v_isub (pc := 23) hC dL_law_23 ?_
    refine v_ic_gt (pc := 24) (tgt := 1010) hC dL_law_24 (by decide) (lw_cmp hL h1) (fun _ => ?_) (fun h3 => ?_)
    · refine v_iconst (pc := 1010) (v := 1) hC dL_law_1010 (by decide) ?_
      exact law_end hC hsz
    · have hin : ∀ j, j < 7 → vp_in (nI (7 * k) + nI j) L := fun j hj => by
        rw [nI_add]
        exact nI_in (by omega) (by omega)
      refine v_aload_n (pc := 27) hC dL_law_27 rfl 3 rfl ?_
      refine v_iload_n (pc := 28) hC dL_law_28 rfl 0 rfl ?_
      refine v_sld (pc := 29) hC hX hbl hbA (nI_in (by omega) (by omega)) dL_law_29 ?_
      refine v_bipush (pc := 30) (v := 31) hC dL_law_30 (by decide) ?_
      refine v_iand (pc := 32) hC dL_law_32 ?_
      generalize xs (nI (7 * k)).toNatClampNeg &&& 31 = x
      have go : ∀ G, Inv (k + 1) G → VV p l e room_1 s m #[Value.ref b] below meth c 150 2103 (lw_Z below #[Value.ref b] s) E 4 G 1004 [(3, .int (nI (7 * k))), (2, .ref (ad E 121)), (1, .ref (ad E 0)), (0, .ref b)] [] := fun G hG => by
        refine v_iinc (pc := 1004) (v := 7) (P := fun z => z = nI (7 * (k + 1))) hC (fun z => [(3, .int z), (2, .ref (ad E 121)), (1, .ref (ad E 0)), (0, .ref b)]) dL_law_1004 0 rfl (by decide) (by decide) (fun z => rfl) (nI_add (7 * k) 7) (fun z hz => ?_)
        subst hz
        exact v_goto (pc := 1007) (tgt := 18) hC dL_law_1007 (by decide) (ih (k + 1) G (by omega) (by omega) hG)
      by_cases c0 : x = 0
      · exact v_tin (pc := 33) (tgt := 164) hC dL_law_33 0 (by rw [c0]; rfl) (by decide) (by decide) rfl (by decide) (lc_0 hC hX hbl hbA hin hk hI go)
      by_cases c1 : x = 1
      · exact v_tin (pc := 33) (tgt := 217) hC dL_law_33 1 (by rw [c1]; rfl) (by decide) (by decide) rfl (by decide) (lc_1 hC hX hbl hbA hin hk hI go)
      by_cases c2 : x = 2
      · exact v_tin (pc := 33) (tgt := 230) hC dL_law_33 2 (by rw [c2]; rfl) (by decide) (by decide) rfl (by decide) (lc_2 hC hX hbl hbA hin hk hI go)
      by_cases c3 : x = 3
      · exact v_tin (pc := 33) (tgt := 253) hC dL_law_33 3 (by rw [c3]; rfl) (by decide) (by decide) rfl (by decide) (lc_3 hC hX hbl hbA hin hk hI go)
      by_cases c4 : x = 4
      · exact v_tin (pc := 33) (tgt := 266) hC dL_law_33 4 (by rw [c4]; rfl) (by decide) (by decide) rfl (by decide) (lc_4 hC hX hbl hbA hin hk hI go)
      by_cases c5 : x = 5
      · exact v_tin (pc := 33) (tgt := 279) hC dL_law_33 5 (by rw [c5]; rfl) (by decide) (by decide) rfl (by decide) (lc_5 hC hX hbl hbA hin hk hI go)
      by_cases c6 : x = 6
      · exact v_tin (pc := 33) (tgt := 312) hC dL_law_33 6 (by rw [c6]; rfl) (by decide) (by decide) rfl (by decide) (lc_6 hC hX hbl hbA hin hk hI go)
      by_cases c7 : x = 7
      · exact v_tin (pc := 33) (tgt := 345) hC dL_law_33 7 (by rw [c7]; rfl) (by decide) (by decide) rfl (by decide) (lc_7 hC hX hbl hbA hin hk hI go)
      by_cases c8 : x = 8
      · exact v_tin (pc := 33) (tgt := 378) hC dL_law_33 8 (by rw [c8]; rfl) (by decide) (by decide) rfl (by decide) (lc_8 hC hX hbl hbA hin hk hI go)
      by_cases c9 : x = 9
      · exact v_tin (pc := 33) (tgt := 401) hC dL_law_33 9 (by rw [c9]; rfl) (by decide) (by decide) rfl (by decide) (lc_9 hC hX hbl hbA hin hk hI go)
      by_cases c10 : x = 10
      · exact v_tin (pc := 33) (tgt := 414) hC dL_law_33 10 (by rw [c10]; rfl) (by decide) (by decide) rfl (by decide) (lc_10 hC hX hbl hbA hin hk hI go)
      by_cases c11 : x = 11
      · exact v_tin (pc := 33) (tgt := 437) hC dL_law_33 11 (by rw [c11]; rfl) (by decide) (by decide) rfl (by decide) (lc_11 hC hX hbl hbA hin hk hI go)
      by_cases c12 : x = 12
      · exact v_tin (pc := 33) (tgt := 470) hC dL_law_33 12 (by rw [c12]; rfl) (by decide) (by decide) rfl (by decide) (lc_12 hC hX hbl hbA hin hk hI go)
      by_cases c13 : x = 13
      · exact v_tin (pc := 33) (tgt := 503) hC dL_law_33 13 (by rw [c13]; rfl) (by decide) (by decide) rfl (by decide) (lc_13 hC hX hbl hbA hin hk hI go)
      by_cases c14 : x = 14
      · exact v_tin (pc := 33) (tgt := 536) hC dL_law_33 14 (by rw [c14]; rfl) (by decide) (by decide) rfl (by decide) (lc_14 hC hX hbl hbA hin hk hI go)
      by_cases c15 : x = 15
      · exact v_tin (pc := 33) (tgt := 569) hC dL_law_33 15 (by rw [c15]; rfl) (by decide) (by decide) rfl (by decide) (lc_15 hC hX hbl hbA hin hk hI go)
      by_cases c16 : x = 16
      · exact v_tin (pc := 33) (tgt := 592) hC dL_law_33 16 (by rw [c16]; rfl) (by decide) (by decide) rfl (by decide) (lc_16 hC hX hbl hbA hin hk hI go)
      by_cases c17 : x = 17
      · exact v_tin (pc := 33) (tgt := 615) hC dL_law_33 17 (by rw [c17]; rfl) (by decide) (by decide) rfl (by decide) (lc_17 hC hX hbl hbA hin hk hI go)
      by_cases c18 : x = 18
      · exact v_tin (pc := 33) (tgt := 638) hC dL_law_33 18 (by rw [c18]; rfl) (by decide) (by decide) rfl (by decide) (lc_18 hC hX hbl hbA hin hk hI go)
      by_cases c19 : x = 19
      · exact v_tin (pc := 33) (tgt := 681) hC dL_law_33 19 (by rw [c19]; rfl) (by decide) (by decide) rfl (by decide) (lc_19 hC hX hbl hbA hin hk hI go)
      by_cases c20 : x = 20
      · exact v_tin (pc := 33) (tgt := 724) hC dL_law_33 20 (by rw [c20]; rfl) (by decide) (by decide) rfl (by decide) (lc_20 hC hX hbl hbA hin hk hI go)
      by_cases c21 : x = 21
      · exact v_tin (pc := 33) (tgt := 747) hC dL_law_33 21 (by rw [c21]; rfl) (by decide) (by decide) rfl (by decide) (lc_21 hC hX hbl hbA hin hk hI go)
      by_cases c22 : x = 22
      · exact v_tin (pc := 33) (tgt := 822) hC dL_law_33 22 (by rw [c22]; rfl) (by decide) (by decide) rfl (by decide) (lc_22 hC hX hbl hbA hin hk hI go)
      by_cases c23 : x = 23
      · exact v_tin (pc := 33) (tgt := 855) hC dL_law_33 23 (by rw [c23]; rfl) (by decide) (by decide) rfl (by decide) (lc_23 hC hX hbl hbA hin hk hI go)
      by_cases c24 : x = 24
      · exact v_tin (pc := 33) (tgt := 908) hC dL_law_33 24 (by rw [c24]; rfl) (by decide) (by decide) rfl (by decide) (lc_24 hC hX hbl hbA hin hk hI go)
      by_cases c25 : x = 25
      · exact v_tin (pc := 33) (tgt := 941) hC dL_law_33 25 (by rw [c25]; rfl) (by decide) (by decide) rfl (by decide) (lc_25 hC hX hbl hbA hin hk hI go)
      by_cases c26 : x = 26
      · exact v_tin (pc := 33) (tgt := 954) hC dL_law_33 26 (by rw [c26]; rfl) (by decide) (by decide) rfl (by decide) (lc_26 hC hX hbl hbA hin hk hI go)
      by_cases c27 : x = 27
      · exact v_tin (pc := 33) (tgt := 967) hC dL_law_33 27 (by rw [c27]; rfl) (by decide) (by decide) rfl (by decide) (lc_27 hC hX hbl hbA hin hk hI go)
      by_cases c28 : x = 28
      · exact v_tin (pc := 33) (tgt := 990) hC dL_law_33 28 (by rw [c28]; rfl) (by decide) (by decide) rfl (by decide) (lc_28 hC hX hbl hbA hin hk hI go)
      exact v_tout (pc := 33) (tgt := 1004) hC dL_law_33 (by have := lv_neT c0 (a := 0) rfl; have := lv_neT c1 (a := 1) rfl; have := lv_neT c2 (a := 2) rfl; have := lv_neT c3 (a := 3) rfl; have := lv_neT c4 (a := 4) rfl; have := lv_neT c5 (a := 5) rfl; have := lv_neT c6 (a := 6) rfl; have := lv_neT c7 (a := 7) rfl; have := lv_neT c8 (a := 8) rfl; have := lv_neT c9 (a := 9) rfl; have := lv_neT c10 (a := 10) rfl; have := lv_neT c11 (a := 11) rfl; have := lv_neT c12 (a := 12) rfl; have := lv_neT c13 (a := 13) rfl; have := lv_neT c14 (a := 14) rfl; have := lv_neT c15 (a := 15) rfl; have := lv_neT c16 (a := 16) rfl; have := lv_neT c17 (a := 17) rfl; have := lv_neT c18 (a := 18) rfl; have := lv_neT c19 (a := 19) rfl; have := lv_neT c20 (a := 20) rfl; have := lv_neT c21 (a := 21) rfl; have := lv_neT c22 (a := 22) rfl; have := lv_neT c23 (a := 23) rfl; have := lv_neT c24 (a := 24) rfl; have := lv_neT c25 (a := 25) rfl; have := lv_neT c26 (a := 26) rfl; have := lv_neT c27 (a := 27) rfl; have := lv_neT c28 (a := 28) rfl; omega) (by decide) (go F (Inv_s hI))
end LAW
