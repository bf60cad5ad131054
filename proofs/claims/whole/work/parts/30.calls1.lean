/-! calls that only tell -/
theorem s_swingAtN {k0 i n : Nat} {F : gS} {Q : Int32 → Prop} (hi : n ≤ i) (hn : i < 2 ^ 30) (e : F k0 5 = nI n) (h : Q (-1)) : wp_X7_swingAt k0 (nI i) F Q := by
  unfold wp_X7_swingAt
  rw [e]
  refine wx_n (fun q => ?_) (if_y rfl h)
  obtain ⟨j, hj, ej⟩ := wt_cnt (by omega) q
  have := (nI_eq (by omega) (by omega)).mp ej
  omega
theorem T_planTold {i : Nat} {x1 x2 : Int32} {F : gS} (h : Inv i F) : wp_X11_planTold x1 x2 F (fun r => wp_X12_planTold x1 x2 F (fun r' => r = r')) := by
  obtain ⟨P, p, np, nc, c, len, s, h1, h2, h3, h4, h5, h6, h7⟩ := h
  unfold wp_X11_planTold wp_X11_isPlan wp_X12_planTold wp_X12_isPlan
  rcases isPlanB h2 x1 with ⟨n1, n2⟩ | ⟨y1, y2, j, hj, rfl⟩
  · exact wx_n n1 (if_y rfl (wm_n n2 (if_y rfl rfl)))
  · refine wx_y y1 (if_n t10 ?_)
    obtain ⟨g1, g2, g3, g4⟩ := h2
    obtain ⟨L, ok, ⟨l1, l2, l3, l4, l5, l6⟩, m1, m2, m3, m4, m5, m6⟩ := g4 j hj
    have cj : (nI j).toNatClampNeg = j := nI_clamp (by omega)
    have ij : vp_in (nI j) 6 := vp_in_nI (by omega) (by omega)
    by_cases w1 : wtB x2 0 4 = true
    · refine wx_y w1 (if_n t10 ?_)
      obtain ⟨a, -, ha, rfl⟩ := wt_rng (a := 0) (b := 4) (by omega) (by omega) w1
      unfold wp_X11_planTold_34
      refine if_y (show nI a < 10 from nI_lt (b := 10) (by omega) (by omega)) ⟨ij, ?_⟩
      rw [cj]
      have fin : ∀ r, wp_X12_planNow (nI j) (nI a) F (fun r5 => r = r5) → wp_X12_within (nI j) 0 (F 121 8 - 1) F (fun r1 => if r1 = 0 then r = (-101) else wp_X12_within (nI a) 0 4 F fun r3 => if r3 = 0 then (wp_X12_within (nI a) 10 15 F fun r6 => if r6 = 0 then r = (-102) else wp_X12_planNow (nI j) (nI a) F fun r8 => r = r8) else wp_X12_planNow (nI j) (nI a) F fun r5 => r = r5) := fun r q => wm_y y2 (if_n t10 (wm_y w1 (if_n t10 q)))
      have fin2 : ∀ r, (if nI a = 0 then r = F 126 j else if nI a = 1 then r = F 127 j else if nI a = 2 then r = F 128 j else if nI a = 3 then r = F 129 j else r = F 130 j) → wp_X12_planNow (nI j) (nI a) F (fun r5 => r = r5) := by
        intro r q
        unfold wp_X12_planNow
        rw [cj]
        rcases (by omega : a = 0 ∨ a = 1 ∨ a = 2 ∨ a = 3 ∨ a = 4) with rfl | rfl | rfl | rfl | rfl
        · exact if_y (by decide) ⟨ij, q⟩
        · exact if_n (by decide) (if_y (by decide) ⟨ij, q⟩)
        · exact if_n (by decide) (if_n (by decide) (if_y (by decide) ⟨ij, q⟩))
        · exact if_n (by decide) (if_n (by decide) (if_n (by decide) (if_y (by decide) ⟨ij, q⟩)))
        · exact if_n (by decide) (if_n (by decide) (if_n (by decide) (if_n (by decide) (if_y (by decide) ⟨ij, q⟩))))
      unfold wp_X7_told
      rcases (by omega : a = 0 ∨ a = 1 ∨ a = 2 ∨ a = 3 ∨ a = 4) with rfl | rfl | rfl | rfl | rfl
      · exact if_y (by decide) (fin _ (fin2 _ (l1.trans m1.symm)))
      · exact if_n (by decide) (if_y (by decide) (fin _ (fin2 _ (l2.trans m2.symm))))
      · exact if_n (by decide) (if_n (by decide) (if_y (by decide) (fin _ (fin2 _ (l3.trans m3.symm)))))
      · exact if_n (by decide) (if_n (by decide) (if_n (by decide) (if_y (by decide) (fin _ (fin2 _ (l4.trans m4.symm))))))
      · exact if_n (by decide) (if_n (by decide) (if_n (by decide) (if_n (by decide) (fin _ (fin2 _ (l5.trans m5.symm))))))
    · refine wx_n w1 (if_y rfl ?_)
      by_cases w2 : wtB x2 10 15 = true
      · refine wx_y w2 (if_n t10 ?_)
        obtain ⟨a, ha0, ha, rfl⟩ := wt_rng (a := 10) (b := 15) (by omega) (by omega) w2
        have e10 : nI a - 10 = nI (a - 10) := pk_sub (b := 10) ha0
        have ok5 := ok.2.2.2.2
        unfold wp_X11_planTold_34
        refine if_n (show ¬ nI a < 10 from nI_nlt (b := 10) ha0 (by omega)) ⟨ij, ?_⟩
        rw [cj, e10]
        have fin : ∀ r, wp_X12_planNow (nI j) (nI a) F (fun r5 => r = r5) → wp_X12_within (nI j) 0 (F 121 8 - 1) F (fun r1 => if r1 = 0 then r = (-101) else wp_X12_within (nI a) 0 4 F fun r3 => if r3 = 0 then (wp_X12_within (nI a) 10 15 F fun r6 => if r6 = 0 then r = (-102) else wp_X12_planNow (nI j) (nI a) F fun r8 => r = r8) else wp_X12_planNow (nI j) (nI a) F fun r5 => r = r5) := fun r q => wm_y y2 (if_n t10 (wm_n w1 (if_y rfl (wm_y w2 (if_n t10 q)))))
        have na : ∀ k : Nat, k < 10 → ¬ nI a = nI k := fun k hk z => by
          have := (nI_eq (by omega) (by omega)).mp z; omega
        have pn : ∀ r, (vp_in (nI j) 6 ∧ if (F 130 j) ≤ (nI (a - 10)) then r = (-1) else (vp_in (nI (6 * j + (a - 10))) 36 ∧ r = (F 131 (nI (6 * j + (a - 10))).toNatClampNeg))) → wp_X12_planNow (nI j) (nI a) F (fun r5 => r = r5) := by
          intro r q
          unfold wp_X12_planNow
          have e6 : 6 * nI j + nI a - 10 = nI (6 * j + (a - 10)) := by
            have z1 : 6 * nI j = nI (6 * j) := pk_mul 6 j
            have z2 : nI (6 * j + a) - 10 = nI (6 * j + a - 10) := pk_sub (b := 10) (by omega)
            rw [z1, nI_add, z2]; congr 1; omega
          rw [e6, e10, cj]
          exact if_n (na 0 (by omega)) (if_n (na 1 (by omega)) (if_n (na 2 (by omega)) (if_n (na 3 (by omega)) (if_n (na 4 (by omega)) q))))
        by_cases w3 : a - 10 < L.2.2.2.2.1
        · refine s_swingAt (n := L.2.2.2.2.1) w3 ok5 l5 (fin _ (pn _ ⟨ij, ?_⟩))
          refine if_n (by rw [m5]; exact nI_ge w3 (by omega)) ⟨vp_in_nI (by omega) (by omega), ?_⟩
          rw [nI_clamp (by omega), m6 _ w3, ← l6 _ w3]
        · refine s_swingAtN (n := L.2.2.2.2.1) (by omega) (by omega) l5 (fin _ (pn _ ⟨ij, ?_⟩))
          exact if_y (by rw [m5]; exact nI_le (by omega) (by omega)) rfl
      · exact wx_n w2 (if_y rfl (wm_y y2 (if_n t10 (wm_n w1 (if_y rfl (wm_n w2 (if_y rfl rfl)))))))
theorem isCellB {F : gS} {P : Pn} {p i : Nat} (h : IPan F P p i) (hi : i < 2 ^ 20) (x : Int32) : nn P ≤ 16 ∧ F 121 0 * F 121 1 = nI (nn P) ∧ ((¬ wtB x 0 (F 9 2 - 1) = true ∧ ¬ wtB x 0 (nI (nn P) - 1) = true) ∨ (wtB x 0 (F 9 2 - 1) = true ∧ wtB x 0 (nI (nn P) - 1) = true ∧ ∃ j : Nat, j < nn P ∧ x = nI j)) := by
  have hn : nn P ≤ 16 := by
    rcases pan_or hi h with ⟨z1, z2, z3⟩ | ⟨z1, z2, z3, z4⟩ <;> omega
  refine ⟨hn, by rw [h.2.1.1, h.2.1.2.1, pk_mul]; rfl, ?_⟩
  rw [h.1.1]
  by_cases q : wtB x 0 (nI (nn P) - 1) = true
  · exact Or.inr ⟨q, q, wt_cnt (by omega) q⟩
  · exact Or.inl ⟨q, q⟩
theorem T_cell {i : Nat} {x1 x2 : Int32} {F : gS} (hi : i < 2 ^ 20) (h : Inv i F) : wp_X11_cell x1 x2 F (fun r => wp_X12_cell x1 x2 F (fun r' => r = r')) := by
  obtain ⟨P, p, np, nc, c, len, s, h1, h2, h3, h4, h5, h6, h7⟩ := h
  obtain ⟨hn, ec, hB⟩ := isCellB h1 hi x1
  unfold wp_X11_cell wp_X11_isCell wp_X12_cell wp_X12_isCell wp_X12_cells
  rw [ec]
  rcases hB with ⟨n1, n2⟩ | ⟨y1, y2, j, hj, rfl⟩
  · exact wx_n n1 (if_y rfl (wm_n n2 (if_y rfl rfl)))
  · refine wx_y y1 (if_n t10 ?_)
    obtain ⟨⟨a1, a2, a3, a4, a5⟩, ⟨b1, b2, b3, b4⟩, -⟩ := h1
    obtain ⟨c1, c2, c3, c4, c5, c6⟩ := h4
    have cj : (nI j).toNatClampNeg = j := nI_clamp (by omega)
    have ij : vp_in (nI j) 16 := vp_in_nI (by omega) (by omega)
    rw [cj]
    by_cases w : wtB x2 0 3 = true
    · obtain ⟨a, -, ha, rfl⟩ := wt_rng (a := 0) (b := 3) (by omega) (by omega) w
      have fin : ∀ r, wp_X12_cellNow (nI j) (nI a) F (fun r5 => r = r5) → wp_X12_within (nI j) 0 (nI (nn P) - 1) F (fun r2 => if r2 = 0 then r = (-101) else wp_X12_within (nI a) 0 3 F fun r3 => if r3 = 0 then r = (-102) else wp_X12_cellNow (nI j) (nI a) F fun r5 => r = r5) := fun r q => wm_y y2 (if_n t10 (wm_y w (if_n t10 q)))
      have fin2 : ∀ r, (if nI a = 0 then r = F 122 j else if nI a = 1 then (if F 123 j = 0 then r = 0 else r = 1) else if nI a = 2 then r = F 124 j else r = F 125 j) → wp_X12_cellNow (nI j) (nI a) F (fun r5 => r = r5) := by
        intro r q
        unfold wp_X12_cellNow
        rw [cj]
        rcases (by omega : a = 0 ∨ a = 1 ∨ a = 2 ∨ a = 3) with rfl | rfl | rfl | rfl
        · exact if_y (by decide) ⟨ij, q⟩
        · exact if_n (by decide) (if_y (by decide) ⟨ij, q⟩)
        · exact if_n (by decide) (if_n (by decide) (if_y (by decide) ⟨ij, q⟩))
        · exact if_n (by decide) (if_n (by decide) (if_n (by decide) ⟨ij, q⟩))
      rcases (by omega : a = 0 ∨ a = 1 ∨ a = 2 ∨ a = 3) with rfl | rfl | rfl | rfl
      · exact if_y (by decide) ⟨ij, fin _ (fin2 _ ((a4 j hj).trans (b3 j hj).symm))⟩
      · refine if_n (by decide) (if_y (by decide) ⟨ij, if_c (fun q => ?_) (fun q => ?_)⟩)
        · refine fin _ (fin2 _ ?_)
          show if F 123 j = 0 then (0 : Int32) = 0 else (0 : Int32) = 1
          exact if_y (by rw [b4 j hj, ← a5 j hj]; exact q) rfl
        · refine fin _ (fin2 _ ?_)
          show if F 123 j = 0 then (1 : Int32) = 0 else (1 : Int32) = 1
          exact if_n (by rw [b4 j hj, ← a5 j hj]; exact q) rfl
      · exact if_n (by decide) (if_n (by decide) (if_y (by decide) ⟨ij, fin _ (fin2 _ ((c1.1 j hj).trans (c2 j hj).symm))⟩))
      · exact if_n (by decide) (if_n (by decide) (if_n (by decide) (if_y (by decide) ⟨ij, fin _ (fin2 _ ((c1.2.1 j hj).trans (c3 j hj).symm))⟩)))
    · have ne : ∀ k : Nat, k ≤ 3 → ¬ x2 = nI k := fun k hk z => w (by rw [z]; exact wtB_iff.mpr ⟨nI_pos' (by omega), nI_le (b := 3) hk (by omega)⟩)
      exact if_n (ne 0 (by omega)) (if_n (ne 1 (by omega)) (if_n (ne 2 (by omega)) (if_n (ne 3 (by omega)) (wm_y y2 (if_n t10 (wm_n w (if_y rfl rfl)))))))
theorem isCakeB {F : gS} {P : Pn} {nc : Nat} (h : ICk F P nc) (x : Int32) : (¬ wtB x 0 (F 0 11 - 1) = true ∧ ¬ wtB x 0 (F 121 15 - 1) = true) ∨ (wtB x 0 (F 0 11 - 1) = true ∧ wtB x 0 (F 121 15 - 1) = true ∧ ∃ j : Nat, j < nc ∧ x = nI j) := by
  obtain ⟨h1, h2, h3, h4⟩ := h
  rw [h2, h3]
  by_cases q : wtB x 0 (nI nc - 1) = true
  · exact Or.inr ⟨q, q, wt_cnt (by omega) q⟩
  · exact Or.inl ⟨q, q⟩
theorem T_cake {i : Nat} {x1 x2 : Int32} {F : gS} (h : Inv i F) : wp_X11_cake x1 x2 F (fun r => wp_X12_cake x1 x2 F (fun r' => r = r')) := by
  obtain ⟨P, p, np, nc, c, len, s, h1, h2, h3, h4, h5, h6, h7⟩ := h
  unfold wp_X11_cake wp_X11_isCake wp_X12_cake wp_X12_isCake
  rcases isCakeB h3 x1 with ⟨n1, n2⟩ | ⟨y1, y2, j, hj, rfl⟩
  · exact wx_n n1 (if_y rfl (wm_n n2 (if_y rfl rfl)))
  · refine wx_y y1 (if_n t10 ?_)
    obtain ⟨k1, k2, k3, k4⟩ := h3
    by_cases w : wtB x2 0 6 = true
    · refine wx_y w (if_n t10 ⟨vp_in_nI (by omega) (by omega), ?_⟩)
      obtain ⟨a, -, ha, rfl⟩ := wt_rng (a := 0) (b := 6) (by omega) (by omega) w
      refine ⟨vp_in_nI (by omega) (by omega), wm_y y2 (if_n t10 (wm_y w (if_n t10 ?_)))⟩
      have e7 : 7 * nI j + nI a = nI (7 * j + a) := by
        have z1 : 7 * nI j = nI (7 * j) := pk_mul 7 j
        rw [z1, nI_add]
      rw [e7, nI_clamp (by omega), nI_clamp (by omega), nI_clamp (by omega)]
      exact ⟨vp_in_nI (by omega) (by omega), (k4 j hj).1 a (by omega)⟩
    · exact wx_n w (if_y rfl (wm_y y2 (if_n t10 (wm_n w (if_y rfl rfl)))))
def pasX (own x : Int32) : Int32 := if x = 0 then 1 else if x = own then 1 else if x = gAbove.getD own.toNatClampNeg 0 then 1 else 0
def pasM (own x : Int32) : Int32 := if x = 0 then 1 else if own = x then 1 else if x = 2 then (if own = 3 then 1 else 0) else if x = 4 then (if own = 5 then 1 else 0) else 0
theorem pas_eq : ∀ a : Nat, a < 6 → ∀ b : Nat, b < 6 → pasX (nI a) (nI b) = pasM (nI a) (nI b) := by decide +kernel
theorem T_as {i : Nat} {x1 x2 : Int32} {F : gS} (h : Inv i F) : wp_X11_as x1 x2 F (fun r => wp_X12_as x1 x2 F (fun r' => r = r')) := by
  obtain ⟨P, p, np, nc, c, len, s, h1, h2, h3, h4, h5, h6, h7⟩ := h
  unfold wp_X11_as wp_X11_isCake wp_X12_as wp_X12_isCake
  rcases isCakeB h3 x1 with ⟨n1, n2⟩ | ⟨y1, y2, j, hj, rfl⟩
  · exact wx_n n1 (if_y rfl (wm_n n2 (if_y rfl rfl)))
  · refine wx_y y1 (if_n t10 ?_)
    obtain ⟨k1, k2, k3, k4⟩ := h3
    obtain ⟨d1, d2, a, ha, da⟩ := k4 j hj
    by_cases w : wtB x2 0 5 = true
    · refine wx_y w (if_n t10 ⟨vp_in_nI (by omega) (by omega), ?_⟩)
      obtain ⟨b, -, hb, rfl⟩ := wt_rng (a := 0) (b := 5) (by omega) (by omega) w
      have e7 : 7 * nI j = nI (7 * j) := pk_mul 7 j
      have dm : F 132 (7 * j) = nI a := by rw [← da, d1 0 (by omega)]; rfl
      have fin : ∀ r, r = (if pasM (nI a) (nI b) = 0 then (-1) else nI j) → wp_X12_within (nI j) 0 (F 121 15 - 1) F (fun r1 => if r1 = 0 then r = (-101) else wp_X12_within (nI b) 0 5 F fun r3 => if r3 = 0 then r = (-102) else (vp_in (7 * nI j) 168 ∧ Nm (F 132 (7 * nI j).toNatClampNeg) fun n5 => if nI b = 0 then r = nI j else (if n5 = nI b then r = nI j else (if nI b = 2 then (if n5 = 3 then r = nI j else (wp_X12_as_52 (fun r' => r = r') F (nI j) (nI b) n5)) else (wp_X12_as_52 (fun r' => r = r') F (nI j) (nI b) n5))))) := by
        intro r hr
        refine wm_y y2 (if_n t10 (wm_y w (if_n t10 ?_)))
        rw [e7, nI_clamp (by omega), dm]
        refine ⟨vp_in_nI (by omega) (by omega), ?_⟩
        show if nI b = 0 then _ else _
        unfold pasM at hr
        unfold wp_X12_as_52
        refine if_c (fun q => ?_) (fun q => if_c (fun q2 => ?_) (fun q2 => if_c (fun q3 => if_c (fun q4 => ?_) (fun q4 => ?_)) (fun q3 => if_c (fun q4 => if_c (fun q5 => ?_) (fun q5 => ?_)) (fun q4 => ?_))))
        · rw [if_pos q, if_neg t10] at hr; exact hr
        · rw [if_neg q, if_pos q2, if_neg t10] at hr; exact hr
        · rw [if_neg q, if_neg q2, if_pos q3, if_pos q4, if_neg t10] at hr; exact hr
        · rw [if_neg q, if_neg q2, if_pos q3, if_neg q4, if_pos rfl] at hr
          exact if_n (by rw [q3]; decide) hr
        · rw [if_neg q, if_neg q2, if_neg q3, if_pos q4, if_pos q5, if_neg t10] at hr; exact hr
        · rw [if_neg q, if_neg q2, if_neg q3, if_pos q4, if_neg q5, if_pos rfl] at hr; exact hr
        · rw [if_neg q, if_neg q2, if_neg q3, if_neg q4, if_pos rfl] at hr; exact hr
      have pe := pas_eq a (by omega) b (by omega)
      rw [← pe] at fin
      clear pe
      have cj : (nI j).toNatClampNeg = j := nI_clamp (by omega)
      rw [cj]
      unfold wp_X0_passesAs
      rw [t0c, da]
      refine ⟨i7 0 (by omega), ?_⟩
      show if nI b = 0 then _ else _
      unfold pasX at fin
      have ia : vp_in (nI a) 6 := vp_in_nI (by omega) (by omega)
      refine if_c (fun q => ?_) (fun q => if_c (fun q2 => ?_) (fun q2 => ⟨ia, if_c (fun q3 => ?_) (fun q3 => ?_)⟩))
      · rw [if_pos q, if_neg t10] at fin; exact if_n t10 (fin _ rfl)
      · rw [if_neg q, if_pos q2, if_neg t10] at fin; exact if_n t10 (fin _ rfl)
      · rw [if_neg q, if_neg q2, if_pos q3, if_neg t10] at fin; exact if_n t10 (fin _ rfl)
      · rw [if_neg q, if_neg q2, if_neg q3, if_pos rfl] at fin; exact if_y rfl (fin _ rfl)
    · exact wx_n w (if_y rfl (wm_y y2 (if_n t10 (wm_n w (if_y rfl rfl)))))
theorem T_thick {i : Nat} {x1 x2 : Int32} {F : gS} (hi : i < 2 ^ 20) (h : Inv i F) : wp_X11_thick x1 x2 F (fun r => wp_X12_thick x1 x2 F (fun r' => r = r')) := by
  obtain ⟨P, p, np, nc, c, len, s, h1, h2, h3, h4, h5, h6, h7⟩ := h
  obtain ⟨hn, ec, hB⟩ := isCellB h1 hi x2
  unfold wp_X11_thick wp_X11_isCake wp_X11_isCell wp_X12_thick wp_X12_isCake wp_X12_isCell wp_X12_cells
  rw [ec]
  rcases isCakeB h3 x1 with ⟨n1, n2⟩ | ⟨y1, y2, j, hj, rfl⟩
  · exact wx_n n1 (if_y rfl (wm_n n2 (if_y rfl rfl)))
  · refine wx_y y1 (if_n t10 ?_)
    rcases hB with ⟨n1, n2⟩ | ⟨z1, z2, a, ha, rfl⟩
    · exact wx_n n1 (if_y rfl (wm_y y2 (if_n t10 (wm_n n2 (if_y rfl rfl)))))
    · obtain ⟨k1, k2, k3, k4⟩ := h3
      refine wx_y z1 (if_n t10 ⟨vp_in_nI (by omega) (by omega), vp_in_nI (by omega) (by omega), wm_y y2 (if_n t10 (wm_y z2 (if_n t10 ?_)))⟩)
      have e7 : 16 * nI j + nI a = nI (16 * j + a) := by
        have z1 : 16 * nI j = nI (16 * j) := pk_mul 16 j
        rw [z1, nI_add]
      rw [e7, nI_clamp (by omega), nI_clamp (by omega), nI_clamp (by omega)]
      exact ⟨vp_in_nI (by omega) (by omega), (k4 j hj).2.1 a ha⟩
theorem s_bits {k0 : Nat} {F : gS} {Q : Int32 → Prop} (h : Q (sN (F (k0 + 2)) 16)) : wp_X1_bitsTogether k0 F Q := by
  unfold wp_X1_bitsTogether
  refine for2 16 (fun c x => x = sN (F (k0 + 2)) c) (by omega) (fun K c x hc e hK => ?_) (fun K x e => ?_) 0 _ (Nat.zero_le _) rfl
  · unfold wb_X1_bitsTogether_4
    refine if_n (nI_ge (b := 16) hc (by omega)) ⟨vp_in_nI hc (by omega), hK _ ?_⟩
    rw [nI_clamp (by omega), e]; rfl
  · unfold wb_X1_bitsTogether_4
    refine if_y (nI_le (a := 16) (Nat.le_refl _) (by omega)) ?_
    rw [e]; exact h
theorem m_bits {F : gS} {n : Nat} {Q : Int32 → Prop} (hn : n ≤ 16) (e0 : F 121 0 * F 121 1 = nI n) (h : Q (sN (F 125) n)) : wp_X12_bitsAll F Q := by
  unfold wp_X12_bitsAll
  refine for2 n (fun c x => x = sN (F 125) c) (by omega) (fun K c x hc e hK => ?_) (fun K x e => ?_) 0 _ (Nat.zero_le _) rfl
  · unfold wb_X12_bitsAll_4 wp_X12_cells
    rw [e0]
    refine if_n (nI_ge hc (by omega)) ⟨vp_in_nI (by omega) (by omega), hK _ ?_⟩
    rw [nI_clamp (by omega), e]; rfl
  · unfold wb_X12_bitsAll_4 wp_X12_cells
    rw [e0]
    refine if_y (nI_le (Nat.le_refl _) (by omega)) ?_
    rw [e]; exact h
theorem sN_up {f : Nat → Int32} {n : Nat} : ∀ k, (∀ c, n ≤ c → c < n + k → f c = 0) → sN f (n + k) = sN f n
  | 0, _ => rfl
  | k + 1, h => by
    show sN f (n + k) + f (n + k) = sN f n
    rw [sN_up k (fun c h1 h2 => h c h1 (by omega)), h (n + k) (by omega) (by omega)]; simp
theorem bits_eq {F : gS} {P : Pn} {c : Cd} (h : ICd F P c) (hn : nn P ≤ 16) : sN (F 28) 16 = sN (F 125) (nn P) := by
  obtain ⟨c1, c2, c3, c4, c5, c6⟩ := h
  have := sN_up (f := F 28) (n := nn P) (16 - nn P) (fun j h1 h2 => c6 j h1 (by omega))
  have e : nn P + (16 - nn P) = 16 := by omega
  rw [e] at this
  rw [this]
  exact sN_cg _ (fun j hj => by rw [c1.2.1 j hj, c3 j hj])
theorem s_worth {F : gS} {n : Nat} {Q : Int32 → Prop} (hn : n ≤ 24) (e0 : F 0 11 = nI n) (h : Q (sN (fun i => F (49 + 3 * i + 2) 6) n)) : wp_X11_worthTogether F Q := by
  unfold wp_X11_worthTogether
  refine for2 n (fun c x => x = sN (fun i => F (49 + 3 * i + 2) 6) c) (by omega) (fun K c x hc e hK => ?_) (fun K x e => ?_) 0 _ (Nat.zero_le _) rfl
  · unfold wb_X11_worthTogether_4
    rw [e0]
    refine if_n (nI_ge hc (by omega)) ⟨vp_in_nI (by omega) (by omega), i7 6 (by omega), hK _ ?_⟩
    rw [nI_clamp (by omega), t6c, e]; rfl
  · unfold wb_X11_worthTogether_4
    rw [e0]
    refine if_y (nI_le (Nat.le_refl _) (by omega)) ?_
    rw [e]; exact h
theorem m_worth {F : gS} {n : Nat} {Q : Int32 → Prop} (hn : n ≤ 24) (e0 : F 121 15 = nI n) (h : Q (sN (fun i => F 132 (7 * i + 6)) n)) : wp_X12_worthAll F Q := by
  unfold wp_X12_worthAll
  refine for2 n (fun c x => x = sN (fun i => F 132 (7 * i + 6)) c) (by omega) (fun K c x hc e hK => ?_) (fun K x e => ?_) 0 _ (Nat.zero_le _) rfl
  · unfold wb_X12_worthAll_4
    have e7 : 7 * nI c + 6 = nI (7 * c + 6) := by
      have z1 : 7 * nI c = nI (7 * c) := pk_mul 7 c
      rw [z1]; exact nI_add _ 6
    rw [e0, e7]
    refine if_n (nI_ge hc (by omega)) ⟨vp_in_nI (by omega) (by omega), hK _ ?_⟩
    rw [nI_clamp (by omega), e]; rfl
  · unfold wb_X12_worthAll_4
    rw [e0]
    refine if_y (nI_le (Nat.le_refl _) (by omega)) ?_
    rw [e]; exact h
theorem T_count {i : Nat} {x : Int32} {F : gS} (hi : i < 2 ^ 20) (h : Inv i F) : wp_X11_count x F (fun r => wp_X12_count x F (fun r' => r = r')) := by
  obtain ⟨P, p, np, nc, c, len, s, h1, h2, h3, h4, h5, h6, h7⟩ := h
  obtain ⟨hn, ec, -⟩ := isCellB h1 hi x
  unfold wp_X11_count wp_X12_count wp_X12_howMany
  refine if_c (fun q => if_y q ?_) (fun q0 => if_c (fun q => if_n q0 (if_y q ?_)) (fun q1 => if_c (fun q => if_n q0 (if_n q1 (if_y q ?_))) (fun q2 => if_c (fun q => if_n q0 (if_n q1 (if_n q2 (if_y q ?_)))) (fun q3 => if_c (fun q => if_n q0 (if_n q1 (if_n q2 (if_n q3 (if_y q ?_))))) (fun q4 => if_c (fun q => s_bits (if_n q0 (if_n q1 (if_n q2 (if_n q3 (if_n q4 (if_y q (m_bits hn ec ?_)))))))) (fun q5 => if_c (fun q => if_n q0 (if_n q1 (if_n q2 (if_n q3 (if_n q4 (if_n q5 (if_y q ?_))))))) (fun q6 => if_c (fun q => if_n q0 (if_n q1 (if_n q2 (if_n q3 (if_n q4 (if_n q5 (if_n q6 (if_y q ?_)))))))) (fun q7 => if_c (fun q => s_worth h3.1 h3.2.1 (if_n q0 (if_n q1 (if_n q2 (if_n q3 (if_n q4 (if_n q5 (if_n q6 (if_n q7 (if_y q (m_worth h3.1 h3.2.2.1 ?_))))))))))) (fun q8 => if_n q0 (if_n q1 (if_n q2 (if_n q3 (if_n q4 (if_n q5 (if_n q6 (if_n q7 (if_n q8 ?_)))))))))))))))))
  · unfold wp_X12_cells
    show F 9 2 = F 121 0 * F 121 1
    rw [ec, h1.1.1]
  · rw [h2.2.1, h2.2.2.1]
  · rw [h3.2.1, h3.2.2.1]
  · rw [h6.2.1, h6.2.2.1]
  · rw [h4.1.2.2, h4.2.2.2.1]
  · exact bits_eq h4 hn
  · rw [h1.2.2.1, h1.2.2.2.1]
  · rw [h7.2.1, h7.2.2]
  · exact sN_cg _ (fun j hj => (h3.2.2.2 j hj).1 6 (by omega))
  · rfl
