/-! which two next -/
def twN (W : Nat → Nat → Int32) (np : Nat) : Nat → Nat × Int32
  | 0 => (0, -1)
  | m + 1 => if W (m / np) (m % np) ≤ (twN W np m).2 then twN W np m else (m, W (m / np) (m % np))
theorem twN_le (W : Nat → Nat → Int32) (np : Nat) : ∀ m, (twN W np m).1 ≤ m
  | 0 => Nat.le_refl 0
  | m + 1 => by
    have ih := twN_le W np m
    show (if W (m / np) (m % np) ≤ (twN W np m).2 then twN W np m else (m, W (m / np) (m % np))).1 ≤ m + 1
    split
    · omega
    · show m ≤ m + 1; omega
def Wab (P : Pn) (Ls : Nat → Pl) (c : Cd) (a b : Nat) : Int32 := bkD P (Ls a) c 6 + bkD P (Ls b) (bk P (Ls a) c) 6
theorem Wab_sm (P : Pn) (Ls : Nat → Pl) (c : Cd) (a b : Nat) : sm 20 (Wab P Ls c a b) := by
  obtain ⟨x, hx, e⟩ := bkD6 P (Ls a) c
  obtain ⟨y, hy, e2⟩ := bkD6 P (Ls b) (bk P (Ls a) c)
  unfold Wab
  rw [e, e2, nI_add]
  exact ⟨x + y, by omega, rfl⟩
theorem dm_div {a b np : Nat} (hb : b < np) : (a * np + b) / np = a ∧ (a * np + b) % np = b := by
  have e : a * np + b = np * a + b := by rw [Nat.mul_comm]
  rw [e, Nat.mul_add_div (by omega), Nat.div_eq_of_lt hb, Nat.mul_add_mod, Nat.mod_eq_of_lt hb]
  exact ⟨by omega, rfl⟩
def JT (F : gS) (W : Nat → Nat → Int32) (np m : Nat) (F' : gS) : Prop := wid F F' ∧ F' 14 7 = (twN W np m).2 ∧ (1 ≤ m → F' 14 5 = nI ((twN W np m).1 / np) ∧ F' 14 6 = nI ((twN W np m).1 % np))
theorem s_two {np : Nat} {P : Pn} {Ls : Nat → Pl} {c : Cd} {F : gS} {Q : gS → Prop} (hnp : np ≤ 6) (hn1 : 1 ≤ np) (hP : okP P) (hL : ∀ i, i < np → okL (Ls i)) (hc : okC P c) (gP : AgP F P) (gL : ∀ i, i < np → AgL F (37 + 2 * i) (Ls i)) (gC : AgC F 26 P c)
    (h : ∀ G, JT F (Wab P Ls c) np (np * np) G → Q G) : wp_X2_findTwo 26 (nI np) F Q := by
  have h16 : nn P ≤ 16 := RC16 hP.1 hP.2.1
  have hnn : np * np ≤ 36 := Nat.mul_le_mul hnp hnp
  unfold wp_X2_findTwo
  refine for2 np (fun a F' => JT F (Wab P Ls c) np (a * np) F') (by omega) (fun K a F' ha hI hK => ?_) (fun K F' hI => ?_) 0 _ (Nat.zero_le _) ⟨fun q u => by rw [upF_ne _ _ _ (by omega)], by rw [upF_eq, pk_us, Nat.zero_mul]; rfl, fun q => absurd q (by omega)⟩
  · unfold wb_X2_findTwo_8
    refine if_n (nI_ge ha (by omega)) ?_
    obtain ⟨j1, j2, j3⟩ := hI
    refine s_become (by omega) (by omega) (by omega) (fun G g1 g2 g3 g4 => ⟨vp_in_nI (by omega) (by omega), ?_⟩)
    rw [nI_clamp (by omega)]
    have w1 : wid F G := fun q u => by rw [g1 q (by omega) (by omega) (by omega), j1 q u]
    refine s_bake hP (hL a ha) hc ⟨by omega, by omega, by omega⟩ (w1.P gP) (w1.L (by omega) (gL a ha)) (become_ag h16 g2 g3 g4 (j1.C gC)) (fun H h1 h2 h3 h4 h5 => ⟨i7 6 (by omega), ?_⟩)
    have w2 : wid F H := fun q u => by rw [h1 q (by omega) (by omega) (by omega) (by omega) (by omega) (by omega) (by omega), w1 q u]
    have e14 : H 14 = F' 14 := by rw [h1 14 (by omega) (by omega) (by omega) (by omega) (by omega) (by omega) (by omega), g1 14 (by omega) (by omega) (by omega)]
    have e6 : H 23 6 = bkD P (Ls a) c 6 := h4 6 (by omega)
    rw [t6c, e6]
    refine for2 np (fun b F2 => JT F (Wab P Ls c) np (a * np + b) F2 ∧ AgC F2 18 P (bk P (Ls a) c)) (by omega) (fun K2 b F2 hb hI hK2 => ?_) (fun K2 F2 hI => ?_) 0 H (Nat.zero_le _) ⟨⟨w2, by rw [e14, j2]; rfl, fun q => by rw [e14]; exact j3 q⟩, h2⟩
    · obtain ⟨⟨k1, k2, k3⟩, k4⟩ := hI
      obtain ⟨dd, dm⟩ := dm_div (a := a) hb
      unfold wb_X2_findTwo_56
      refine if_n (nI_ge hb (by omega)) ⟨vp_in_nI (by omega) (by omega), ?_⟩
      rw [nI_clamp (by omega)]
      refine s_next (k1 := 18) hP (hL b hb) (bk_ok hP (hL a ha) hc) (by omega) (by omega) (k1.P gP) (k1.L (by omega) (gL b hb)) k4 (fun M m1 m2 m3 => ⟨i7 6 (by omega), ?_⟩)
      have f14 : M 14 = F2 14 := m1 14 (by omega) (by omega) (by omega) (by omega) (by omega) (by omega) (by omega)
      have w3 : wid F M := fun q u => by rw [m1 q (by omega) (by omega) (by omega) (by omega) (by omega) (by omega) (by omega), k1 q u]
      have c18 : AgC M 18 P (bk P (Ls a) c) := AgC_tr (fun q j u => by rw [m1 q (by omega) (by omega) (by omega) (by omega) (by omega) (by omega) (by omega)]) k4
      have eW : bkD P (Ls a) c 6 + bkD P (Ls b) (bk P (Ls a) c) 6 = Wab P Ls c a b := rfl
      rw [t6c, m3 6 (by omega), eW, f14, k2]
      have eb : twN (Wab P Ls c) np (a * np + b + 1) = if Wab P Ls c a b ≤ (twN (Wab P Ls c) np (a * np + b)).2 then twN (Wab P Ls c) np (a * np + b) else (a * np + b, Wab P Ls c a b) := by
        show (if Wab P Ls c ((a * np + b) / np) ((a * np + b) % np) ≤ _ then _ else _) = _
        rw [dd, dm]
      refine if_c (fun z => hK2 _ ⟨⟨w3, ?_, fun _ => ?_⟩, c18⟩) (fun z => hK2 _ ⟨⟨fun q u => by rw [upF_ne _ _ _ (by omega), upF_ne _ _ _ (by omega), upF_ne _ _ _ (by omega), w3 q u], ?_, fun _ => ⟨?_, ?_⟩⟩, AgC_tr (fun q j u => by rw [upF_ne _ _ _ (by omega), upF_ne _ _ _ (by omega), upF_ne _ _ _ (by omega)]) c18⟩)
      · rw [f14, k2]; show _ = (twN (Wab P Ls c) np (a * np + b + 1)).2; rw [eb, if_pos z]
      · have m1 : 1 ≤ a * np + b := by
          rcases Nat.eq_zero_or_pos (a * np + b) with y | y
          · rw [y] at z
            exact absurd z (sm_nm1 (Wab_sm _ _ _ _ _) (by omega))
          · omega
        rw [f14]
        show _ = nI ((twN (Wab P Ls c) np (a * np + b + 1)).1 / np) ∧ _ = nI ((twN (Wab P Ls c) np (a * np + b + 1)).1 % np)
        rw [eb, if_pos z]; exact k3 m1
      · rw [upF_eq, pk_un (by omega), upF_eq, pk_un (by omega), upF_eq, pk_us]; show _ = (twN (Wab P Ls c) np (a * np + b + 1)).2; rw [eb, if_neg z]
      · rw [upF_eq, pk_un (by omega), upF_eq, pk_us]
        show _ = nI ((twN (Wab P Ls c) np (a * np + b + 1)).1 / np)
        rw [eb, if_neg z]; show _ = nI ((a * np + b) / np); rw [dd]
      · rw [upF_eq, pk_us]
        show _ = nI ((twN (Wab P Ls c) np (a * np + b + 1)).1 % np)
        rw [eb, if_neg z]; show _ = nI ((a * np + b) % np); rw [dm]
    · unfold wb_X2_findTwo_56
      refine if_y (nI_le (Nat.le_refl _) (by omega)) (hK _ ?_)
      show JT F (Wab P Ls c) np ((a + 1) * np) F2
      rw [Nat.succ_mul]; exact hI.1
  · unfold wb_X2_findTwo_8
    exact if_y (nI_le (Nat.le_refl _) (by omega)) (h F' hI)
theorem m_two {np : Nat} {x1 : Int32} {P : Pn} {Ls : Nat → Pl} {c : Cd} {F : gS} {Q : Int32 → gS → Prop} (hnp : np ≤ 6) (hn1 : 1 ≤ np) (hP : okP P) (hL : ∀ i, i < np → okL (Ls i)) (hc : okC P c) (gP : MgP F P) (e8 : F 121 8 = nI np) (gL : ∀ i, i < np → MpL F i (Ls i)) (c1 : ∀ j, j < nn P → F 124 j = c.1 j) (c2 : ∀ j, j < nn P → F 125 j = c.2.1 j) (c3 : F 121 7 = c.2.2)
    (h : ∀ G, serM F G → if x1 = 0 then Q (nI ((twN (Wab P Ls c) np (np * np)).1 / np)) G else if x1 = 1 then Q (nI ((twN (Wab P Ls c) np (np * np)).1 % np)) G else Q (twN (Wab P Ls c) np (np * np)).2 G) : LP4 (wb_X12_nextTwo_58 Q x1) F 0 (-1) 0 := by
  have h16 : nn P ≤ 16 := RC16 hP.1 hP.2.1
  have hnn : np * np ≤ 36 := Nat.mul_le_mul hnp hnp
  have hne : ¬ nI np = 0 := nI_ne0 (by omega) (by omega)
  refine for4 (np * np) (fun m F' x2 x3 => serM F F' ∧ x2 = nI (twN (Wab P Ls c) np m).1 ∧ x3 = (twN (Wab P Ls c) np m).2) (by omega) (fun K m F' x2 x3 hm hI hK => ?_) (fun K F' x2 x3 hI => ?_) 0 F 0 (-1) (Nat.zero_le _) ⟨⟨fun _ _ _ => rfl, fun _ _ => rfl⟩, rfl, rfl⟩
  · obtain ⟨j1, ex2, ex3⟩ := hI
    have f8 : F' 121 8 = nI np := by rw [j1.2 8 (by omega), e8]
    have ha : m / np < np := Nat.div_lt_of_lt_mul hm
    have hb : m % np < np := Nat.mod_lt _ (by omega)
    have eb : twN (Wab P Ls c) np (m + 1) = if Wab P Ls c (m / np) (m % np) ≤ (twN (Wab P Ls c) np m).2 then twN (Wab P Ls c) np m else (m, Wab P Ls c (m / np) (m % np)) := rfl
    unfold wb_X12_nextTwo_58
    rw [f8, pk_mul]
    refine if_n (nI_ge hm (by omega)) ⟨hne, ?_⟩
    rw [pk_div (by omega) (by omega) (by omega)]
    refine m_layNext (j := m / np) (P := P) (L := Ls (m / np)) (c := c) hP (hL _ ha) hc (by omega) (j1.P gP) (j1.L (gL _ ha)) (fun i hi => by rw [j1.1 _ (by omega) (by omega), c1 i hi]) (fun i hi => by rw [j1.1 _ (by omega) (by omega), c2 i hi]) (by rw [j1.2 _ (by omega), c3]) (fun G g1 g2 g3 g4 g5 => ?_)
    have s1 : serM F G := j1.tr ⟨fun q a b => g1 q a b, fun k hk => g2 k (by omega)⟩
    have k8 : G 121 8 = nI np := by rw [s1.2 8 (by omega), e8]
    have e60 : G 121 60 = bkD P (Ls (m / np)) c 6 := g5 6 (by omega)
    rw [k8, e60]
    refine ⟨hne, ?_⟩
    rw [pk_rem (by omega) (by omega) (by omega)]
    refine m_loadPlan (L := Ls (m % np)) (by omega) (hL _ hb).2.2.2.2 (s1.L (gL _ hb)) (fun H h1 h2 h3 => ?_)
    have s2 : serM F H := s1.tr ⟨fun q a b => h1 q a (by omega), fun k hk => h2 k (by omega)⟩
    refine m_cake hP (hL _ hb) (bk_ok hP (hL _ ha) hc) (s2.P gP) h3 ⟨fun i hi => by rw [h1 140 (by omega) (by omega), g3.1 i hi], fun i hi => by rw [h1 141 (by omega) (by omega), g3.2.1 i hi], by rw [h2 43 (by omega), g3.2.2]⟩ (fun M m1 m2 m3 m4 m5 m6 m7 => ?_)
    have f60 : M 121 60 = bkD P (Ls (m % np)) (bk P (Ls (m / np)) c) 6 := m5 6 (by omega)
    have eW : bkD P (Ls (m / np)) c 6 + bkD P (Ls (m % np)) (bk P (Ls (m / np)) c) 6 = Wab P Ls c (m / np) (m % np) := rfl
    rw [f60, eW, ex2, ex3]
    unfold wp_X12_nextTwo_125
    refine if_c (fun z => if_y z (hK _ _ _ ⟨s2.tr m1, ?_, ?_⟩)) (fun z => if_n z (hK _ _ _ ⟨s2.tr m1, ?_, ?_⟩))
    · rw [eb, if_pos z]
    · rw [eb, if_pos z]
    · rw [eb, if_neg z]
    · rw [eb, if_neg z]
  · obtain ⟨j1, ex2, ex3⟩ := hI
    have f8 : F' 121 8 = nI np := by rw [j1.2 8 (by omega), e8]
    have hle := twN_le (Wab P Ls c) np (np * np)
    have hh := h F' j1
    unfold wb_X12_nextTwo_58 wp_X12_nextTwo_145
    rw [f8, pk_mul, ex2, ex3, pk_rem (by omega) (by omega) (by omega), pk_div (by omega) (by omega) (by omega)]
    refine if_y (nI_le (Nat.le_refl _) (by omega)) (if_c (fun z => ⟨hne, ?_⟩) (fun z => if_c (fun y => ⟨hne, ?_⟩) (fun y => ?_)))
    · rw [if_pos z] at hh; exact hh
    · rw [if_neg z, if_pos y] at hh; exact hh
    · rw [if_neg z, if_neg y] at hh; exact hh
theorem T_nextTwo {i : Nat} {x1 : Int32} {F : gS} (hi : i < 2 ^ 20) (h : Inv i F) : wp_X11_nextTwo x1 F (fun r G => wp_X12_nextTwo x1 G (fun r' H => r = r' ∧ Inv (i + 1) H)) := by
  have hI := h
  obtain ⟨P, p, np, nc, c, len, s, h1, h2, h3, h4, h5, h6, h7⟩ := h
  unfold wp_X11_nextTwo
  rcases pan_or hi h1 with ⟨z1, z2, z3, z4⟩ | ⟨z1, z2, z3, z4, z5, z6⟩
  · refine x_panN z3 (if_y rfl ?_)
    unfold wp_X12_nextTwo
    exact if_y z4 ⟨rfl, Inv_s hI⟩
  · refine x_panY z4 (if_n t10 ?_)
    obtain ⟨s1, s2, s3⟩ := h7
    obtain ⟨g1, g2, g3, g4⟩ := h2
    rw [g2]
    rcases Nat.eq_zero_or_pos np with y | y
    · refine if_y (by rw [y]; rfl) ?_
      unfold wp_X12_nextTwo
      exact if_n z5 (if_y (by rw [g3, y]; rfl) ⟨rfl, Inv_s hI⟩)
    · have hne : ¬ nI np = 0 := nI_ne0 (by omega) (by omega)
      refine if_n hne ?_
      by_cases w : wtB x1 0 2 = true
      · refine wx_y w (if_n t10 ?_)
        rw [s2]
        by_cases w3 : s < 30
        · refine if_y (nI_lt (b := 30) w3 (by omega)) ?_
          rw [nI_1]
          have hsk : ∀ i, ∃ L, i < np → (okL L ∧ AgL F (37 + 2 * i) L ∧ MpL F i L) := fun i => by
            by_cases q : i < np
            · obtain ⟨L, hL⟩ := g4 i q; exact ⟨L, fun _ => hL⟩
            · exact ⟨(0, 0, 0, 0, 0, fun _ => 0), fun z => absurd z q⟩
          obtain ⟨Ls, hLs⟩ := Classical.skolem.mp hsk
          obtain ⟨c1, c2, c3, c4, c5, c6⟩ := h4
          have u0 : ∀ q, q ≠ 0 → (upF F 0 15 (nI (s + 1))) q = F q := fun q hq => upF_ne _ _ _ hq
          have u10 : (upF F 0 15 (nI (s + 1))) 0 10 = nI np := by rw [upF_eq, pk_un (by omega), g2]
          dsimp only [Nm]
          rw [u10]
          refine s_two g1 y z1 (fun i hi => (hLs i hi).1) c5 (AgP_tr (fun q j u => by rw [u0 q (by omega)]) h1.1) (fun i hi => AgL_tr (fun q j u => by rw [u0 q (by omega)]) (hLs i hi).2.1) (AgC_tr (fun q j u => by rw [u0 q (by omega)]) c1) (fun G gG => ?_)
          obtain ⟨gq, e7, e56⟩ := gG
          have hpp : 1 ≤ np * np := Nat.mul_le_mul y y
          obtain ⟨e5, e6⟩ := e56 hpp
          have eqG : ∀ q k, 121 ≤ q → G q k = F q k := fun q k u => by rw [gq q (by omega), u0 q (by omega)]
          have fin : ∀ r, (if x1 = 0 then r = G 14 5 else if x1 = 1 then r = G 14 6 else r = G 14 7) → wp_X12_nextTwo x1 G (fun r' H => r = r' ∧ Inv (i + 1) H) := by
            intro r hr
            rw [e5, e6, e7] at hr
            unfold wp_X12_nextTwo
            refine if_n (by rw [eqG _ _ (by omega)]; exact z5) ?_
            refine if_n (by rw [eqG _ _ (by omega), g3]; exact hne) (wm_y w (if_n t10 ?_))
            rw [eqG _ _ (by omega), s3, nI_1]
            refine if_n (fun z => by have := (nI_eq (b := 30) (by omega) (by omega)).mp z; omega) ?_
            have v0 : ∀ q m, 121 ≤ q → ¬ (q = 121 ∧ m = 18) → (upF G 121 18 (nI (s + 1))) q m = F q m := fun q m a b => by
              by_cases z : q = 121
              · subst z; rw [upF_eq, pk_un (by omega), eqG _ _ (by omega)]
              · rw [upF_ne _ _ _ z, eqG _ _ a]
            refine m_two g1 y z1 (fun i hi => (hLs i hi).1) c5 (MgP_tr (fun q k u => v0 q k (by omega) (by omega)) h1.2.1) (by rw [v0 _ _ (by omega) (by omega), g3]) (fun i hi => MpL_tr (fun q k u v => v0 q k (by omega) (by omega)) (hLs i hi).2.2) (fun k hk => by rw [v0 _ _ (by omega) (by omega), c2 k hk]) (fun k hk => by rw [v0 _ _ (by omega) (by omega), c3 k hk]) (by rw [v0 _ _ (by omega) (by omega), c4]) (fun H k1 => ?_)
            have hv := Inv_se hI ⟨s1, s2, s3⟩ w3 gq k1
            refine if_c (fun z => ?_) (fun z => if_c (fun y => ?_) (fun y => ?_))
            · rw [if_pos z] at hr; exact ⟨hr, hv⟩
            · rw [if_neg z, if_pos y] at hr; exact ⟨hr, hv⟩
            · rw [if_neg z, if_neg y] at hr; exact ⟨hr, hv⟩
          obtain ⟨a, -, ha, rfl⟩ := wt_rng (a := 0) (b := 2) (by omega) (by omega) w
          rcases (by omega : a = 0 ∨ a = 1 ∨ a = 2) with rfl | rfl | rfl
          · exact if_n (by decide) (if_y (by decide) (fin _ (if_y (by decide) rfl)))
          · exact if_n (by decide) (if_n (by decide) (fin _ (if_n (by decide) (if_y (by decide) rfl))))
          · exact if_y (by decide) (fin _ (if_n (by decide) (if_n (by decide) rfl)))
        · have e30 : s = 30 := by omega
          refine if_n (nI_nlt (b := 30) (by omega) (by omega)) ?_
          unfold wp_X12_nextTwo
          exact if_n z5 (if_n (by rw [g3]; exact hne) (wm_y w (if_n t10 (if_y (by rw [s3, e30]; rfl) ⟨rfl, Inv_s hI⟩))))
      · refine wx_n w (if_y rfl ?_)
        unfold wp_X12_nextTwo
        exact if_n z5 (if_n (by rw [g3]; exact hne) (wm_n w (if_y rfl ⟨rfl, Inv_s hI⟩)))
