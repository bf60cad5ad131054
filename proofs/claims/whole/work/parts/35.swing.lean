/-! the best swing -/
def Lr (L : Pl) (k r : Nat) : Pl := (L.1, L.2.1, L.2.2.1, L.2.2.2.1, k, fun i => (nI r >>> ((2 * ((nI k - 1) - nI i)) &&& 31)) &&& 3)
theorem Lr_ok {L : Pl} {k r : Nat} (h : okL L) (hk : k ≤ 3) : okL (Lr L k r) := ⟨h.1, h.2.1, h.2.2.1, h.2.2.2.1, by show k ≤ 6; omega⟩
def bsN (ed : Nat → Int32) : Nat → Int32 × Int32
  | 0 => (0, 268435456)
  | r + 1 => if (bsN ed r).2 ≤ ed r then bsN ed r else (nI r, ed r)
theorem shk : ∀ k : Nat, k < 4 → (1 : Int32) <<< ((2 * nI k) &&& 31) = nI (4 ^ k) := by decide +kernel
theorem p4 : ∀ k : Nat, k < 4 → 4 ^ k ≤ 64 := by decide +kernel
theorem sm_far {x : Int32} (h : sm 60 x) : ¬ 268435456 ≤ x ∧ ¬ 61 ≤ x := by
  obtain ⟨a, ha, rfl⟩ := h
  exact ⟨nI_ge (b := 268435456) (by omega) (by omega), nI_ge (b := 61) (by omega) (by omega)⟩
def edr (P : Pn) (L : Pl) (c : Cd) (k : Nat) : Nat → Int32 := fun r => edN (bkT P (Lr L k r) c) (nn P)
theorem s_swings {k2 k : Nat} {P : Pn} {L : Pl} {c : Cd} {F : gS} {Q : gS → Prop} (hk : k ≤ 3) (hP : okP P) (hL : okL L) (hc : okC P c) (a2 : 37 ≤ k2 ∧ k2 < 48) (gP : AgP F P) (gL : AgL F k2 L) (gC : AgC F 26 P c)
    (h : ∀ G, wid F G → G 14 5 = (bsN (edr P L c k) (4 ^ k)).1 → G 14 7 = (bsN (edr P L c k) (4 ^ k)).2 → Q G) : wp_X2_findSwings 26 k2 (nI k) F Q := by
  have h16 : nn P ≤ 16 := RC16 hP.1 hP.2.1
  have hp := p4 k (by omega)
  have hpos : 0 < 4 ^ k := Nat.pow_pos (by omega)
  unfold wp_X2_findSwings
  refine s_variant a2 hL.2.2.2.2 gL (fun G g1 g2 => ?_)
  have e6 : (if 6 < nI k then (6 : Int32) else nI k) = nI k := by rw [if_neg (show ¬ 6 < nI k from nI_nlt (b := k) (a := 6) (by omega) (by omega))]
  rw [e6]
  obtain ⟨l1, l2, l3, l4, l5, l6⟩ := g2
  refine for2 (4 ^ k) (fun r F' => wid F F' ∧ (F' 24 1 = L.1 ∧ F' 24 2 = L.2.1 ∧ F' 24 3 = nI L.2.2.1 ∧ F' 24 4 = nI L.2.2.2.1 ∧ F' 24 5 = nI k) ∧ (r = 0 → F' 14 7 = 61) ∧ (1 ≤ r → F' 14 5 = (bsN (edr P L c k) r).1 ∧ F' 14 7 = (bsN (edr P L c k) r).2)) (by omega) (fun K r F' hr hI hK => ?_) (fun K F' hI => ?_) 0 _ (Nat.zero_le _) ⟨fun q u => by rw [upF_ne _ _ _ (by omega), upF_ne _ _ _ (by omega), g1 q (by omega) (by omega)], ⟨?_, ?_, ?_, ?_, ?_⟩, fun _ => by rw [upF_eq, pk_us], fun q => absurd q (by omega)⟩
  · obtain ⟨j1, ⟨f1, f2, f3, f4, f5⟩, j3, j4⟩ := hI
    unfold wb_X2_findSwings_30
    rw [shk k (by omega)]
    refine if_n (nI_ge hr (by omega)) ?_
    refine for2 k (fun i F2 => F2 = upR F' 25 (pt i (Lr L k r).2.2.2.2.2 (F' 25))) (by omega) (fun K2 i F2 hi e hK2 => ?_) (fun K2 F2 e => ?_) 0 F' (Nat.zero_le _) (by rw [pt_0, upR_self])
    · unfold wb_X2_findSwings_43 wp_X2_swingOf
      have e24 : F2 24 = F' 24 := by rw [e, upR_ne _ _ (by omega)]
      refine if_n (by rw [e24, f5]; exact nI_ge hi (by omega)) ⟨vp_in_nI (by omega) (by omega), hK2 _ ?_⟩
      rw [nI_clamp (by omega), e, upF_upR]
      exact congrArg (upR F' 25) (pt_s i _ _ rfl)
    · have e24 : F2 24 = F' 24 := by rw [e, upR_ne _ _ (by omega)]
      unfold wb_X2_findSwings_43
      refine if_y (by rw [e24, f5]; exact nI_le (Nat.le_refl _) (by omega)) ?_
      have w1 : wid F F2 := fun q u => by rw [e, upR_ne _ _ (by omega), j1 q u]
      have gl : AgL F2 24 (Lr L k r) := ⟨by rw [e24, f1]; rfl, by rw [e24, f2]; rfl, by rw [e24, f3]; rfl, by rw [e24, f4]; rfl, by rw [e24, f5]; rfl, fun i hi => by rw [e, upR_eq, pt_lt _ _ (show i < k from hi)]⟩
      have e14 : F2 14 = F' 14 := by rw [e, upR_ne _ _ (by omega)]
      unfold wp_X2_findSwings_79
      refine s_become (by omega) (by omega) (by omega) (fun H h1 h2 h3 h4 => ?_)
      have w2 : wid F H := fun q u => by rw [h1 q (by omega) (by omega) (by omega), w1 q u]
      have gl2 : AgL H 24 (Lr L k r) := AgL_tr (fun q j u => by rw [h1 q (by omega) (by omega) (by omega)]) gl
      refine s_spreadC (k1 := 15) (k2 := 24) (k3 := 21) hP (Lr_ok hL hk) hc ⟨by omega, by omega, by omega⟩ (w2.P gP) gl2 (become_ag h16 h2 h3 h4 (w1.C gC)) (fun M rr m1 m2 m3 m4 m5 => ?_)
      have gl3 : AgL M 24 (Lr L k r) := AgL_tr (fun q j u => by rw [m1 q (by omega) (by omega) (by omega) (by omega)]) gl2
      have w3 : wid F M := fun q u => by rw [m1 q (by omega) (by omega) (by omega) (by omega), w2 q u]
      have m14 : M 14 = F' 14 := by rw [m1 14 (by omega) (by omega) (by omega) (by omega), h1 14 (by omega) (by omega) (by omega), e14]
      obtain ⟨u1, u2⟩ := ed_up h16 m4
      have eed : edN (M (21 + 1)) 16 = edr P L c k r := by rw [u2]; exact edN_cg m3
      refine s_measure ?_
      rw [eed, t3c]
      generalize hN : upF (upF M (21 + 2) 3 (edr P L c k r)) (21 + 2) 4 (coN (M (21 + 1)) 16) = N
      have n3 : N 23 3 = edr P L c k r := by rw [← hN, upF_eq, pk_un (by omega), upF_eq, pk_us]
      have n14 : N 14 = F' 14 := by rw [← hN, upF_ne _ _ _ (by omega), upF_ne _ _ _ (by omega), m14]
      have w4 : wid F N := fun q u => by rw [← hN, upF_ne _ _ _ (by omega), upF_ne _ _ _ (by omega), w3 q u]
      have n24 : N 24 = M 24 := by rw [← hN, upF_ne _ _ _ (by omega), upF_ne _ _ _ (by omega)]
      clear hN
      refine ⟨i7 3 (by omega), ?_⟩
      rw [n3, n14]
      obtain ⟨p1, p2, p3, p4, p5, -⟩ := gl3
      have ed0 : sm 60 (edr P L c k r) := (bk_edge hP (Lr_ok hL hk) hc).2.1
      have eb : bsN (edr P L c k) (r + 1) = if (bsN (edr P L c k) r).2 ≤ edr P L c k r then bsN (edr P L c k) r else (nI r, edr P L c k r) := rfl
      have setk : ¬ (bsN (edr P L c k) r).2 ≤ edr P L c k r → K (upF (upF N 14 7 (edr P L c k r)) 14 5 (nI r)) (nI r + 1) := by
        intro z
        refine hK _ ⟨fun q u => by rw [upF_ne _ _ _ (by omega), upF_ne _ _ _ (by omega), w4 q u], ⟨?_, ?_, ?_, ?_, ?_⟩, fun q => absurd q (by omega), fun _ => ⟨?_, ?_⟩⟩
        · rw [upF_ne _ _ _ (by omega), upF_ne _ _ _ (by omega), n24, p1]; rfl
        · rw [upF_ne _ _ _ (by omega), upF_ne _ _ _ (by omega), n24, p2]; rfl
        · rw [upF_ne _ _ _ (by omega), upF_ne _ _ _ (by omega), n24, p3]; rfl
        · rw [upF_ne _ _ _ (by omega), upF_ne _ _ _ (by omega), n24, p4]; rfl
        · rw [upF_ne _ _ _ (by omega), upF_ne _ _ _ (by omega), n24, p5]; rfl
        · rw [upF_eq, pk_us, eb, if_neg z]
        · rw [upF_eq, pk_un (by omega), upF_eq, pk_us, eb, if_neg z]
      rcases Nat.eq_zero_or_pos r with y | y
      · subst y
        rw [j3 rfl]
        exact if_n (sm_far ed0).2 ⟨i7 3 (by omega), setk (sm_far ed0).1⟩
      · rw [(j4 y).2]
        refine if_c (fun z => hK _ ⟨w4, ⟨?_, ?_, ?_, ?_, ?_⟩, fun q => absurd q (by omega), fun _ => ⟨?_, ?_⟩⟩) (fun z => ⟨i7 3 (by omega), setk z⟩)
        · rw [n24, p1]; rfl
        · rw [n24, p2]; rfl
        · rw [n24, p3]; rfl
        · rw [n24, p4]; rfl
        · rw [n24, p5]; rfl
        · rw [n14, (j4 y).1, eb, if_pos z]
        · rw [n14, (j4 y).2, eb, if_pos z]
  · obtain ⟨j1, j2, j3, j4⟩ := hI
    unfold wb_X2_findSwings_30
    rw [shk k (by omega)]
    exact if_y (nI_le (Nat.le_refl _) (by omega)) (h F' j1 (j4 hpos).1 (j4 hpos).2)
  · rw [upF_ne _ _ _ (by omega), upF_eq, pk_un (by omega), l1]
  · rw [upF_ne _ _ _ (by omega), upF_eq, pk_un (by omega), l2]
  · rw [upF_ne _ _ _ (by omega), upF_eq, pk_un (by omega), l3]
  · rw [upF_ne _ _ _ (by omega), upF_eq, pk_un (by omega), l4]
  · rw [upF_ne _ _ _ (by omega), upF_eq, pk_us]
theorem m_swings {j k : Nat} {x3 : Int32} {P : Pn} {L : Pl} {c : Cd} {F : gS} {Q : Int32 → gS → Prop} (hk : k ≤ 3) (hP : okP P) (hL : okL L) (hc : okC P c) (hj : j < 6) (gP : MgP F P) (gL : MpL F j L) (c1 : ∀ j, j < nn P → F 124 j = c.1 j) (c2 : ∀ j, j < nn P → F 125 j = c.2.1 j) (c3 : F 121 7 = c.2.2)
    (h : ∀ G, serM F G → wp_X12_bestSwing_175 Q G (nI k) x3 (bsN (edr P L c k) (4 ^ k)).1 (bsN (edr P L c k) (4 ^ k)).2) : LP4 (wb_X12_bestSwing_68 Q (nI j) (nI k) x3) F 0 268435456 0 := by
  have h16 : nn P ≤ 16 := RC16 hP.1 hP.2.1
  have hp := p4 k (by omega)
  refine for4 (4 ^ k) (fun r F' x5 x6 => serM F F' ∧ x5 = (bsN (edr P L c k) r).1 ∧ x6 = (bsN (edr P L c k) r).2) (by omega) (fun K r F' x5 x6 hr hI hK => ?_) (fun K F' x5 x6 hI => ?_) 0 F 0 268435456 (Nat.zero_le _) ⟨⟨fun _ _ _ => rfl, fun _ _ => rfl⟩, rfl, rfl⟩
  · obtain ⟨j1, ex5, ex6⟩ := hI
    unfold wb_X12_bestSwing_68
    rw [shk k (by omega)]
    refine if_n (nI_ge hr (by omega)) ?_
    refine m_load hP hL hj (j1.P gP) (j1.L gL) (fun i hi => by rw [j1.1 _ (by omega) (by omega), c1 i hi]) (fun i hi => by rw [j1.1 _ (by omega) (by omega), c2 i hi]) (by rw [j1.2 _ (by omega), c3]) (fun G g1 g2 g3 => ?_)
    generalize hG1 : upF G 121 48 (nI k) = G1
    have s1 : serM F G1 := ⟨fun q a b => by rw [← hG1, upF_ne _ _ _ a, (j1.tr g1).1 q a b], fun i hi => by rw [← hG1, upF_eq, pk_un (by omega), (j1.tr g1).2 i hi]⟩
    refine for2 k (fun i F2 => F2 = upR G1 142 (pt i (Lr L k r).2.2.2.2.2 (G1 142))) (by omega) (fun K2 i F2 hi e hK2 => ?_) (fun K2 F2 e => ?_) 0 G1 (Nat.zero_le _) (by rw [pt_0, upR_self])
    · unfold wb_X12_bestSwing_95
      refine if_n (nI_ge hi (by omega)) ⟨vp_in_nI (by omega) (by omega), hK2 _ ?_⟩
      rw [nI_clamp (by omega), e, upF_upR]
      exact congrArg (upR G1 142) (pt_s i _ _ rfl)
    · have e121 : F2 121 = G1 121 := by rw [e, upR_ne _ _ (by omega)]
      have s2 : serM F F2 := ⟨fun q a b => by rw [e, upR_ne _ _ (by omega), s1.1 q a b], fun i hi => by rw [e121, s1.2 i hi]⟩
      have l1 : MgL F2 (Lr L k r) := by
        obtain ⟨q1, q2, q3, q4, q5, q6⟩ := g2
        exact ⟨by rw [e121, ← hG1, upF_eq, pk_un (by omega), q1]; rfl, by rw [e121, ← hG1, upF_eq, pk_un (by omega), q2]; rfl, by rw [e121, ← hG1, upF_eq, pk_un (by omega), q3]; rfl, by rw [e121, ← hG1, upF_eq, pk_un (by omega), q4]; rfl, by rw [e121, ← hG1, upF_eq, pk_us]; rfl, fun i hi => by rw [e, upR_eq, pt_lt _ _ (show i < k from hi)]⟩
      have d1 : MgC F2 P c := ⟨fun i hi => by rw [e, upR_ne _ _ (by omega), ← hG1, upF_ne _ _ _ (by omega), g3.1 i hi], fun i hi => by rw [e, upR_ne _ _ (by omega), ← hG1, upF_ne _ _ _ (by omega), g3.2.1 i hi], by rw [e121, ← hG1, upF_eq, pk_un (by omega), g3.2.2]⟩
      unfold wb_X12_bestSwing_95 wp_X12_bestSwing_127 wp_X12_bestSwing_147
      refine if_y (nI_le (Nat.le_refl _) (by omega)) ?_
      refine m_cake hP (Lr_ok hL hk) hc (s2.P gP) l1 d1 (fun H h1 h2 h3 h4 h5 h6 h7 => ?_)
      have e57 : H 121 57 = edr P L c k r := h5 3 (by omega)
      have eb : bsN (edr P L c k) (r + 1) = if (bsN (edr P L c k) r).2 ≤ edr P L c k r then bsN (edr P L c k) r else (nI r, edr P L c k r) := rfl
      rw [e57, ex5, ex6]
      refine if_c (fun z => if_y z (hK _ _ _ ⟨s2.tr h1, ?_, ?_⟩)) (fun z => if_n z (hK _ _ _ ⟨s2.tr h1, ?_, ?_⟩))
      · rw [eb, if_pos z]
      · rw [eb, if_pos z]
      · rw [eb, if_neg z]
      · rw [eb, if_neg z]
  · obtain ⟨j1, ex5, ex6⟩ := hI
    unfold wb_X12_bestSwing_68
    rw [shk k (by omega), ex5, ex6]
    exact if_y (nI_le (Nat.le_refl _) (by omega)) (h F' j1)
/-- one search more -/
theorem Inv_se {F G H : gS} {i s : Nat} (h : Inv i F) (hs : ISe F s) (hs2 : s < 30) (h1 : wid (upF F 0 15 (nI (s + 1))) G) (h2 : serM (upF G 121 18 (nI (s + 1))) H) : Inv (i + 1) H := by
  have key : ∀ q k, uA q k → ¬ (q = 0 ∧ k = 15) → ¬ (q = 121 ∧ k = 18) → H q k = F q k := by
    intro q k u n1 n2
    unfold uA at u
    by_cases z : q = 121
    · subst z
      rw [h2.2 k (by omega), upF_eq, pk_un (by omega), h1 121 (by omega), upF_ne _ _ _ (by omega)]
    · rw [h2.1 q z (by omega), upF_ne _ _ _ z, h1 q (by omega)]
      by_cases z2 : q = 0
      · subst z2; rw [upF_eq, pk_un (by omega)]
      · rw [upF_ne _ _ _ z2]
  obtain ⟨P, p, np, nc, c, len, s', i1, i2, i3, i4, i5, i6, i7⟩ := h
  refine ⟨P, p, np, nc, c, len, s + 1, IPan_tr (fun q j u => key q j (by unfold uPan at u; unfold uA; omega) (by unfold uPan at u; omega) (by unfold uPan at u; omega)) (by omega) i1, IPl_tr (fun q j u => key q j (by unfold uPl at u; unfold uA; omega) (by unfold uPl at u; omega) (by unfold uPl at u; omega)) i2, ICk_tr (fun q j u => key q j (by unfold uCk at u; unfold uA; omega) (by unfold uCk at u; omega) (by unfold uCk at u; omega)) i3, ICd_tr (fun q j u => key q j (by unfold uCd at u; unfold uA; omega) (by unfold uCd at u; omega) (by unfold uCd at u; omega)) i4, IKp_tr (fun q j u => key q j (by unfold uKp at u; unfold uA; omega) (by unfold uKp at u; omega) (by unfold uKp at u; omega)) (Nat.le_refl _) i5, IPg_tr (fun q j u => key q j (by unfold uPg at u; unfold uA; omega) (by unfold uPg at u; omega) (by unfold uPg at u; omega)) i6, ⟨by omega, ?_, ?_⟩⟩
  · rw [h2.1 0 (by omega) (by omega), upF_ne _ _ _ (by omega), h1 0 (by omega), upF_eq, pk_us]
  · rw [h2.2 18 (by omega), upF_eq, pk_us]
theorem T_bestSwing {i : Nat} {x1 x2 x3 : Int32} {F : gS} (hi : i < 2 ^ 20) (h : Inv i F) : wp_X11_bestSwing x1 x2 x3 F (fun r G => wp_X12_bestSwing x1 x2 x3 G (fun r' H => r = r' ∧ Inv (i + 1) H)) := by
  have hI := h
  obtain ⟨P, p, np, nc, c, len, s, h1, h2, h3, h4, h5, h6, h7⟩ := h
  unfold wp_X11_bestSwing wp_X11_isPlan
  rcases isPlanB h2 x1 with ⟨n1, n2⟩ | ⟨y1, y2, j, hj, rfl⟩
  · exact wx_n n1 (if_y rfl (m_bars n2 (if_n (by decide) ⟨rfl, Inv_s hI⟩)))
  · refine wx_y y1 (if_n t10 ?_)
    rcases pan_or hi h1 with ⟨z1, z2, z3, z4⟩ | ⟨z1, z2, z3, z4, z5, z6⟩
    · exact x_panN z3 (if_y rfl (m_barsS y2 z4 (if_n (by decide) ⟨rfl, Inv_s hI⟩)))
    · refine x_panY z4 (if_n t10 ?_)
      have hnp := h2.1
      obtain ⟨s1, s2, s3⟩ := h7
      by_cases w : wtB x2 1 3 = true
      · refine wx_y w (if_n t10 ?_)
        by_cases w2 : wtB x3 0 3 = true
        · refine wx_y w2 (if_n t10 ?_)
          rw [s2]
          by_cases w3 : s < 30
          · refine if_y (nI_lt (b := 30) w3 (by omega)) ?_
            rw [nI_1]
            refine ⟨vp_in_nI (by omega) (by omega), ?_⟩
            obtain ⟨k, hk0, hk, rfl⟩ := wt_rng (a := 1) (b := 3) (by omega) (by omega) w
            obtain ⟨L, ok, gL, mL⟩ := h2.2.2.2 j hj
            obtain ⟨c1, c2, c3, c4, c5, c6⟩ := h4
            rw [nI_clamp (by omega)]
            have u0 : ∀ q, q ≠ 0 → (upF F 0 15 (nI (s + 1))) q = F q := fun q hq => upF_ne _ _ _ hq
            refine s_swings hk z1 ok c5 (by omega) (AgP_tr (fun q j u => by rw [u0 q (by omega)]) h1.1) (AgL_tr (fun q j u => by rw [u0 q (by omega)]) gL) (AgC_tr (fun q j u => by rw [u0 q (by omega)]) c1) (fun G gq e5 e7 => ?_)
            have eqG : ∀ q k, 121 ≤ q → G q k = F q k := fun q k u => by rw [gq q (by omega), u0 q (by omega)]
            have fin : ∀ r, wp_X12_bestSwing_175 (fun r' _ => r = r') G (nI k) x3 (G 14 5) (G 14 7) → wp_X12_bestSwing (nI j) (nI k) x3 G (fun r' H => r = r' ∧ Inv (i + 1) H) := by
              intro r hr
              rw [e5, e7] at hr
              unfold wp_X12_bestSwing
              refine m_barsY (by rw [eqG _ _ (by omega)]; exact y2) (by rw [eqG _ _ (by omega)]; exact z5) (if_y rfl (wm_y w (if_n t10 (wm_y w2 (if_n t10 ?_)))))
              rw [eqG _ _ (by omega), s3, nI_1]
              refine if_n (fun z => by have := (nI_eq (b := 30) (by omega) (by omega)).mp z; omega) ?_
              have v0 : ∀ q m, 121 ≤ q → ¬ (q = 121 ∧ m = 18) → (upF G 121 18 (nI (s + 1))) q m = F q m := fun q m a b => by
                by_cases z : q = 121
                · subst z; rw [upF_eq, pk_un (by omega), eqG _ _ (by omega)]
                · rw [upF_ne _ _ _ z, eqG _ _ a]
              refine m_swings hk z1 ok c5 (by omega) (MgP_tr (fun q k u => v0 q k (by omega) (by omega)) h1.2.1) (MpL_tr (fun q k u v => v0 q k (by omega) (by omega)) mL) (fun k hk => by rw [v0 _ _ (by omega) (by omega), c2 k hk]) (fun k hk => by rw [v0 _ _ (by omega) (by omega), c3 k hk]) (by rw [v0 _ _ (by omega) (by omega), c4]) (fun H k1 => ?_)
              have hv := Inv_se hI ⟨s1, s2, s3⟩ w3 gq k1
              unfold wp_X12_bestSwing_175 at hr ⊢
              refine if_c (fun z => ?_) (fun z => if_c (fun y => ?_) (fun y => ?_))
              · rw [if_pos z] at hr; exact ⟨hr, hv⟩
              · rw [if_neg z, if_pos y] at hr; exact ⟨hr, hv⟩
              · rw [if_neg z, if_neg y] at hr; exact ⟨hr, hv⟩
            refine if_c (fun z => fin _ ?_) (fun z => if_c (fun y => fin _ ?_) (fun y => ?_))
            · unfold wp_X12_bestSwing_175; exact if_y z rfl
            · unfold wp_X12_bestSwing_175; exact if_n z (if_y y rfl)
            · unfold wp_X2_swingOf
              refine fin _ ?_
              unfold wp_X12_bestSwing_175; exact if_n z (if_n y rfl)
          · have e30 : s = 30 := by omega
            refine if_n (nI_nlt (b := 30) (by omega) (by omega)) ?_
            unfold wp_X12_bestSwing
            exact m_barsY y2 z5 (if_y rfl (wm_y w (if_n t10 (wm_y w2 (if_n t10 (if_y (by rw [s3, e30]; rfl) ⟨rfl, Inv_s hI⟩))))))
        · refine wx_n w2 (if_y rfl ?_)
          unfold wp_X12_bestSwing
          exact m_barsY y2 z5 (if_y rfl (wm_y w (if_n t10 (wm_n w2 (if_y rfl ⟨rfl, Inv_s hI⟩)))))
      · refine wx_n w (if_y rfl ?_)
        unfold wp_X12_bestSwing
        exact m_barsY y2 z5 (if_y rfl (wm_n w (if_y rfl ⟨rfl, Inv_s hI⟩)))
