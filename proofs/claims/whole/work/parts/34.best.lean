/-! the best fire -/
theorem s_variant {k2 : Nat} {L : Pl} {F : gS} {Q : gS → Prop} (a2 : 37 ≤ k2 ∧ k2 < 48) (hns : L.2.2.2.2.1 ≤ 6) (gL : AgL F k2 L) (h : ∀ G, (∀ q, q ≠ 24 → q ≠ 25 → G q = F q) → AgL G 24 L → Q G) : wp_X7_become_ 24 k2 F Q := by
  obtain ⟨l1, l2, l3, l4, l5, l6⟩ := gL
  have ne : ∀ (F : gS) (k : Nat) (v : Int32), (upF F 24 k v) k2 = F k2 := fun F k v => upF_ne _ _ _ (by omega)
  unfold wp_X7_become_
  dsimp only [Nm]
  simp only [ne]
  rw [cpy_pt, l1, l2, l3, l4, l5]
  refine h _ (fun q h1 h2 => ?_) ⟨?_, ?_, ?_, ?_, ?_, fun i hi => ?_⟩
  · rw [upR_ne _ _ h2, upF_ne _ _ _ h1, upF_ne _ _ _ h1, upF_ne _ _ _ h1, upF_ne _ _ _ h1, upF_ne _ _ _ h1]
  · rw [upR_ne _ _ (by omega), upF_eq, pk_un (by omega), upF_eq, pk_un (by omega), upF_eq, pk_un (by omega), upF_eq, pk_un (by omega), upF_eq, pk_us]
  · rw [upR_ne _ _ (by omega), upF_eq, pk_un (by omega), upF_eq, pk_un (by omega), upF_eq, pk_un (by omega), upF_eq, pk_us]
  · rw [upR_ne _ _ (by omega), upF_eq, pk_un (by omega), upF_eq, pk_un (by omega), upF_eq, pk_us]
  · rw [upR_ne _ _ (by omega), upF_eq, pk_un (by omega), upF_eq, pk_us]
  · rw [upR_ne _ _ (by omega), upF_eq, pk_us]
  · rw [upR_eq, pt_lt _ _ (by omega), upF_ne _ _ _ (by omega), upF_ne _ _ _ (by omega), upF_ne _ _ _ (by omega), upF_ne _ _ _ (by omega), upF_ne _ _ _ (by omega), l6 i hi]
theorem wO_sm {k : Int32} (h : sm 5 k) : sm 10 (wO k) := by
  obtain ⟨a, ha, rfl⟩ := h
  rcases (by omega : a = 0 ∨ a = 1 ∨ a = 2 ∨ a = 3 ∨ a = 4 ∨ a = 5) with rfl | rfl | rfl | rfl | rfl | rfl
  · exact ⟨10, by omega, by decide⟩
  · exact ⟨4, by omega, by decide⟩
  · exact ⟨6, by omega, by decide⟩
  · exact ⟨1, by omega, by decide⟩
  · exact ⟨5, by omega, by decide⟩
  · exact ⟨2, by omega, by decide⟩
theorem bkD6 (P : Pn) (L : Pl) (c : Cd) : sm 10 (bkD P L c 6) := wO_sm (kdO_sm _ _ _)
def worS (P : Pn) (L : Pl) (c : Cd) : Nat → Int32
  | 0 => 0
  | k + 1 => worS P L c k + bkD P L (bkI P L c k) 6
theorem worS_sm (P : Pn) (L : Pl) (c : Cd) : ∀ k, sm (10 * k) (worS P L c k)
  | 0 => ⟨0, by omega, rfl⟩
  | k + 1 => by
    obtain ⟨a, ha, e⟩ := worS_sm P L c k
    obtain ⟨b, hb, e2⟩ := bkD6 P L (bkI P L c k)
    show sm (10 * (k + 1)) (worS P L c k + bkD P L (bkI P L c k) 6)
    rw [e, e2, nI_add]
    exact ⟨a + b, by omega, rfl⟩
theorem sm_nm1 {B : Nat} {x : Int32} (h : sm B x) (hB : B < 2 ^ 31) : ¬ x ≤ -1 := by
  obtain ⟨a, ha, rfl⟩ := h
  intro q
  rw [Int32.le_iff_toInt_le, nI_toInt (by omega)] at q
  have : (-1 : Int32).toInt = -1 := by decide
  omega
theorem s_worthOf {k : Nat} {P : Pn} {L : Pl} {c : Cd} {F : gS} {Q : Int32 → gS → Prop} (hk : k < 2 ^ 20) (hP : okP P) (hL : okL L) (hc : okC P c) (gP : AgP F P) (gL : AgL F 24 L) (gC : AgC F 26 P c)
    (h : ∀ G, serX F G → Q (worS P L c k) G) : wp_X2_worthOf 26 (nI k) F Q := by
  have h16 : nn P ≤ 16 := RC16 hP.1 hP.2.1
  unfold wp_X2_worthOf
  refine s_become (by omega) (by omega) (by omega) (fun G g1 g2 g3 g4 => ?_)
  refine for3 k (fun i F' x3 => serX F F' ∧ AgC F' 15 P (bkI P L c i) ∧ x3 = worS P L c i) (by omega) (fun K i F' x3 hi hI hK => ?_) (fun K F' x3 hI => ?_) 0 G 0 (Nat.zero_le _) ⟨fun q x1 x2 x3 x4 x5 x6 x7 => g1 q x3 x4 x5, become_ag h16 g2 g3 g4 gC, rfl⟩
  · obtain ⟨j1, j2, rfl⟩ := hI
    unfold wb_X2_worthOf_13
    refine if_n (nI_ge hi (by omega)) ?_
    refine s_bake15 hP hL (bkI_ok hP hL hc i) (Or.inl rfl) (AgP_tr (fun q j u => by rw [j1 q (by omega) (by omega) (by omega) (by omega) (by omega) (by omega) (by omega)]) gP) (AgL_tr (fun q j u => by rw [j1 q (by omega) (by omega) (by omega) (by omega) (by omega) (by omega) (by omega)]) gL) j2 (fun H h1 h2 h3 => ⟨i7 6 (by omega), hK _ _ ⟨j1.tr h1, h2, ?_⟩⟩)
    rw [t6c, h3 6 (by omega)]; rfl
  · obtain ⟨j1, j2, rfl⟩ := hI
    unfold wb_X2_worthOf_13
    exact if_y (nI_le (Nat.le_refl _) (by omega)) (h F' j1)
def Lf (L : Pl) (f : Nat) : Pl := (nI f, L.2)
theorem Lf_ok {L : Pl} {f : Nat} (h : okL L) (hf : f ≤ 9) : okL (Lf L f) := ⟨⟨f, hf, rfl⟩, h.2⟩
def bfN (ws : Nat → Int32) : Nat → Int32 × Int32
  | 0 => (0, -1)
  | f + 1 => if ws (f + 1) ≤ (bfN ws f).2 then bfN ws f else (nI (f + 1), ws (f + 1))
theorem s_fire {k2 k : Nat} {P : Pn} {L : Pl} {c : Cd} {F : gS} {Q : gS → Prop} (hk : k < 2 ^ 20) (hP : okP P) (hL : okL L) (hc : okC P c) (a2 : 37 ≤ k2 ∧ k2 < 48) (gP : AgP F P) (gL : AgL F k2 L) (gC : AgC F 26 P c)
    (h : ∀ G, wid F G → G 14 5 = (bfN (fun f => worS P (Lf L f) c k) 9).1 → G 14 7 = (bfN (fun f => worS P (Lf L f) c k) 9).2 → Q G) : wp_X2_findFire 26 k2 (nI k) F Q := by
  unfold wp_X2_findFire
  refine s_variant a2 hL.2.2.2.2 gL (fun G g1 g2 => ?_)
  refine for2 10 (fun f F' => wid F F' ∧ (∃ v, AgL F' 24 (v, L.2)) ∧ F' 14 7 = (bfN (fun f => worS P (Lf L f) c k) (f - 1)).2 ∧ (2 ≤ f → F' 14 5 = (bfN (fun f => worS P (Lf L f) c k) (f - 1)).1) ∧ 1 ≤ f) (by omega) (fun K f F' hf hI hK => ?_) (fun K F' hI => ?_) 1 _ (by omega) ⟨fun q u => by rw [upF_ne _ _ _ (by omega), g1 q (by omega) (by omega)], ⟨L.1, AgL_tr (fun q j u => by rw [upF_ne _ _ _ (by omega)]) g2⟩, by rw [upF_eq, pk_us]; rfl, fun q => absurd q (by omega), by omega⟩
  · obtain ⟨j1, ⟨v, j2⟩, j3, j4, j5⟩ := hI
    obtain ⟨m, rfl⟩ : ∃ m, f = m + 1 := ⟨f - 1, by omega⟩
    unfold wb_X2_findFire_16
    refine if_n (nI_nlt (b := m + 1) (a := 9) (by omega) (by omega)) ?_
    have w1 : wid F (upF F' 24 1 (nI (m + 1))) := fun q u => by rw [upF_ne _ _ _ (by omega), j1 q u]
    have gl : AgL (upF F' 24 1 (nI (m + 1))) 24 (Lf L (m + 1)) := by
      obtain ⟨l1, l2, l3, l4, l5, l6⟩ := j2
      exact ⟨by rw [upF_eq, pk_us]; rfl, by rw [upF_eq, pk_un (by omega), l2]; rfl, by rw [upF_eq, pk_un (by omega), l3]; rfl, by rw [upF_eq, pk_un (by omega), l4]; rfl, by rw [upF_eq, pk_un (by omega), l5]; rfl, fun i hi => by rw [upF_ne _ _ _ (by omega), l6 i hi]; rfl⟩
    refine s_worthOf hk hP (Lf_ok hL (by omega)) hc (w1.P gP) gl (w1.C gC) (fun H h1 => ?_)
    have w2 := w1.tr h1.w
    have e14 : H 14 = F' 14 := by rw [h1 14 (by omega) (by omega) (by omega) (by omega) (by omega) (by omega) (by omega), upF_ne _ _ _ (by omega)]
    have gl2 : AgL H 24 (Lf L (m + 1)) := AgL_tr (fun q j u => by rw [h1 q (by omega) (by omega) (by omega) (by omega) (by omega) (by omega) (by omega)]) gl
    have eb : bfN (fun f => worS P (Lf L f) c k) (m + 1) = if worS P (Lf L (m + 1)) c k ≤ (bfN (fun f => worS P (Lf L f) c k) m).2 then bfN (fun f => worS P (Lf L f) c k) m else (nI (m + 1), worS P (Lf L (m + 1)) c k) := rfl
    rw [e14, j3]
    show if worS P (Lf L (m + 1)) c k ≤ (bfN (fun f => worS P (Lf L f) c k) m).2 then _ else _
    refine if_c (fun z => ?_) (fun z => ?_)
    · refine hK _ ⟨w2, ⟨_, gl2⟩, ?_, fun _ => ?_, by omega⟩
      · rw [e14, j3]; show _ = (bfN (fun f => worS P (Lf L f) c k) (m + 1)).2; rw [eb, if_pos z]; rfl
      · have m1 : 2 ≤ m + 1 := by
          rcases Nat.eq_zero_or_pos m with y | y
          · subst y
            exact absurd z (sm_nm1 (worS_sm _ _ _ _) (by omega))
          · omega
        rw [e14, j4 m1]; show _ = (bfN (fun f => worS P (Lf L f) c k) (m + 1)).1; rw [eb, if_pos z]; rfl
    · refine hK _ ⟨fun q u => by rw [upF_ne _ _ _ (by omega), upF_ne _ _ _ (by omega), w2 q u], ⟨_, AgL_tr (fun q j u => by rw [upF_ne _ _ _ (by omega), upF_ne _ _ _ (by omega)]) gl2⟩, ?_, fun _ => ?_, by omega⟩
      · rw [upF_eq, pk_un (by omega), upF_eq, pk_us]; show _ = (bfN (fun f => worS P (Lf L f) c k) (m + 1)).2; rw [eb, if_neg z]
      · rw [upF_eq, pk_us]; show _ = (bfN (fun f => worS P (Lf L f) c k) (m + 1)).1; rw [eb, if_neg z]
  · obtain ⟨j1, j2, j3, j4, j5⟩ := hI
    unfold wb_X2_findFire_16
    exact if_y (nI_lt (a := 9) (b := 10) (by omega) (by omega)) (h F' j1 (j4 (by omega)) j3)
theorem m_fire {j k : Nat} {x3 : Int32} {P : Pn} {L : Pl} {c : Cd} {F : gS} {Q : Int32 → gS → Prop} (hk : k < 2 ^ 20) (hP : okP P) (hL : okL L) (hc : okC P c) (hj : j < 6) (gP : MgP F P) (gL : MpL F j L) (c1 : ∀ j, j < nn P → F 124 j = c.1 j) (c2 : ∀ j, j < nn P → F 125 j = c.2.1 j) (c3 : F 121 7 = c.2.2)
    (h : ∀ G, serM F G → if x3 = 0 then Q (bfN (fun f => worS P (Lf L f) c k) 9).1 G else Q (bfN (fun f => worS P (Lf L f) c k) 9).2 G) : LP4 (wb_X12_bestFire_46 Q (nI j) (nI k) x3) F 0 (-1) 1 := by
  refine for4 10 (fun f F' x5 x6 => serM F F' ∧ x5 = (bfN (fun f => worS P (Lf L f) c k) (f - 1)).1 ∧ x6 = (bfN (fun f => worS P (Lf L f) c k) (f - 1)).2 ∧ 1 ≤ f) (by omega) (fun K f F' x5 x6 hf hI hK => ?_) (fun K F' x5 x6 hI => ?_) 1 F 0 (-1) (by omega) ⟨⟨fun _ _ _ => rfl, fun _ _ => rfl⟩, rfl, rfl, by omega⟩
  · obtain ⟨j1, rfl, rfl, j5⟩ := hI
    obtain ⟨m, rfl⟩ : ∃ m, f = m + 1 := ⟨f - 1, by omega⟩
    unfold wb_X12_bestFire_46
    refine if_n (nI_ge (b := 10) (a := m + 1) (by omega) (by omega)) ?_
    refine m_load hP hL hj (j1.P gP) (j1.L gL) (fun i hi => by rw [j1.1 _ (by omega) (by omega), c1 i hi]) (fun i hi => by rw [j1.1 _ (by omega) (by omega), c2 i hi]) (by rw [j1.2 _ (by omega), c3]) (fun G g1 g2 g3 => ?_)
    have s1 : serM F (upF G 121 44 (nI (m + 1))) := ⟨fun q a b => by rw [upF_ne _ _ _ a, (j1.tr g1).1 q a b], fun i hi => by rw [upF_eq, pk_un (by omega), (j1.tr g1).2 i hi]⟩
    have l1 : MgL (upF G 121 44 (nI (m + 1))) (Lf L (m + 1)) := by
      obtain ⟨q1, q2, q3, q4, q5, q6⟩ := g2
      exact ⟨by rw [upF_eq, pk_us]; rfl, by rw [upF_eq, pk_un (by omega), q2]; rfl, by rw [upF_eq, pk_un (by omega), q3]; rfl, by rw [upF_eq, pk_un (by omega), q4]; rfl, by rw [upF_eq, pk_un (by omega), q5]; rfl, fun i hi => by rw [upF_ne _ _ _ (by omega), q6 i hi]; rfl⟩
    have d1 : MgC (upF G 121 44 (nI (m + 1))) P c := ⟨fun i hi => by rw [upF_ne _ _ _ (by omega), g3.1 i hi], fun i hi => by rw [upF_ne _ _ _ (by omega), g3.2.1 i hi], by rw [upF_eq, pk_un (by omega), g3.2.2]⟩
    have eb : bfN (fun f => worS P (Lf L f) c k) (m + 1) = if worS P (Lf L (m + 1)) c k ≤ (bfN (fun f => worS P (Lf L f) c k) m).2 then bfN (fun f => worS P (Lf L f) c k) m else (nI (m + 1), worS P (Lf L (m + 1)) c k) := rfl
    refine for3 k (fun i F2 x8 => serM F F2 ∧ MgL F2 (Lf L (m + 1)) ∧ MgC F2 P (bkI P (Lf L (m + 1)) c i) ∧ x8 = worS P (Lf L (m + 1)) c i) (by omega) (fun K2 i F2 x8 hi hI hK2 => ?_) (fun K2 F2 x8 hI => ?_) 0 _ 0 (Nat.zero_le _) ⟨s1, l1, d1, rfl⟩
    · obtain ⟨n1, n2, n3, rfl⟩ := hI
      unfold wb_X12_bestFire_74
      refine if_n (nI_ge hi (by omega)) ?_
      refine m_cake hP (Lf_ok hL (by omega)) (bkI_ok hP (Lf_ok hL (by omega)) hc i) (n1.P gP) n2 n3 (fun H h1 h2 h3 h4 h5 h6 h7 => hK2 _ _ ⟨n1.tr h1, h2, h3, ?_⟩)
      rw [h5 6 (by omega)]; rfl
    · obtain ⟨n1, n2, n3, rfl⟩ := hI
      unfold wb_X12_bestFire_74 wp_X12_bestFire_113
      refine if_y (nI_le (Nat.le_refl _) (by omega)) ?_
      show if worS P (Lf L (m + 1)) c k ≤ (bfN (fun f => worS P (Lf L f) c k) m).2 then _ else _
      refine if_c (fun z => if_y z (hK _ _ _ ⟨n1, ?_, ?_, by omega⟩)) (fun z => if_n z (hK _ _ _ ⟨n1, ?_, ?_, by omega⟩))
      · show _ = (bfN (fun f => worS P (Lf L f) c k) (m + 1)).1; rw [eb, if_pos z]; rfl
      · show _ = (bfN (fun f => worS P (Lf L f) c k) (m + 1)).2; rw [eb, if_pos z]; rfl
      · show _ = (bfN (fun f => worS P (Lf L f) c k) (m + 1)).1; rw [eb, if_neg z]
      · show _ = (bfN (fun f => worS P (Lf L f) c k) (m + 1)).2; rw [eb, if_neg z]
  · obtain ⟨j1, e5, e6, j5⟩ := hI
    have e9 : (10 : Nat) - 1 = 9 := rfl
    rw [e9] at e5 e6
    unfold wb_X12_bestFire_46
    rw [e5, e6]
    exact if_y (nI_le (a := 10) (Nat.le_refl _) (by omega)) (h F' j1)
theorem T_bestFire {i : Nat} {x1 x2 x3 : Int32} {F : gS} (hi : i < 2 ^ 20) (h : Inv i F) : wp_X11_bestFire x1 x2 x3 F (fun r G => wp_X12_bestFire x1 x2 x3 G (fun r' H => r = r' ∧ Inv (i + 1) H)) := by
  have hI := h
  obtain ⟨P, p, np, nc, c, len, s, h1, h2, h3, h4, h5, h6, h7⟩ := h
  unfold wp_X11_bestFire wp_X11_isPlan
  rcases isPlanB h2 x1 with ⟨n1, n2⟩ | ⟨y1, y2, j, hj, rfl⟩
  · exact wx_n n1 (if_y rfl (m_bars n2 (if_n (by decide) ⟨rfl, Inv_s hI⟩)))
  · refine wx_y y1 (if_n t10 ?_)
    rcases pan_or hi h1 with ⟨z1, z2, z3, z4⟩ | ⟨z1, z2, z3, z4, z5, z6⟩
    · exact x_panN z3 (if_y rfl (m_barsS y2 z4 (if_n (by decide) ⟨rfl, Inv_s hI⟩)))
    · refine x_panY z4 (if_n t10 ?_)
      have hnp := h2.1
      by_cases w : wtB x2 1 12 = true
      · refine wx_y w (if_n t10 ?_)
        by_cases w2 : wtB x3 0 1 = true
        · refine wx_y w2 (if_n t10 ⟨vp_in_nI (by omega) (by omega), ?_⟩)
          obtain ⟨k, hk0, hk, rfl⟩ := wt_rng (a := 1) (b := 12) (by omega) (by omega) w
          obtain ⟨L, ok, gL, mL⟩ := h2.2.2.2 j hj
          obtain ⟨c1, c2, c3, c4, c5, c6⟩ := h4
          rw [nI_clamp (by omega)]
          refine s_fire (by omega) z1 ok c5 (by omega) h1.1 gL c1 (fun G gq e5 e7 => ?_)
          have eqG : ∀ q k, 121 ≤ q → G q k = F q k := fun q k u => by rw [gq q (by omega)]
          have fin : ∀ r, (if x3 = 0 then r = (bfN (fun f => worS P (Lf L f) c k) 9).1 else r = (bfN (fun f => worS P (Lf L f) c k) 9).2) → wp_X12_bestFire (nI j) (nI k) x3 G (fun r' H => r = r' ∧ Inv (i + 1) H) := by
            intro r hr
            unfold wp_X12_bestFire
            refine m_barsY (by rw [gq 121 (by omega)]; exact y2) (by rw [gq 121 (by omega)]; exact z5) (if_y rfl (wm_y w (if_n t10 (wm_y w2 (if_n t10 ?_)))))
            refine m_fire (by omega) z1 ok c5 (by omega) (MgP_tr (fun q k u => eqG q k (by omega)) h1.2.1) (MpL_tr (fun q k u v => eqG q k (by omega)) mL) (fun k hk => by rw [eqG _ _ (by omega), c2 k hk]) (fun k hk => by rw [eqG _ _ (by omega), c3 k hk]) (by rw [eqG _ _ (by omega), c4]) (fun H k1 => ?_)
            refine if_c (fun z => ?_) (fun z => ?_)
            · rw [if_pos z] at hr; exact ⟨hr, Inv_xm hI gq k1⟩
            · rw [if_neg z] at hr; exact ⟨hr, Inv_xm hI gq k1⟩
          refine if_c (fun z => fin _ (by rw [if_pos z]; exact e5)) (fun z => fin _ (by rw [if_neg z]; exact e7))
        · refine wx_n w2 (if_y rfl ?_)
          unfold wp_X12_bestFire
          exact m_barsY y2 z5 (if_y rfl (wm_y w (if_n t10 (wm_n w2 (if_y rfl ⟨rfl, Inv_s hI⟩)))))
      · refine wx_n w (if_y rfl ?_)
        unfold wp_X12_bestFire
        exact m_barsY y2 z5 (if_y rfl (wm_n w (if_y rfl ⟨rfl, Inv_s hI⟩)))
