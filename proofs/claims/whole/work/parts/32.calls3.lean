/-! series: from which one on, how many go to the dog -/
theorem MpL_tr {F G : gS} {i : Nat} {L : Pl} (e : ∀ q k, 126 ≤ q → q ≤ 131 → G q k = F q k) (h : MpL F i L) : MpL G i L := by
  obtain ⟨m1, m2, m3, m4, m5, m6⟩ := h
  exact ⟨by rw [e _ _ (by omega) (by omega), m1], by rw [e _ _ (by omega) (by omega), m2], by rw [e _ _ (by omega) (by omega), m3], by rw [e _ _ (by omega) (by omega), m4], by rw [e _ _ (by omega) (by omega), m5], fun i hi => by rw [e _ _ (by omega) (by omega), m6 i hi]⟩
theorem MgL_tr {F G : gS} {L : Pl} (e : ∀ q k, (q = 142 ∨ (q = 121 ∧ 44 ≤ k ∧ k ≤ 48)) → G q k = F q k) (h : MgL F L) : MgL G L := by
  obtain ⟨m1, m2, m3, m4, m5, m6⟩ := h
  exact ⟨by rw [e _ _ (by omega), m1], by rw [e _ _ (by omega), m2], by rw [e _ _ (by omega), m3], by rw [e _ _ (by omega), m4], by rw [e _ _ (by omega), m5], fun i hi => by rw [e _ _ (by omega), m6 i hi]⟩
def bkI (P : Pn) (L : Pl) (c : Cd) : Nat → Cd
  | 0 => c
  | i + 1 => bk P L (bkI P L c i)
theorem bkI_ok {P : Pn} {L : Pl} {c : Cd} (hP : okP P) (hL : okL L) (hc : okC P c) : ∀ i, okC P (bkI P L c i)
  | 0 => hc
  | i + 1 => bk_ok hP hL (bkI_ok hP hL hc i)
def kdI (P : Pn) (L : Pl) (c : Cd) : Nat → Int32 := fun i => bkD P L (bkI P L c i) 0
def fiN (kd : Nat → Int32) : Nat → Int32
  | 0 => 0
  | i + 1 => if kd i = 0 then fiN kd i else nI i + 1
def doN (kd : Nat → Int32) : Nat → Int32
  | 0 => 0
  | i + 1 => if kd i = 0 then doN kd i else doN kd i + 1
def frN (kd : Nat → Int32) : Nat → Int32
  | 0 => -1
  | i + 1 => if kd i = 0 then (if frN kd i = -1 then nI i else frN kd i) else -1
theorem fr_eq (kd : Nat → Int32) : ∀ i, i < 2 ^ 20 → ∃ a : Nat, a ≤ i ∧ fiN kd i = nI a ∧ frN kd i = if a = i then -1 else nI a
  | 0, _ => ⟨0, by omega, rfl, rfl⟩
  | i + 1, hi => by
    obtain ⟨a, ha, e1, e2⟩ := fr_eq kd i (by omega)
    by_cases q : kd i = 0
    · refine ⟨a, by omega, ?_, ?_⟩
      · show (if kd i = 0 then _ else _) = _; rw [if_pos q, e1]
      · show (if kd i = 0 then _ else _) = _
        rw [if_pos q, e2, if_neg (by omega : ¬ a = i + 1)]
        by_cases z : a = i
        · rw [if_pos z, if_pos rfl, z]
        · rw [if_neg z, if_neg (nI_m1 (by omega))]
    · refine ⟨i + 1, by omega, ?_, ?_⟩
      · show (if kd i = 0 then _ else _) = _; rw [if_neg q, nI_1]
      · show (if kd i = 0 then _ else _) = _; rw [if_neg q, if_pos rfl]
theorem from_eq (kd : Nat → Int32) : (if 12 ≤ fiN kd 12 then (-1) else fiN kd 12) = frN kd 12 := by
  obtain ⟨a, ha, e1, e2⟩ := fr_eq kd 12 (by omega)
  rw [e1, e2]
  by_cases z : a = 12
  · subst z; decide
  · rw [if_neg z, if_neg (show ¬ 12 ≤ nI a from nI_ge (b := 12) (by omega) (by omega))]
def serX (F G : gS) : Prop := ∀ q, q ≠ 12 → q ≠ 13 → q ≠ 15 → q ≠ 16 → q ≠ 17 → q ≠ 22 → q ≠ 23 → G q = F q
theorem serX.tr {F G H : gS} (h : serX F G) (h2 : serX G H) : serX F H := fun q a b c d e f g => by rw [h2 q a b c d e f g, h q a b c d e f g]
theorem s_bake15 {k2 : Nat} {P : Pn} {L : Pl} {c : Cd} {F : gS} {Q : gS → Prop} (hP : okP P) (hL : okL L) (hc : okC P c) (a2 : k2 = 24 ∨ (37 ≤ k2 ∧ k2 < 48)) (gP : AgP F P) (gL : AgL F k2 L) (gC : AgC F 15 P c)
    (h : ∀ G, serX F G → AgC G 15 P (bk P L c) → (∀ j, j < 7 → G 23 j = bkD P L c j) → Q G) : wp_X5_bake 15 k2 21 F Q :=
  s_bake hP hL hc ⟨by omega, a2, by omega⟩ gP gL gC (fun G g1 g2 g3 g4 g5 => h G (fun q x1 x2 x3 x4 x5 x6 x7 => g1 q x1 x2 x3 x4 x5 x6 x7) g2 g4)
theorem s_isRight {F : gS} {Q : Int32 → Prop} {v : Int32} (e : F 23 0 = v) (h1 : v = 0 → Q 1) (h0 : ¬ v = 0 → Q 0) : wp_X0_isRight 21 F Q := by
  unfold wp_X0_isRight
  rw [t0c]
  refine ⟨i7 0 (by omega), ?_⟩
  show if F 23 0 = 0 then _ else _
  rw [e]
  exact if_c h1 h0
theorem s_first {k2 : Nat} {P : Pn} {L : Pl} {c : Cd} {F : gS} {Q : Int32 → gS → Prop} (hP : okP P) (hL : okL L) (hc : okC P c) (a2 : 37 ≤ k2 ∧ k2 < 48) (gP : AgP F P) (gL : AgL F k2 L) (gC : AgC F 26 P c)
    (h : ∀ G, serX F G → Q (frN (kdI P L c) 12) G) : wp_X2_firstOfTheRight 26 k2 F Q := by
  have h16 : nn P ≤ 16 := RC16 hP.1 hP.2.1
  unfold wp_X2_firstOfTheRight
  refine s_become (by omega) (by omega) (by omega) (fun G g1 g2 g3 g4 => ?_)
  refine for3 12 (fun i F' x3 => serX F F' ∧ AgC F' 15 P (bkI P L c i) ∧ x3 = fiN (kdI P L c) i) (by omega) (fun K i F' x3 hi hI hK => ?_) (fun K F' x3 hI => ?_) 0 G 0 (Nat.zero_le _) ⟨fun q x1 x2 x3 x4 x5 x6 x7 => g1 q x3 x4 x5, become_ag h16 g2 g3 g4 gC, rfl⟩
  · obtain ⟨j1, j2, rfl⟩ := hI
    unfold wb_X2_firstOfTheRight_13
    refine if_n (nI_ge (b := 12) hi (by omega)) ?_
    refine s_bake15 hP hL (bkI_ok hP hL hc i) (Or.inr a2) (AgP_tr (fun q j u => by rw [j1 q (by omega) (by omega) (by omega) (by omega) (by omega) (by omega) (by omega)]) gP) (AgL_tr (fun q j u => by rw [j1 q (by omega) (by omega) (by omega) (by omega) (by omega) (by omega) (by omega)]) gL) j2 (fun H h1 h2 h3 => ?_)
    refine s_isRight (v := kdI P L c i) (h3 0 (by omega)) (fun z => if_n t10 (hK _ _ ⟨j1.tr h1, h2, ?_⟩)) (fun z => if_y rfl (hK _ _ ⟨j1.tr h1, h2, ?_⟩))
    · show _ = if kdI P L c i = 0 then _ else _; rw [if_pos z]
    · show _ = if kdI P L c i = 0 then _ else _; rw [if_neg z]
  · obtain ⟨j1, j2, rfl⟩ := hI
    unfold wb_X2_firstOfTheRight_13
    have hh := h F' j1
    rw [← from_eq] at hh
    refine if_y (nI_le (a := 12) (Nat.le_refl _) (by omega)) (if_c (fun z => ?_) (fun z => ?_))
    · rw [if_pos z] at hh; exact hh
    · rw [if_neg z] at hh; exact hh
theorem s_dogs {k2 : Nat} {P : Pn} {L : Pl} {c : Cd} {F : gS} {Q : Int32 → gS → Prop} (hP : okP P) (hL : okL L) (hc : okC P c) (a2 : 37 ≤ k2 ∧ k2 < 48) (gP : AgP F P) (gL : AgL F k2 L) (gC : AgC F 26 P c)
    (h : ∀ G, serX F G → Q (doN (kdI P L c) 12) G) : wp_X2_notRight 26 k2 F Q := by
  have h16 : nn P ≤ 16 := RC16 hP.1 hP.2.1
  unfold wp_X2_notRight
  refine s_become (by omega) (by omega) (by omega) (fun G g1 g2 g3 g4 => ?_)
  refine for3 12 (fun i F' x3 => serX F F' ∧ AgC F' 15 P (bkI P L c i) ∧ x3 = doN (kdI P L c) i) (by omega) (fun K i F' x3 hi hI hK => ?_) (fun K F' x3 hI => ?_) 0 G 0 (Nat.zero_le _) ⟨fun q x1 x2 x3 x4 x5 x6 x7 => g1 q x3 x4 x5, become_ag h16 g2 g3 g4 gC, rfl⟩
  · obtain ⟨j1, j2, rfl⟩ := hI
    unfold wb_X2_notRight_13
    refine if_n (nI_ge (b := 12) hi (by omega)) ?_
    refine s_bake15 hP hL (bkI_ok hP hL hc i) (Or.inr a2) (AgP_tr (fun q j u => by rw [j1 q (by omega) (by omega) (by omega) (by omega) (by omega) (by omega) (by omega)]) gP) (AgL_tr (fun q j u => by rw [j1 q (by omega) (by omega) (by omega) (by omega) (by omega) (by omega) (by omega)]) gL) j2 (fun H h1 h2 h3 => ?_)
    refine s_isRight (v := kdI P L c i) (h3 0 (by omega)) (fun z => if_n t10 (hK _ _ ⟨j1.tr h1, h2, ?_⟩)) (fun z => if_y rfl (hK _ _ ⟨j1.tr h1, h2, ?_⟩))
    · show _ = if kdI P L c i = 0 then _ else _; rw [if_pos z]
    · show _ = if kdI P L c i = 0 then _ else _; rw [if_neg z]
  · obtain ⟨j1, j2, rfl⟩ := hI
    unfold wb_X2_notRight_13
    exact if_y (nI_le (a := 12) (Nat.le_refl _) (by omega)) (h F' j1)
/-- what the other side's frying may touch -/
def serM (F G : gS) : Prop := (∀ q, q ≠ 121 → q < 140 → G q = F q) ∧ (∀ k, (k < 43 ∨ 62 < k) → G 121 k = F 121 k)
theorem serM.tr {F G H : gS} (h : serM F G) (h2 : serM G H) : serM F H := ⟨fun q a b => by rw [h2.1 q a b, h.1 q a b], fun k a => by rw [h2.2 k a, h.2 k a]⟩
theorem serM.P {F G : gS} {P : Pn} (h : serM F G) (g : MgP F P) : MgP G P := MgP_tr (fun q k u => by
  by_cases z : q = 121
  · subst z; exact h.2 k (by omega)
  · rw [h.1 q z (by omega)]) g
theorem serM.L {F G : gS} {j : Nat} {L : Pl} (h : serM F G) (g : MpL F j L) : MpL G j L := MpL_tr (fun q k u v => by rw [h.1 q (by omega) (by omega)]) g
theorem m_load {j : Nat} {P : Pn} {L : Pl} {c : Cd} {F : gS} {Q : gS → Prop} (hP : okP P) (hL : okL L) (hj : j < 6) (gP : MgP F P) (gL : MpL F j L) (c1 : ∀ j, j < nn P → F 124 j = c.1 j) (c2 : ∀ j, j < nn P → F 125 j = c.2.1 j) (c3 : F 121 7 = c.2.2)
    (h : ∀ G, serM F G → MgL G L → MgC G P c → Q G) : wp_X12_loadPan F (fun F2 => wp_X12_loadPlan (nI j) F2 Q) := by
  have h16 : nn P ≤ 16 := RC16 hP.1 hP.2.1
  refine m_loadPan (fun G g1 g2 g3 g4 g5 => ?_)
  refine m_loadPlan (L := L) hj hL.2.2.2.2 (MpL_tr (fun q k x y => by rw [g1 q (by omega) (by omega) (by omega)]) gL) (fun H h1 h2 h3 => ?_)
  refine h H ⟨fun q a b => ?_, fun k hk => ?_⟩ h3 ⟨fun k hk => ?_, fun k hk => ?_, ?_⟩
  · rw [h1 q a (by omega), g1 q a (by omega) (by omega)]
  · rw [h2 k (by omega), g2 k (by omega)]
  · rw [h1 140 (by omega) (by omega), g4 k (by omega), c1 k hk]
  · rw [h1 141 (by omega) (by omega), g5 k (by omega), c2 k hk]
  · rw [h2 43 (by omega), g3, c3]
/-- a cake there, with all that stays -/
theorem m_cake {P : Pn} {L : Pl} {c : Cd} {F : gS} {Q : gS → Prop} (hP : okP P) (hL : okL L) (hc : okC P c) (gP : MgP F P) (gL : MgL F L) (gC : MgC F P c)
    (h : ∀ G, serM F G → MgL G L → MgC G P (bk P L c) → (∀ j, j < nn P → G 143 j = bkT P L c j) → (∀ j, j < 7 → G 121 (54 + j) = bkD P L c j) → (∀ k, 60 < k → G 121 k = F 121 k) → G 147 = F 147 → Q G) : wp_X12_goCake F Q := by
  refine m_goCake hP hL hc gP gL gC (fun G g1 g2 g3 g4 g5 => ?_)
  refine h G ⟨fun q a b => g1 q a (by omega) (by omega) (by omega) (by omega) (by omega) (by omega), fun k hk => g2 k (by omega) (by omega)⟩ (MgL_tr (fun q k u => ?_) gL) g3 g4 g5 (fun k hk => g2 k (by omega) (by omega)) (g1 147 (by omega) (by omega) (by omega) (by omega) (by omega) (by omega) (by omega))
  by_cases z : q = 121
  · subst z; exact g2 k (by omega) (by omega)
  · rw [g1 q z (by omega) (by omega) (by omega) (by omega) (by omega) (by omega)]
theorem m_twelve {j : Nat} {P : Pn} {L : Pl} {c : Cd} {F : gS} {Q : gS → Prop} (hP : okP P) (hL : okL L) (hc : okC P c) (hj : j < 6) (gP : MgP F P) (gL : MpL F j L) (c1 : ∀ j, j < nn P → F 124 j = c.1 j) (c2 : ∀ j, j < nn P → F 125 j = c.2.1 j) (c3 : F 121 7 = c.2.2)
    (h : ∀ G, serM F G → G 121 61 = frN (kdI P L c) 12 → G 121 62 = doN (kdI P L c) 12 → Q G) : wp_X12_layTwelve (nI j) F Q := by
  unfold wp_X12_layTwelve
  refine m_load hP hL hj gP gL c1 c2 c3 (fun G g1 g2 g3 => ?_)
  refine for2 12 (fun i F' => serM F F' ∧ MgL F' L ∧ MgC F' P (bkI P L c i) ∧ F' 121 61 = frN (kdI P L c) i ∧ F' 121 62 = doN (kdI P L c) i) (by omega) (fun K i F' hi hI hK => ?_) (fun K F' hI => ?_) 0 _ (Nat.zero_le _) ⟨⟨fun q a b => ?_, fun k hk => ?_⟩, MgL_tr (fun q k u => ?_) g2, ⟨fun k hk => ?_, fun k hk => ?_, ?_⟩, ?_, ?_⟩
  · obtain ⟨j1, j2, j3, j4, j5⟩ := hI
    unfold wb_X12_layTwelve_21
    refine if_n (nI_ge (b := 12) hi (by omega)) ?_
    refine m_cake hP hL (bkI_ok hP hL hc i) (j1.P gP) j2 j3 (fun H h1 h2 h3 h4 h5 h6 h7 => ?_)
    have k0 : H 121 54 = kdI P L c i := h5 0 (by omega)
    have k61 : H 121 61 = frN (kdI P L c) i := by rw [h6 61 (by omega), j4]
    have k62 : H 121 62 = doN (kdI P L c) i := by rw [h6 62 (by omega), j5]
    have fin : ∀ a b, a = frN (kdI P L c) (i + 1) → b = doN (kdI P L c) (i + 1) → K (upF (upF H 121 61 a) 121 62 b) (nI i + 1) := by
      intro a b ha hb
      refine hK _ ⟨⟨fun q x y => ?_, fun k hk => ?_⟩, MgL_tr (fun q k u => ?_) h2, ⟨fun k hk => ?_, fun k hk => ?_, ?_⟩, ?_, ?_⟩
      · rw [upF_ne _ _ _ x, upF_ne _ _ _ x, (j1.tr h1).1 q x y]
      · rw [upF_eq, pk_un (by omega), upF_eq, pk_un (by omega), (j1.tr h1).2 k hk]
      · by_cases z : q = 121
        · subst z; rw [upF_eq, pk_un (by omega), upF_eq, pk_un (by omega)]
        · rw [upF_ne _ _ _ z, upF_ne _ _ _ z]
      · rw [upF_ne _ _ _ (by omega), upF_ne _ _ _ (by omega)]; exact h3.1 k hk
      · rw [upF_ne _ _ _ (by omega), upF_ne _ _ _ (by omega)]; exact h3.2.1 k hk
      · rw [upF_eq, pk_un (by omega), upF_eq, pk_un (by omega)]; exact h3.2.2
      · rw [upF_eq, pk_un (by omega), upF_eq, pk_us, ha]
      · rw [upF_eq, pk_us, hb]
    have e62 : ∀ a, (upF H 121 61 a) 121 62 = doN (kdI P L c) i := fun a => by rw [upF_eq, pk_un (by omega), k62]
    rw [k0]
    refine if_c (fun z => ?_) (fun z => ?_)
    · have f1 : frN (kdI P L c) (i + 1) = if frN (kdI P L c) i = -1 then nI i else frN (kdI P L c) i := by show (if kdI P L c i = 0 then _ else _) = _; rw [if_pos z]
      have f2 : doN (kdI P L c) (i + 1) = doN (kdI P L c) i + 0 := by show (if kdI P L c i = 0 then _ else _) = _; rw [if_pos z]; simp
      unfold wp_X12_layTwelve_43 wp_X12_layTwelve_69
      refine if_n t10 ?_
      rw [k61]
      refine if_c (fun w => ?_) (fun w => ?_)
      · refine if_n t10 (fin _ _ (by rw [f1, if_pos w]) (by rw [e62, f2]))
      · refine if_n t10 (fin _ _ (by rw [f1, if_neg w]) (by rw [e62, f2]))
    · have f1 : frN (kdI P L c) (i + 1) = -1 := by show (if kdI P L c i = 0 then _ else _) = _; rw [if_neg z]
      have f2 : doN (kdI P L c) (i + 1) = doN (kdI P L c) i + 1 := by show (if kdI P L c i = 0 then _ else _) = _; rw [if_neg z]
      unfold wp_X12_layTwelve_43 wp_X12_layTwelve_69
      refine if_y rfl (if_y rfl (fin _ _ f1.symm (by rw [e62, f2])))
  · obtain ⟨j1, j2, j3, j4, j5⟩ := hI
    unfold wb_X12_layTwelve_21
    exact if_y (nI_le (a := 12) (Nat.le_refl _) (by omega)) (h F' j1 j4 j5)
  · rw [upF_ne _ _ _ a, upF_ne _ _ _ a, g1.1 q a b]
  · rw [upF_eq, pk_un (by omega), upF_eq, pk_un (by omega), g1.2 k hk]
  · by_cases z : q = 121
    · subst z; rw [upF_eq, pk_un (by omega), upF_eq, pk_un (by omega)]
    · rw [upF_ne _ _ _ z, upF_ne _ _ _ z]
  · rw [upF_ne _ _ _ (by omega), upF_ne _ _ _ (by omega)]; exact g3.1 k hk
  · rw [upF_ne _ _ _ (by omega), upF_ne _ _ _ (by omega)]; exact g3.2.1 k hk
  · rw [upF_eq, pk_un (by omega), upF_eq, pk_un (by omega)]; exact g3.2.2
  · rw [upF_eq, pk_un (by omega), upF_eq, pk_us]; rfl
  · rw [upF_eq, pk_us]; rfl
/-- behind calls that only try: all that counts has stayed -/
theorem Inv_xm {F G H : gS} {i : Nat} (h : Inv i F) (h1 : ∀ q, (q < 12 ∨ 25 < q) → G q = F q) (h2 : serM G H) : Inv (i + 1) H := Inv_tr (fun q k u => by
  unfold uA at u
  by_cases z : q = 121
  · subst z; rw [h2.2 k (by omega), h1 _ (by omega)]
  · rw [h2.1 q z (by omega), h1 q (by omega)]) (by omega) h
theorem T_from {i : Nat} {x1 : Int32} {F : gS} (hi : i < 2 ^ 20) (h : Inv i F) : wp_X11_from x1 F (fun r G => wp_X12_from x1 G (fun r' H => r = r' ∧ Inv (i + 1) H)) := by
  have hI := h
  obtain ⟨P, p, np, nc, c, len, s, h1, h2, h3, h4, h5, h6, h7⟩ := h
  unfold wp_X11_from wp_X11_isPlan
  rcases isPlanB h2 x1 with ⟨n1, n2⟩ | ⟨y1, y2, j, hj, rfl⟩
  · exact wx_n n1 (if_y rfl (m_bars n2 (if_n (by decide) ⟨rfl, Inv_s hI⟩)))
  · refine wx_y y1 (if_n t10 ?_)
    rcases pan_or hi h1 with ⟨z1, z2, z3, z4⟩ | ⟨z1, z2, z3, z4, z5, z6⟩
    · exact x_panN z3 (if_y rfl (m_barsS y2 z4 (if_n (by decide) ⟨rfl, Inv_s hI⟩)))
    · have hnp := h2.1
      refine x_panY z4 (if_n t10 ⟨vp_in_nI (by omega) (by omega), ?_⟩)
      obtain ⟨L, ok, gL, mL⟩ := h2.2.2.2 j hj
      obtain ⟨c1, c2, c3, c4, c5, c6⟩ := h4
      rw [nI_clamp (by omega)]
      refine s_first z1 ok c5 (by omega) h1.1 gL c1 (fun G g1 => ?_)
      have gq : ∀ q, (q < 12 ∨ 25 < q) → G q = F q := fun q u => g1 q (by omega) (by omega) (by omega) (by omega) (by omega) (by omega) (by omega)
      have eqG : ∀ q k, 121 ≤ q → G q k = F q k := fun q k u => by rw [gq q (by omega)]
      unfold wp_X12_from
      refine m_barsY (by rw [gq 121 (by omega)]; exact y2) (by rw [gq 121 (by omega)]; exact z5) (if_y rfl ?_)
      refine m_twelve z1 ok c5 (by omega) (MgP_tr (fun q k u => eqG q k (by omega)) h1.2.1) (MpL_tr (fun q k u v => eqG q k (by omega)) mL) (fun k hk => by rw [eqG _ _ (by omega), c2 k hk]) (fun k hk => by rw [eqG _ _ (by omega), c3 k hk]) (by rw [eqG _ _ (by omega), c4]) (fun H k1 k2 k3 => ?_)
      exact ⟨k2.symm, Inv_xm hI gq k1⟩
theorem T_dogs {i : Nat} {x1 : Int32} {F : gS} (hi : i < 2 ^ 20) (h : Inv i F) : wp_X11_dogs x1 F (fun r G => wp_X12_dogs x1 G (fun r' H => r = r' ∧ Inv (i + 1) H)) := by
  have hI := h
  obtain ⟨P, p, np, nc, c, len, s, h1, h2, h3, h4, h5, h6, h7⟩ := h
  unfold wp_X11_dogs wp_X11_isPlan
  rcases isPlanB h2 x1 with ⟨n1, n2⟩ | ⟨y1, y2, j, hj, rfl⟩
  · exact wx_n n1 (if_y rfl (m_bars n2 (if_n (by decide) ⟨rfl, Inv_s hI⟩)))
  · refine wx_y y1 (if_n t10 ?_)
    rcases pan_or hi h1 with ⟨z1, z2, z3, z4⟩ | ⟨z1, z2, z3, z4, z5, z6⟩
    · exact x_panN z3 (if_y rfl (m_barsS y2 z4 (if_n (by decide) ⟨rfl, Inv_s hI⟩)))
    · have hnp := h2.1
      refine x_panY z4 (if_n t10 ⟨vp_in_nI (by omega) (by omega), ?_⟩)
      obtain ⟨L, ok, gL, mL⟩ := h2.2.2.2 j hj
      obtain ⟨c1, c2, c3, c4, c5, c6⟩ := h4
      rw [nI_clamp (by omega)]
      refine s_dogs z1 ok c5 (by omega) h1.1 gL c1 (fun G g1 => ?_)
      have gq : ∀ q, (q < 12 ∨ 25 < q) → G q = F q := fun q u => g1 q (by omega) (by omega) (by omega) (by omega) (by omega) (by omega) (by omega)
      have eqG : ∀ q k, 121 ≤ q → G q k = F q k := fun q k u => by rw [gq q (by omega)]
      unfold wp_X12_dogs
      refine m_barsY (by rw [gq 121 (by omega)]; exact y2) (by rw [gq 121 (by omega)]; exact z5) (if_y rfl ?_)
      refine m_twelve z1 ok c5 (by omega) (MgP_tr (fun q k u => eqG q k (by omega)) h1.2.1) (MpL_tr (fun q k u v => eqG q k (by omega)) mL) (fun k hk => by rw [eqG _ _ (by omega), c2 k hk]) (fun k hk => by rw [eqG _ _ (by omega), c3 k hk]) (by rw [eqG _ _ (by omega), c4]) (fun H k1 k2 k3 => ?_)
      exact ⟨k3.symm, Inv_xm hI gq k1⟩
