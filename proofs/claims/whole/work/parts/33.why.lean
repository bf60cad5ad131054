/-! why the first -/
def wid (F G : gS) : Prop := ∀ q, (q < 12 ∨ 25 < q) → G q = F q
theorem wid.tr {F G H : gS} (h : wid F G) (h2 : wid G H) : wid F H := fun q u => by rw [h2 q u, h q u]
theorem serX.w {F G : gS} (h : serX F G) : wid F G := fun q u => h q (by omega) (by omega) (by omega) (by omega) (by omega) (by omega) (by omega)
theorem wid.P {F G : gS} {P : Pn} (h : wid F G) (g : AgP F P) : AgP G P := AgP_tr (fun q j u => by rw [h q (by omega)]) g
theorem wid.L {F G : gS} {k : Nat} {L : Pl} (h : wid F G) (hk : 26 ≤ k) (g : AgL F k L) : AgL G k L := AgL_tr (fun q j u => by rw [h q (by omega)]) g
theorem wid.C {F G : gS} {P : Pn} {c : Cd} (h : wid F G) (g : AgC F 26 P c) : AgC G 26 P c := AgC_tr (fun q j u => by rw [h q (by omega)]) g
def wB (v k : Int32) : Int32 := if v = 0 then k else 0
def cW (P : Pn) (L : Pl) (c : Cd) : Cd := ((bkI P L c 6).1, c.2.1, c.2.2)
def cF (c : Cd) : Cd := (c.1, c.2.1, 9)
def cB (c : Cd) : Cd := (c.1, (fun _ => 0), c.2.2)
theorem cW_ok {P : Pn} {L : Pl} {c : Cd} (hP : okP P) (hL : okL L) (hc : okC P c) : okC P (cW P L c) := ⟨fun j hj => ⟨((bkI_ok hP hL hc 6).1 j hj).1, (hc.1 j hj).2⟩, hc.2⟩
theorem cF_ok {P : Pn} {c : Cd} (hc : okC P c) : okC P (cF c) := ⟨hc.1, ⟨9, by omega, rfl⟩⟩
theorem cB_ok {P : Pn} {c : Cd} (hc : okC P c) : okC P (cB c) := ⟨fun j hj => ⟨(hc.1 j hj).1, ⟨0, by omega, rfl⟩⟩, hc.2⟩
theorem wB_add (x v k : Int32) : (v = 0 → x + wB v k = x + k) ∧ (¬ v = 0 → x + wB v k = x) := by
  unfold wB
  exact ⟨fun q => by rw [if_pos q], fun q => by rw [if_neg q]; simp⟩
theorem s_nextW {k1 k2 : Nat} {P : Pn} {L : Pl} {c : Cd} {F : gS} {Q : gS → Prop} (hP : okP P) (hL : okL L) (hc : okC P c) (a1 : k1 = 18 ∨ k1 = 26) (a2 : 37 ≤ k2 ∧ k2 < 48) (gP : AgP F P) (gL : AgL F k2 L) (gC : AgC F k1 P c)
    (h : ∀ G, wid F G → (∀ j, j < 7 → G 23 j = bkD P L c j) → Q G) : wp_X2_next k1 k2 F Q :=
  s_next hP hL hc a1 (Or.inr a2) gP gL gC (fun G g1 g2 g3 => h G (fun q u => g1 q (by omega) (by omega) (by omega) (by omega) (by omega) (by omega) (by omega)) g3)
theorem s_r75 {k2 : Nat} {P : Pn} {L : Pl} {c : Cd} {F : gS} {x : Int32} {Q : Int32 → gS → Prop} (hP : okP P) (hL : okL L) (hc : okC P c) (a2 : 37 ≤ k2 ∧ k2 < 48) (gP : AgP F P) (gL : AgL F k2 L) (gC : AgC F 26 P c)
    (h : ∀ G, wid F G → Q (x + wB (bkD P L (cB c) 0) 4) G) : wp_X2_reasons_75 26 k2 Q F x := by
  have h16 : nn P ≤ 16 := RC16 hP.1 hP.2.1
  unfold wp_X2_reasons_75
  refine s_become (by omega) (by omega) (by omega) (fun G g1 g2 g3 g4 => ?_)
  unfold wp_X1_clearBits
  refine s_fill16 ?_
  have w1 : wid F (upR G (18 + 2) (pt 16 (fun _ => 0) (G (18 + 2)))) := fun q u => by rw [upR_ne _ _ (by omega), g1 q (by omega) (by omega) (by omega)]
  refine s_nextW (k1 := 18) hP hL (cB_ok hc) (by omega) a2 (w1.P gP) (w1.L (by omega) gL) ⟨fun j hj => ?_, fun j hj => ?_, ?_⟩ (fun H h1 h2 => ?_)
  · rw [upR_ne _ _ (by omega), g2 j (by omega), gC.1 j hj]; rfl
  · rw [upR_eq, pt_lt _ _ (by omega)]; rfl
  · rw [upR_ne _ _ (by omega), g4, gC.2.2]; rfl
  · refine s_isRight (v := bkD P L (cB c) 0) (h2 0 (by omega)) (fun z => if_n t10 ?_) (fun z => if_y rfl ?_)
    · have := h H (w1.tr h1); rw [(wB_add x _ 4).1 z] at this; exact this
    · have := h H (w1.tr h1); rw [(wB_add x _ 4).2 z] at this; exact this
theorem s_r40 {k2 : Nat} {P : Pn} {L : Pl} {c : Cd} {F : gS} {x : Int32} {Q : Int32 → gS → Prop} (hP : okP P) (hL : okL L) (hc : okC P c) (a2 : 37 ≤ k2 ∧ k2 < 48) (gP : AgP F P) (gL : AgL F k2 L) (gC : AgC F 26 P c)
    (h : ∀ G, wid F G → Q (x + wB (bkD P L (cF c) 0) 2 + wB (bkD P L (cB c) 0) 4) G) : wp_X2_reasons_40 26 k2 Q F x := by
  have h16 : nn P ≤ 16 := RC16 hP.1 hP.2.1
  unfold wp_X2_reasons_40
  refine s_become (by omega) (by omega) (by omega) (fun G g1 g2 g3 g4 => ?_)
  have w1 : wid F (upF G 18 2 9) := fun q u => by rw [upF_ne _ _ _ (by omega), g1 q (by omega) (by omega) (by omega)]
  refine s_nextW (k1 := 18) hP hL (cF_ok hc) (by omega) a2 (w1.P gP) (w1.L (by omega) gL) ⟨fun j hj => ?_, fun j hj => ?_, ?_⟩ (fun H h1 h2 => ?_)
  · rw [upF_ne _ _ _ (by omega), g2 j (by omega), gC.1 j hj]; rfl
  · rw [upF_ne _ _ _ (by omega), g3 j (by omega), gC.2.1 j hj]; rfl
  · rw [upF_eq, pk_us]; rfl
  · have w2 := w1.tr h1
    have nxt : wp_X2_reasons_75 26 k2 Q H (x + wB (bkD P L (cF c) 0) 2) := s_r75 hP hL hc a2 (w2.P gP) (w2.L (by omega) gL) (w2.C gC) (fun K hK => h K (w2.tr hK))
    refine s_isRight (v := bkD P L (cF c) 0) (h2 0 (by omega)) (fun z => if_n t10 ?_) (fun z => if_y rfl ?_)
    · rw [(wB_add x _ 2).1 z] at nxt; exact nxt
    · rw [(wB_add x _ 2).2 z] at nxt; exact nxt
theorem s_six {k2 : Nat} {P : Pn} {L : Pl} {c : Cd} {F : gS} {Q : gS → Prop} (hP : okP P) (hL : okL L) (hc : okC P c) (a2 : 37 ≤ k2 ∧ k2 < 48) (gP : AgP F P) (gL : AgL F k2 L) (gC : AgC F 26 P c)
    (h : ∀ G, wid F G → AgC G 18 P (cW P L c) → Q G) : wp_X2_warmBySix 26 k2 F Q := by
  have h16 : nn P ≤ 16 := RC16 hP.1 hP.2.1
  unfold wp_X2_warmBySix
  refine s_become (by omega) (by omega) (by omega) (fun G g1 g2 g3 g4 => ?_)
  refine for2 6 (fun i F' => wid F F' ∧ AgC F' 15 P (bkI P L c i)) (by omega) (fun K i F' hi hI hK => ?_) (fun K F' hI => ?_) 0 G (Nat.zero_le _) ⟨fun q u => g1 q (by omega) (by omega) (by omega), become_ag h16 g2 g3 g4 gC⟩
  · obtain ⟨j1, j2⟩ := hI
    unfold wb_X2_warmBySix_10
    refine if_n (nI_ge (b := 6) hi (by omega)) ?_
    refine s_bake15 hP hL (bkI_ok hP hL hc i) (Or.inr a2) (j1.P gP) (j1.L (by omega) gL) j2 (fun H h1 h2 h3 => hK _ ⟨j1.tr h1.w, h2⟩)
  · obtain ⟨j1, j2⟩ := hI
    unfold wb_X2_warmBySix_10
    refine if_y (nI_le (a := 6) (Nat.le_refl _) (by omega)) ?_
    refine s_become (by omega) (by omega) (by omega) (fun H h1 h2 h3 h4 => ?_)
    unfold wp_X1_takeWarmth
    rw [cpy_pt]
    have cc := j1.C gC
    refine h _ (fun q u => ?_) ⟨fun j hj => ?_, fun j hj => ?_, ?_⟩
    · rw [upR_ne _ _ (by omega), h1 q (by omega) (by omega) (by omega), j1 q u]
    · rw [upR_eq, pt_lt _ _ (by omega), h1 _ (by omega) (by omega) (by omega), j2.1 j hj]; rfl
    · rw [upR_ne _ _ (by omega), h3 j (by omega), cc.2.1 j hj]; rfl
    · rw [upR_ne _ _ (by omega), h4, cc.2.2]; rfl
theorem s_why {k2 : Nat} {P : Pn} {L : Pl} {c : Cd} {F : gS} {Q : Int32 → gS → Prop} (hP : okP P) (hL : okL L) (hc : okC P c) (a2 : 37 ≤ k2 ∧ k2 < 48) (gP : AgP F P) (gL : AgL F k2 L) (gC : AgC F 26 P c)
    (h : ∀ G, wid F G → Q (if bkD P L c 0 = 0 then -1 else wB (bkD P L (cW P L c) 0) 1 + wB (bkD P L (cF c) 0) 2 + wB (bkD P L (cB c) 0) 4) G) : wp_X2_reasons 26 k2 F Q := by
  unfold wp_X2_reasons
  refine s_nextW hP hL hc (by omega) a2 gP gL gC (fun G g1 g2 => ?_)
  refine s_isRight (v := bkD P L c 0) (g2 0 (by omega)) (fun z => if_n t10 ?_) (fun z => if_y rfl ?_)
  · have := h G g1; rw [if_pos z] at this; exact this
  · refine s_six hP hL hc a2 (g1.P gP) (g1.L (by omega) gL) (g1.C gC) (fun H h1 h2 => ?_)
    have w1 := g1.tr h1
    refine s_nextW (k1 := 18) hP hL (cW_ok hP hL hc) (by omega) a2 (w1.P gP) (w1.L (by omega) gL) h2 (fun K k1 k2 => ?_)
    have w2 := w1.tr k1
    have nxt : wp_X2_reasons_40 26 _ Q K (wB (bkD P L (cW P L c) 0) 1) := s_r40 hP hL hc a2 (w2.P gP) (w2.L (by omega) gL) (w2.C gC) (fun K2 hK => by
      have := h K2 (w2.tr hK); rw [if_neg z] at this; exact this)
    refine s_isRight (v := bkD P L (cW P L c) 0) (k2 0 (by omega)) (fun y => if_n t10 ?_) (fun y => if_y rfl ?_)
    · unfold wB at nxt; rw [if_pos y] at nxt; exact nxt
    · unfold wB at nxt; rw [if_neg y] at nxt; exact nxt
/-! the other side -/
def cBy (P : Pn) (L : Pl) (c : Cd) (x : Int32) : Cd := (if x = 1 then (bkI P L c 6).1 else c.1, if x = 4 then (fun _ => 0) else c.2.1, if x = 2 then 9 else c.2.2)
theorem cBy_ok {P : Pn} {L : Pl} {c : Cd} (hP : okP P) (hL : okL L) (hc : okC P c) (x : Int32) : okC P (cBy P L c x) := by
  unfold cBy
  refine ⟨fun j hj => ⟨?_, ?_⟩, ?_⟩
  · show sm 819 ((if x = 1 then (bkI P L c 6).1 else c.1) j)
    split
    · exact ((bkI_ok hP hL hc 6).1 j hj).1
    · exact (hc.1 j hj).1
  · show sm 9 ((if x = 4 then (fun _ => 0) else c.2.1) j)
    split
    · exact ⟨0, by omega, rfl⟩
    · exact (hc.1 j hj).2
  · show sm 9 (if x = 2 then 9 else c.2.2)
    split
    · exact ⟨9, by omega, rfl⟩
    · exact hc.2
theorem m_by {x : Int32} {P : Pn} {L : Pl} {c : Cd} {F : gS} {Q : Int32 → gS → Prop} (hP : okP P) (hL : okL L) (hc : okC P c) (gP : MgP F P) (gL : MgL F L) (c1 : ∀ j, j < nn P → F 124 j = c.1 j) (c2 : ∀ j, j < nn P → F 125 j = c.2.1 j) (c3 : F 121 7 = c.2.2) (c4 : ∀ j, j < nn P → F 147 j = (bkI P L c 6).1 j)
    (h : ∀ G, serM F G → MgL G L → G 147 = F 147 → Q (if bkD P L (cBy P L c x) 0 = 0 then 1 else 0) G) : wp_X12_isRightBy x F Q := by
  have h16 : nn P ≤ 16 := RC16 hP.1 hP.2.1
  unfold wp_X12_isRightBy
  refine m_loadPan (fun G g1 g2 g3 g4 g5 => ?_)
  refine for2 16 (fun i F' => F' = upR (upR G 140 (pt i (fun j => if x = 1 then G 147 j else G 140 j) (G 140))) 141 (pt i (fun j => if x = 4 then 0 else G 141 j) (G 141))) (by omega) (fun K i F' hi e hK => ?_) (fun K F' e => ?_) 0 G (Nat.zero_le _) (by rw [pt_0, pt_0, upR_self, upR_self])
  · have i16 : vp_in (nI i) 16 := vp_in_nI hi (by omega)
    have ci : (nI i).toNatClampNeg = i := nI_clamp (by omega)
    have e147 : F' 147 = G 147 := by rw [e, upR_ne _ _ (by omega), upR_ne _ _ (by omega)]
    have e140 : F' 140 i = G 140 i := by rw [e, upR_ne _ _ (by omega), upR_eq, pt_ge _ _ (Nat.le_refl i)]
    have e141 : F' 141 i = G 141 i := by rw [e, upR_eq, pt_ge _ _ (Nat.le_refl i)]
    have k37 : ∀ t0, t0 = (if x = 1 then G 147 i else G 140 i) → wp_X12_isRightBy_37 K Q F' x (nI i) t0 (nI i) := by
      intro t0 ht
      unfold wp_X12_isRightBy_37
      refine ⟨i16, ?_⟩
      rw [ci]
      have w141 : (upF F' 140 i t0) 141 i = G 141 i := by rw [upF_ne _ _ _ (by omega), e141]
      have fin : ∀ v, v = (if x = 4 then 0 else G 141 i) → K (upF (upF F' 140 i t0) 141 i v) (nI i + 1) := by
        intro v hv
        refine hK _ ?_
        rw [e, upF_upR2 _ (by omega), upF_upR, pt_s i _ _ ht, pt_s i _ _ hv]
      refine if_c (fun q => ⟨i16, fin _ (by rw [if_pos q])⟩) (fun q => ⟨i16, i16, fin _ ?_⟩)
      rw [if_neg q, w141]
    unfold wb_X12_isRightBy_6
    refine if_n (nI_ge (b := 16) hi (by omega)) (if_c (fun q => ⟨i16, ?_⟩) (fun q => ⟨i16, ?_⟩))
    · rw [ci, e147]; exact k37 _ (by rw [if_pos q])
    · rw [ci, e140]; exact k37 _ (by rw [if_neg q])
  · have f121 : F' 121 = G 121 := by rw [e, upR_ne _ _ (by omega), upR_ne _ _ (by omega)]
    have k80 : ∀ t0, t0 = (cBy P L c x).2.2 → wp_X12_isRightBy_80 Q F' t0 := by
      intro t0 ht
      unfold wp_X12_isRightBy_80
      have sM : serM F (upF F' 121 43 t0) := ⟨fun q a b => by rw [upF_ne _ _ _ a, e, upR_ne _ _ (by omega), upR_ne _ _ (by omega), g1 q a (by omega) (by omega)], fun k hk => by rw [upF_eq, pk_un (by omega), f121, g2 k (by omega)]⟩
      refine m_cake (P := P) (L := L) (c := cBy P L c x) hP hL (cBy_ok hP hL hc x) (sM.P gP) (MgL_tr (fun q k u => ?_) gL) ⟨fun j hj => ?_, fun j hj => ?_, ?_⟩ (fun H h1 h2 h3 h4 h5 h6 h7 => ?_)
      · by_cases z : q = 121
        · subst z; rw [upF_eq, pk_un (by omega), f121, g2 k (by omega)]
        · rw [upF_ne _ _ _ z, e, upR_ne _ _ (by omega), upR_ne _ _ (by omega), g1 q z (by omega) (by omega)]
      · rw [upF_ne _ _ _ (by omega), e, upR_ne _ _ (by omega), upR_eq, pt_lt _ _ (by omega)]
        show (if x = 1 then G 147 j else G 140 j) = (if x = 1 then (bkI P L c 6).1 else c.1) j
        by_cases q : x = 1
        · rw [if_pos q, if_pos q, g1 147 (by omega) (by omega) (by omega), c4 j hj]
        · rw [if_neg q, if_neg q, g4 j (by omega), c1 j hj]
      · rw [upF_ne _ _ _ (by omega), e, upR_eq, pt_lt _ _ (by omega)]
        show (if x = 4 then 0 else G 141 j) = (if x = 4 then (fun _ => 0) else c.2.1) j
        by_cases q : x = 4
        · rw [if_pos q, if_pos q]
        · rw [if_neg q, if_neg q, g5 j (by omega), c2 j hj]
      · rw [upF_eq, pk_us, ht]
      · have k0 : H 121 54 = bkD P L (cBy P L c x) 0 := h5 0 (by omega)
        have e147 : H 147 = F 147 := by rw [h7, upF_ne _ _ _ (by omega), e, upR_ne _ _ (by omega), upR_ne _ _ (by omega), g1 147 (by omega) (by omega) (by omega)]
        have hh := h H (sM.tr h1) h2 e147
        rw [k0]
        refine if_c (fun z => ?_) (fun z => ?_)
        · rw [if_pos z] at hh; exact hh
        · rw [if_neg z] at hh; exact hh
    unfold wb_X12_isRightBy_6
    refine if_y (nI_le (a := 16) (Nat.le_refl _) (by omega)) (if_c (fun q => k80 _ ?_) (fun q => k80 _ ?_))
    · show _ = if x = 2 then 9 else c.2.2; rw [if_pos q]
    · show _ = if x = 2 then 9 else c.2.2; rw [if_neg q, f121, g3, c3]
theorem m_why {j : Nat} {P : Pn} {L : Pl} {c : Cd} {F : gS} {Q : Int32 → gS → Prop} (hP : okP P) (hL : okL L) (hc : okC P c) (hj : j < 6) (gP : MgP F P) (gL : MpL F j L) (c1 : ∀ j, j < nn P → F 124 j = c.1 j) (c2 : ∀ j, j < nn P → F 125 j = c.2.1 j) (c3 : F 121 7 = c.2.2)
    (h : ∀ G, serM F G → Q (if bkD P L c 0 = 0 then -1 else wB (bkD P L (cW P L c) 0) 1 + wB (bkD P L (cF c) 0) 2 + wB (bkD P L (cB c) 0) 4) G) : wp_X12_loadPan F (fun F2 => wp_X12_loadPlan (nI j) F2 (fun F3 => LP2 (wb_X12_why_23 Q) F3 0)) := by
  have h16 : nn P ≤ 16 := RC16 hP.1 hP.2.1
  refine m_load hP hL hj gP gL c1 c2 c3 (fun G g1 g2 g3 => ?_)
  refine for2 6 (fun i F' => serM F F' ∧ MgL F' L ∧ MgC F' P (bkI P L c i)) (by omega) (fun K i F' hi hI hK => ?_) (fun K F' hI => ?_) 0 G (Nat.zero_le _) ⟨g1, g2, g3⟩
  · obtain ⟨j1, j2, j3⟩ := hI
    unfold wb_X12_why_23
    refine if_n (nI_ge (b := 6) hi (by omega)) ?_
    exact m_cake hP hL (bkI_ok hP hL hc i) (j1.P gP) j2 j3 (fun H h1 h2 h3 h4 h5 h6 h7 => hK _ ⟨j1.tr h1, h2, h3⟩)
  obtain ⟨j1, j2, j3⟩ := hI
  unfold wb_X12_why_23
  refine if_y (nI_le (a := 6) (Nat.le_refl _) (by omega)) ?_
  refine for2 16 (fun i F2 => F2 = upR F' 147 (pt i (F' 140) (F' 147))) (by omega) (fun K i F2 hi e hK => ?_) (fun K F2 e => ?_) 0 F' (Nat.zero_le _) (by rw [pt_0, upR_self])
  · have i16 : vp_in (nI i) 16 := vp_in_nI hi (by omega)
    unfold wb_X12_why_41
    refine if_n (nI_ge (b := 16) hi (by omega)) ⟨i16, i16, hK _ ?_⟩
    have e140 : F2 140 = F' 140 := by rw [e, upR_ne _ _ (by omega)]
    rw [nI_clamp (by omega), e140, e, upF_upR]
    exact congrArg (upR F' 147) (pt_s i _ _ rfl)
  unfold wb_X12_why_41
  refine if_y (nI_le (a := 16) (Nat.le_refl _) (by omega)) ?_
  have s1 : serM F F2 := ⟨fun q a b => by rw [e, upR_ne _ _ (by omega), j1.1 q a b], fun k hk => by rw [e, upR_ne _ _ (by omega), j1.2 k hk]⟩
  have l1 : MgL F2 L := MgL_tr (fun q k u => by rw [e, upR_ne _ _ (by omega)]) j2
  have w7 : ∀ j, j < nn P → F2 147 j = (bkI P L c 6).1 j := fun k hk => by rw [e, upR_eq, pt_lt _ _ (by omega), j3.1 k hk]
  clear e j1 j2 j3
  have by1 : ∀ (x : Int32) (G : gS) (Q' : Int32 → gS → Prop), serM F G → MgL G L → G 147 = F2 147 → (∀ H, serM F H → MgL H L → H 147 = F2 147 → Q' (if bkD P L (cBy P L c x) 0 = 0 then 1 else 0) H) → wp_X12_isRightBy x G Q' := by
    intro x G Q' a1 a2 a3 hq
    refine m_by hP hL hc (a1.P gP) a2 (fun k hk => by rw [a1.1 _ (by omega) (by omega), c1 k hk]) (fun k hk => by rw [a1.1 _ (by omega) (by omega), c2 k hk]) (by rw [a1.2 _ (by omega), c3]) (fun k hk => by rw [a3, w7 k hk]) (fun H b1 b2 b3 => hq H (a1.tr b1) b2 (by rw [b3, a3]))
  have e0 : bkD P L (cBy P L c 0) 0 = bkD P L c 0 := rfl
  have e1 : bkD P L (cBy P L c 1) 0 = bkD P L (cW P L c) 0 := rfl
  have e2 : bkD P L (cBy P L c 2) 0 = bkD P L (cF c) 0 := rfl
  have e4 : bkD P L (cBy P L c 4) 0 = bkD P L (cB c) 0 := rfl
  unfold wp_X12_why_65
  refine by1 0 F2 _ s1 l1 rfl (fun A a1 a2 a3 => ?_)
  rw [e0]
  by_cases z0 : bkD P L c 0 = 0
  · rw [if_pos z0]
    refine if_n t10 ?_
    have := h A a1; rw [if_pos z0] at this; exact this
  · rw [if_neg z0]
    refine if_y rfl ?_
    rw [if_neg z0] at h
    refine by1 1 A _ a1 a2 a3 (fun B b1 b2 b3 => ?_)
    rw [e1]
    have k101 : ∀ (G : gS) (t0 t1 : Int32), serM F G → MgL G L → G 147 = F2 147 → t1 = wB (bkD P L (cW P L c) 0) 1 → t0 = wB (bkD P L (cF c) 0) 2 → wp_X12_why_101 Q G t0 t1 := by
      intro G t0 t1 x1 x2 x3 x4 x5
      unfold wp_X12_why_101
      refine by1 4 G _ x1 x2 x3 (fun D d1 d2 d3 => ?_)
      rw [e4]
      have hh := h D d1
      rw [← x4, ← x5] at hh
      by_cases y : bkD P L (cB c) 0 = 0
      · rw [if_pos y]
        rw [(wB_add (t1 + t0) _ 4).1 y] at hh
        exact if_n t10 hh
      · rw [if_neg y]
        rw [(wB_add (t1 + t0) _ 4).2 y] at hh
        have e : t1 + t0 + 0 = t1 + t0 := by simp
        refine if_y rfl ?_
        rw [e]; exact hh
    by_cases z1 : bkD P L (cW P L c) 0 = 0
    · rw [if_pos z1]
      refine if_n t10 ?_
      refine by1 2 B _ b1 b2 b3 (fun D d1 d2 d3 => ?_)
      rw [e2]
      by_cases z2 : bkD P L (cF c) 0 = 0
      · rw [if_pos z2]; exact if_n t10 (k101 D _ _ d1 d2 d3 (by unfold wB; rw [if_pos z1]) (by unfold wB; rw [if_pos z2]))
      · rw [if_neg z2]; exact if_y rfl (k101 D _ _ d1 d2 d3 (by unfold wB; rw [if_pos z1]) (by unfold wB; rw [if_neg z2]))
    · rw [if_neg z1]
      refine if_y rfl ?_
      refine by1 2 B _ b1 b2 b3 (fun D d1 d2 d3 => ?_)
      rw [e2]
      by_cases z2 : bkD P L (cF c) 0 = 0
      · rw [if_pos z2]; exact if_n t10 (k101 D _ _ d1 d2 d3 (by unfold wB; rw [if_neg z1]) (by unfold wB; rw [if_pos z2]))
      · rw [if_neg z2]; exact if_y rfl (k101 D _ _ d1 d2 d3 (by unfold wB; rw [if_neg z1]) (by unfold wB; rw [if_neg z2]))
theorem T_why {i : Nat} {x1 : Int32} {F : gS} (hi : i < 2 ^ 20) (h : Inv i F) : wp_X11_why x1 F (fun r G => wp_X12_why x1 G (fun r' H => r = r' ∧ Inv (i + 1) H)) := by
  have hI := h
  obtain ⟨P, p, np, nc, c, len, s, h1, h2, h3, h4, h5, h6, h7⟩ := h
  unfold wp_X11_why wp_X11_isPlan
  rcases isPlanB h2 x1 with ⟨n1, n2⟩ | ⟨y1, y2, j, hj, rfl⟩
  · exact wx_n n1 (if_y rfl (m_bars n2 (if_n (by decide) ⟨rfl, Inv_s hI⟩)))
  · refine wx_y y1 (if_n t10 ?_)
    rcases pan_or hi h1 with ⟨z1, z2, z3, z4⟩ | ⟨z1, z2, z3, z4, z5, z6⟩
    · exact x_panN z3 (if_y rfl (m_barsS y2 z4 (if_n (by decide) ⟨rfl, Inv_s hI⟩)))
    · have hnp := h2.1
      refine x_panY z4 (if_n t10 ⟨vp_in_nI (by omega) (by omega), ?_⟩)
      obtain ⟨L, ok, gL, mL⟩ := h2.2.2.2 j hj
      obtain ⟨c1, c2, c3, c4, c5, c6⟩ := h4
      rw [nI_clamp (by omega)]
      refine s_why z1 ok c5 (by omega) h1.1 gL c1 (fun G gq => ?_)
      have eqG : ∀ q k, 121 ≤ q → G q k = F q k := fun q k u => by rw [gq q (by omega)]
      unfold wp_X12_why
      refine m_barsY (by rw [gq 121 (by omega)]; exact y2) (by rw [gq 121 (by omega)]; exact z5) (if_y rfl ?_)
      refine m_why z1 ok c5 (by omega) (MgP_tr (fun q k u => eqG q k (by omega)) h1.2.1) (MpL_tr (fun q k u v => eqG q k (by omega)) mL) (fun k hk => by rw [eqG _ _ (by omega), c2 k hk]) (fun k hk => by rw [eqG _ _ (by omega), c3 k hk]) (by rw [eqG _ _ (by omega), c4]) (fun H k1 => ?_)
      exact ⟨rfl, Inv_xm hI gq k1⟩
