def MgP (F : gS) (P : Pn) : Prop := F 121 0 = nI P.1 ∧ F 121 1 = nI P.2.1 ∧ (∀ j, j < nn P → F 122 j = P.2.2.1 j) ∧ (∀ j, j < nn P → F 123 j = P.2.2.2 j)
def MgL (F : gS) (L : Pl) : Prop := F 121 44 = L.1 ∧ F 121 45 = L.2.1 ∧ F 121 46 = nI L.2.2.1 ∧ F 121 47 = nI L.2.2.2.1 ∧ F 121 48 = nI L.2.2.2.2.1 ∧ ∀ i, i < L.2.2.2.2.1 → F 142 i = L.2.2.2.2.2 i
def MgC (F : gS) (P : Pn) (c : Cd) : Prop := (∀ j, j < nn P → F 140 j = c.1 j) ∧ (∀ j, j < nn P → F 141 j = c.2.1 j) ∧ F 121 43 = c.2.2
theorem sN_pos {n : Nat} {th b : Nat → Int32} (h : ∀ c, c < n → th c ≤ 0 → b c = 0) : sN (fun c => if th c ≤ 0 then 0 else b c) n = sN b n :=
  sN_cg n (fun c hc => by
    show (if th c ≤ 0 then 0 else b c) = b c
    by_cases q : th c ≤ 0
    · rw [if_pos q, h c hc q]
    · rw [if_neg q])
theorem sm_le0 {B : Nat} {x : Int32} (h : sm B x) (hB : B < 2 ^ 31) (q : x ≤ 0) : x = 0 := by
  obtain ⟨a, ha, rfl⟩ := h
  have : a ≤ 0 := (nI_leI (b := 0) (by omega) (by omega)).mp q
  have : a = 0 := by omega
  subst this; rfl
/-- what is told of a cake, by its numbers -/
theorem bk_facts {P : Pn} {L : Pl} {c : Cd} (hP : okP P) (hL : okL L) (hc : okC P c) : ∃ k l hh : Nat, 1 ≤ k ∧ k ≤ nn P ∧ coN (bkT P L c) (nn P) = nI k ∧ loN 268435456 (bkT P L c) (nn P) = nI l ∧ loN 61 (bkT P L c) (nn P) = nI l ∧ hiN (bkT P L c) (nn P) = nI hh ∧ l ≤ hh ∧ hh ≤ 60 := by
  have hz := bkZ_ok hP hL hc L.2.2.2.2.1 hL.2.2.2.2
  have hs := bkT_60 hP hL hc
  rcases lohi (th := bkT P L c) (by omega) hs (nn P) (Nat.le_refl _) with ⟨a1, a2, a3, a4, a5⟩ | q
  · exfalso
    have hm := mid_lt _ hP.1 _ hP.2.1 hP.2.2.1 hP.2.2.2.1
    exact hz.2 (sm_le0 (hs _ hm) (by omega) (a5 _ hm))
  · exact q
theorem cv_k {k : Nat} (h : 1 ≤ k) (hk : k < 2 ^ 31) : cv (nI k) = nI k := by
  unfold cv
  by_cases q : 1 < k
  · rw [if_pos (show (1 : Int32) < nI k from nI_lt (a := 1) q hk)]
  · have : k = 1 := by omega
    subst this; rfl
theorem bk_edge {P : Pn} {L : Pl} {c : Cd} (hP : okP P) (hL : okL L) (hc : okC P c) : edN (bkT P L c) (nn P) = hiN (bkT P L c) (nn P) - loN 268435456 (bkT P L c) (nn P) ∧ sm 60 (edN (bkT P L c) (nn P)) ∧ cv (coN (bkT P L c) (nn P)) = coN (bkT P L c) (nn P) ∧ ¬ coN (bkT P L c) (nn P) = 0 := by
  have h16 : nn P ≤ 16 := RC16 hP.1 hP.2.1
  obtain ⟨k, l, hh, h1, h2, h3, h4, h5, h6, h7, h8⟩ := bk_facts hP hL hc
  unfold edN
  rw [h3, h4, h5, h6, if_neg (nI_nle (by omega) (by omega)), pk_sub h7]
  exact ⟨rfl, ⟨_, by omega, rfl⟩, cv_k h1 (by omega), nI_ne0 (by omega) (by omega)⟩
theorem bk1_0 {P : Pn} {L : Pl} {c : Cd} (hP : okP P) (hL : okL L) (hc : okC P c) : (∀ j, j < nn P → bkT P L c j ≤ 0 → bk1 P L c j = 0) ∧ (∀ j, j < nn P → bkT P L c j ≤ 0 → bk2 P L c j = 0) := by
  have hz := (bkZ_ok hP hL hc L.2.2.2.2.1 hL.2.2.2.2).1
  have hB := p96 hL.2.2.2.2
  refine ⟨fun j hj q => ?_, fun j hj q => ?_⟩
  · have e : bkT P L c j = 0 := sm_le0 (hz j hj).2.1 (by omega) q
    unfold bk1
    have e2 : (bkz P L c).2.2.2 j = 0 := (hz j hj).2.2.2 e
    rw [e, bN_0, e2]; rfl
  · have e : bkT P L c j = 0 := sm_le0 (hz j hj).2.1 (by omega) q
    unfold bk2
    rw [e, bN_0]
theorem m_goCake {P : Pn} {L : Pl} {c : Cd} {F : gS} {Q : gS → Prop} (hP : okP P) (hL : okL L) (hc : okC P c) (gP : MgP F P) (gL : MgL F L) (gC : MgC F P c)
    (h : ∀ G, (∀ q, q ≠ 121 → q ≠ 140 → q ≠ 141 → q ≠ 143 → q ≠ 144 → q ≠ 145 → q ≠ 146 → G q = F q) → (∀ j, j ≠ 43 → (j < 54 ∨ 60 < j) → G 121 j = F 121 j) → MgC G P (bk P L c) → (∀ j, j < nn P → G 143 j = bkT P L c j) → (∀ j, j < 7 → G 121 (54 + j) = bkD P L c j) → Q G) : wp_X12_goCake F Q := by
  have hP' := hP
  obtain ⟨hR, hC, hR2, hC2, hr⟩ := hP
  obtain ⟨p0, p1, p2, p3⟩ := gP
  obtain ⟨l1, l2, l3, l4, l5, l6⟩ := gL
  obtain ⟨c1, c2, c3⟩ := gC
  have h16 : nn P ≤ 16 := RC16 hR hC
  have hm := mid_lt _ hR _ hC hR2 hC2
  have hm2 : mid P.1 P.2.1 < nn P := hm
  have hz := fun i hi => (bkZ_ok hP' hL hc i hi).1
  have hns := hL.2.2.2.2
  have hh : ∀ j, j < nn P → sm 81 (L.1 * P.2.2.1 j) := fun j hj => mul_sm hL.1 (hr j hj)
  unfold wp_X12_goCake
  refine for2 16 (fun c F' => (∀ q, q ≠ 143 → q ≠ 145 → q ≠ 146 → F' q = F q) ∧ F' 143 = pt c (fun _ => 0) (F 143) ∧ F' 145 = pt c (fun _ => 0) (F 145) ∧ ∀ j, j < 2 * c → F' 146 j = 0) (by omega) (fun K c F' hc hI hK => ?_) (fun K F' hI => ?_) 0 F (Nat.zero_le _) ⟨fun _ _ _ _ => rfl, (pt_0 _ _).symm, (pt_0 _ _).symm, fun j hj => by omega⟩
  · obtain ⟨i1, i2, i3, i4⟩ := hI
    have ci : (nI c).toNatClampNeg = c := nI_clamp (by omega)
    have i16 : vp_in (nI c) 16 := vp_in_nI (by omega) (by omega)
    have ek : 2 * nI c = nI (2 * c) := pk_mul 2 c
    have ek1 : nI (2 * c) + 1 = nI (2 * c + 1) := nI_1 (2 * c)
    unfold wb_X12_goCake_2
    refine if_n (nI_ge (b := 16) hc (by omega)) ?_
    rw [ek, ek1, ci, nb0, nI_clamp (by omega), nI_clamp (by omega)]
    refine ⟨i16, i16, vp_in_nI (by omega) (by omega), vp_in_nI (by omega) (by omega), ?_⟩
    refine hK _ ⟨fun q h1 h2 h3 => ?_, ?_, ?_, fun j hj => ?_⟩
    · rw [upF_ne _ _ _ h3, upF_ne _ _ _ h3, upF_ne _ _ _ h2, upF_ne _ _ _ h1, i1 q h1 h2 h3]
    · rw [upF_ne _ _ _ (by omega), upF_ne _ _ _ (by omega), upF_ne _ _ _ (by omega), upF_eq, i2]
      exact pt_s c _ _ rfl
    · rw [upF_ne _ _ _ (by omega), upF_ne _ _ _ (by omega), upF_eq, upF_ne _ _ _ (by omega), i3]
      exact pt_s c _ _ rfl
    · rw [upF_eq, upF_eq]
      by_cases z1 : j = 2 * c + 1
      · rw [z1, pk_us]
      · rw [pk_un z1]
        by_cases z2 : j = 2 * c
        · rw [z2, pk_us]
        · rw [pk_un z2, upF_ne _ _ _ (by omega), upF_ne _ _ _ (by omega), i4 j (by omega)]
  obtain ⟨i1, i2, i3, i4⟩ := hI
  unfold wb_X12_goCake_2
  refine if_y (nI_le (a := 16) (Nat.le_refl _) (by omega)) ?_
  have r121 : F' 121 = F 121 := i1 121 (by omega) (by omega) (by omega)
  have r140 : F' 140 = F 140 := i1 140 (by omega) (by omega) (by omega)
  unfold wp_X12_goCake_48
  rw [r121, p0, p1, mid_i hR hC]
  have im : vp_in (nI (mid P.1 P.2.1)) 16 := vp_in_nI (by omega) (by omega)
  refine ⟨im, im, m_atLeast ⟨im, ?_⟩⟩
  rw [nI_clamp (by omega)]
  have s121 : ∀ v, (upF F' 143 (mid P.1 P.2.1) v) 121 = F 121 := fun v => by rw [upF_ne _ _ _ (by omega), r121]
  have s140 : ∀ v, (upF F' 143 (mid P.1 P.2.1) v) 140 = F 140 := fun v => by rw [upF_ne _ _ _ (by omega), r140]
  rw [s121, s140, l2]
  generalize hG : upF (upF F' 143 (mid P.1 P.2.1) L.2.1) 140 (mid P.1 P.2.1) (mx (F 140 (mid P.1 P.2.1) - 2 * L.2.1)) = G0
  have f0 : ∀ q, q ≠ 140 → q ≠ 143 → q ≠ 145 → q ≠ 146 → G0 q = F q := fun q h1 h2 h3 h4 => by rw [← hG, upF_ne _ _ _ h1, upF_ne _ _ _ h2, i1 q h2 h3 h4]
  have a0 : MAg (nn P) G0 (bkZ P L c 0) := by
    intro j hj
    refine ⟨?_, ?_, ?_, ?_⟩
    · rw [← hG, upF_eq, s140]
      exact upd_ag (n := nn P) c1 (by rw [c1 _ hm2]) j hj
    · rw [← hG, upF_ne _ _ _ (by omega), upF_eq, i2]
      exact upd_ag (n := nn P) (fun x hx => pt_lt _ _ (by omega)) rfl j hj
    · rw [← hG, upF_ne _ _ _ (by omega), upF_ne _ _ _ (by omega), i3]
      exact pt_lt _ _ (by omega)
    · rw [← hG, upF_ne _ _ _ (by omega), upF_ne _ _ _ (by omega), i4 _ (by omega)]; rfl
  have b0 : ∀ j, j < nn P → G0 146 (2 * j + 1) = 0 := fun j hj => by
    rw [← hG, upF_ne _ _ _ (by omega), upF_ne _ _ _ (by omega), i4 _ (by omega)]
  clear hG i1 i2 i3 i4 r121 r140 s121 s140
  refine for2 L.2.2.2.2.1 (fun i F' => (∀ q, q ≠ 140 → q ≠ 143 → q ≠ 144 → q ≠ 145 → q ≠ 146 → F' q = F q) ∧ MAg (nn P) F' (bkZ P L c i) ∧ ∀ j, j < nn P → F' 146 (2 * j + 1) = 0) (by omega) (fun K2 i F1 hi hI hK2 => ?_) (fun K2 F1 hI => ?_) 0 G0 (Nat.zero_le _) ⟨fun q h1 h2 h3 h4 h5 => f0 q h1 h2 h4 h5, a0, b0⟩
  · obtain ⟨i1, i2, i3⟩ := hI
    have r121 : F1 121 = F 121 := i1 121 (by omega) (by omega) (by omega) (by omega) (by omega)
    have r122 : F1 122 = F 122 := i1 122 (by omega) (by omega) (by omega) (by omega) (by omega)
    have r142 : F1 142 = F 142 := i1 142 (by omega) (by omega) (by omega) (by omega) (by omega)
    unfold wb_X12_goCake_101
    refine if_n (by rw [r121, l5]; exact nI_ge hi (by omega)) ⟨vp_in_nI (by omega) (by omega), ?_⟩
    rw [nI_clamp (by omega), r142, l6 i hi]
    have hB : 60 * 9 ^ i < 2 ^ 26 := Nat.lt_of_le_of_lt (p96 (by omega)) (by omega)
    refine m_goSwing (R := P.1) (C := P.2.1) (B := 60 * 9 ^ i) (ring := P.2.2.1) (fire := L.1) (z := bkZ P L c i) hR hC hR2 hC2 hB (by rw [r121, p0]) (by rw [r121, p1]) (by rw [r121, l1]) (fun j hj => ⟨by rw [r122, p2 j hj], hr j hj⟩) hL.1 (hz i (by omega)) i2 (fun G g1 g2 g3 => ?_)
    refine hK2 _ ⟨fun q h1 h2 h3 h4 h5 => by rw [g1 q h1 h2 h3 h4 h5, i1 q h1 h2 h3 h4 h5], g2, fun j hj => by rw [g3 j hj, i3 j hj]⟩
  obtain ⟨i1, i2, i3⟩ := hI
  have hzz := hz L.2.2.2.2.1 hns
  have hBz := p96 hns
  unfold wb_X12_goCake_101
  refine if_y (by rw [i1 121 (by omega) (by omega) (by omega) (by omega) (by omega), l5]; exact nI_le (Nat.le_refl _) (by omega)) ?_
  have ht1 := hL.2.2.1
  have ht2 := hL.2.2.2.1
  refine for2 L.2.2.1 (fun t F' => (∀ q, q ≠ 140 → q ≠ 143 → q ≠ 144 → q ≠ 145 → q ≠ 146 → F' q = F q) ∧ ∀ j, j < nn P → F' 140 j = wN t (L.1 * P.2.2.1 j) ((bkz P L c).1 j) ∧ F' 143 j = bkT P L c j ∧ F' 146 (2 * j) = (bkz P L c).2.2.2 j + bN t (L.1 * P.2.2.1 j) (bkT P L c j) ((bkz P L c).1 j) ∧ F' 146 (2 * j + 1) = 0) (by omega) (fun K3 t F2 ht hI hK3 => ?_) (fun K3 F2 hI => ?_) 0 F1 (Nat.zero_le _) ⟨i1, fun j hj => ⟨(i2 j hj).1, (i2 j hj).2.1, by rw [(i2 j hj).2.2.2]; show _ = _ + 0; simp; rfl, i3 j hj⟩⟩
  · obtain ⟨k1, k2⟩ := hI
    have r121 : F2 121 = F 121 := k1 121 (by omega) (by omega) (by omega) (by omega) (by omega)
    have r122 : F2 122 = F 122 := k1 122 (by omega) (by omega) (by omega) (by omega) (by omega)
    have tkj : ∀ j, j < nn P → tk (F2 121 44 * F2 122 j) (F2 140 j) = wN (t + 1) (L.1 * P.2.2.1 j) ((bkz P L c).1 j) := fun j hj => by rw [r121, l1, r122, p2 j hj, (k2 j hj).1, wN_s]
    unfold wb_X12_goCake_127
    refine if_n (by rw [r121, l3]; exact nI_ge ht (by omega)) ?_
    refine m_goTick (R := P.1) (C := P.2.1) (sd := 0) hR hC (by rw [r121, p0]) (by rw [r121, p1]) (by omega) (fun j hj => by rw [(k2 j hj).2.1]; exact sm_mono (hzz j hj).2.1 (by omega)) (fun j hj => by rw [tkj j hj]; exact wN_sm (hh j hj) _ _ (hzz j hj).1) (fun G g1 g2 g3 g4 => ?_)
    refine hK3 _ ⟨fun q h1 h2 h3 h4 h5 => by rw [g1 q h1 h5, k1 q h1 h2 h3 h4 h5], fun j hj => ⟨?_, ?_, ?_, ?_⟩⟩
    · rw [g2 j hj, tkj j hj]
    · rw [g1 143 (by omega) (by omega), (k2 j hj).2.1]
    · have := g3 j hj
      rw [Nat.add_zero, tkj j hj, (k2 j hj).2.2.1, (k2 j hj).2.1] at this
      rw [this, bN_s, Int32.add_assoc]
    · have := g4 j hj
      show G 146 (2 * j + (1 - 0)) = 0
      rw [this]; exact (k2 j hj).2.2.2
  obtain ⟨k1, k2⟩ := hI
  unfold wb_X12_goCake_127
  refine if_y (by rw [k1 121 (by omega) (by omega) (by omega) (by omega) (by omega), l3]; exact nI_le (Nat.le_refl _) (by omega)) ?_
  have hV : ∀ j, j < nn P → sm 819 (bkV P L c j) := fun j hj => wN_sm (hh j hj) _ _ (hzz j hj).1
  refine for2 L.2.2.2.1 (fun t F' => (∀ q, q ≠ 140 → q ≠ 143 → q ≠ 144 → q ≠ 145 → q ≠ 146 → F' q = F q) ∧ ∀ j, j < nn P → F' 140 j = wN t (L.1 * P.2.2.1 j) (bkV P L c j) ∧ F' 143 j = bkT P L c j ∧ F' 146 (2 * j) = bk1 P L c j ∧ F' 146 (2 * j + 1) = bN t (L.1 * P.2.2.1 j) (bkT P L c j) (bkV P L c j)) (by omega) (fun K4 t F3 ht hI hK4 => ?_) (fun K4 F3 hI => ?_) 0 F2 (Nat.zero_le _) ⟨k1, fun j hj => ⟨(k2 j hj).1, (k2 j hj).2.1, (k2 j hj).2.2.1, (k2 j hj).2.2.2⟩⟩
  · obtain ⟨m1, m2⟩ := hI
    have r121 : F3 121 = F 121 := m1 121 (by omega) (by omega) (by omega) (by omega) (by omega)
    have r122 : F3 122 = F 122 := m1 122 (by omega) (by omega) (by omega) (by omega) (by omega)
    have tkj : ∀ j, j < nn P → tk (F3 121 44 * F3 122 j) (F3 140 j) = wN (t + 1) (L.1 * P.2.2.1 j) (bkV P L c j) := fun j hj => by rw [r121, l1, r122, p2 j hj, (m2 j hj).1, wN_s]
    unfold wb_X12_goCake_152
    refine if_n (by rw [r121, l4]; exact nI_ge ht (by omega)) ?_
    refine m_goTick (R := P.1) (C := P.2.1) (sd := 1) hR hC (by rw [r121, p0]) (by rw [r121, p1]) (by omega) (fun j hj => by rw [(m2 j hj).2.1]; exact sm_mono (hzz j hj).2.1 (by omega)) (fun j hj => by rw [tkj j hj]; exact wN_sm (hh j hj) _ _ (hV j hj)) (fun G g1 g2 g3 g4 => ?_)
    refine hK4 _ ⟨fun q h1 h2 h3 h4 h5 => by rw [g1 q h1 h5, m1 q h1 h2 h3 h4 h5], fun j hj => ⟨?_, ?_, ?_, ?_⟩⟩
    · rw [g2 j hj, tkj j hj]
    · rw [g1 143 (by omega) (by omega), (m2 j hj).2.1]
    · have := g4 j hj
      show G 146 (2 * j + (1 - 1)) = _
      rw [this]; exact (m2 j hj).2.2.1
    · have := g3 j hj
      rw [tkj j hj, (m2 j hj).2.2.2, (m2 j hj).2.1] at this
      rw [this, bN_s]
  obtain ⟨m1, m2⟩ := hI
  unfold wb_X12_goCake_152
  have r121 : F3 121 = F 121 := m1 121 (by omega) (by omega) (by omega) (by omega) (by omega)
  have r123 : F3 123 = F 123 := m1 123 (by omega) (by omega) (by omega) (by omega) (by omega)
  have r141 : F3 141 = F 141 := m1 141 (by omega) (by omega) (by omega) (by omega) (by omega)
  refine if_y (by rw [r121, l4]; exact nI_le (Nat.le_refl _) (by omega)) ?_
  refine m_takeOut (R := P.1) (C := P.2.1) hR hC (by rw [r121, p0]) (by rw [r121, p1]) (fun j hj => by rw [r141, c2 j hj]; exact (hc.1 j hj).2) (fun G g1 g2 g3 g4 g5 => ?_)
  have g143 : ∀ j, j < nn P → G 143 j = bkT P L c j := fun j hj => by rw [g1 143 (by omega) (by omega), (m2 j hj).2.1]
  have g146 : G 146 = F3 146 := g1 146 (by omega) (by omega)
  have eS : G 121 59 = sN (bkS P L c) (nn P) := by
    rw [g3]
    exact sN_cg _ (fun j hj => by rw [(m2 j hj).2.1, r123, p3 j hj, r141, c2 j hj, r121, c3]; rfl)
  obtain ⟨ed1, ed2, ed3, ed4⟩ := bk_edge hP' hL hc
  obtain ⟨z1, z2⟩ := bk1_0 hP' hL hc
  have eco : coN (G 143) (P.1 * P.2.1) = coN (bkT P L c) (nn P) := coN_cg _ g143
  have ehi : hiN (G 143) (P.1 * P.2.1) = hiN (bkT P L c) (nn P) := hiN_cg _ g143
  have elo : loN 268435456 (G 143) (P.1 * P.2.1) = loN 268435456 (bkT P L c) (nn P) := loN_cg _ g143
  have e1 : sN (fun j => if G 143 j ≤ 0 then 0 else G 146 (2 * j)) (P.1 * P.2.1) = sN (bk1 P L c) (nn P) := by
    rw [← sN_pos z1]
    exact sN_cg _ (fun j hj => by rw [g143 j hj, g146, (m2 j hj).2.2.1])
  have e2 : sN (fun j => if G 143 j ≤ 0 then 0 else G 146 (2 * j + 1)) (P.1 * P.2.1) = sN (bk2 P L c) (nn P) := by
    rw [← sN_pos z2]
    exact sN_cg _ (fun j hj => by rw [g143 j hj, g146, (m2 j hj).2.2.2]; rfl)
  refine m_judge (R := P.1) (C := P.2.1) hR hC (by rw [g2 0 (by omega) (by omega), r121, p0]) (by rw [g2 1 (by omega) (by omega), r121, p1]) (by rw [eco]; exact ed4) (fun H h1 h2 h3 h4 h5 h6 h7 h8 => ?_)
  rw [eco] at h3
  rw [e1, eco] at h4
  rw [e2, eco] at h5
  rw [ehi, elo, ← ed1] at h6
  rw [eS, ehi, elo, ← ed1, e1, eco] at h7 h8
  refine h H (fun q x1 x2 x3 x4 x5 x6 x7 => ?_) (fun j x1 x2 => ?_) ⟨fun j hj => ?_, fun j hj => ?_, ?_⟩ (fun j hj => ?_) (fun j hj => ?_)
  · rw [h1 q x1, g1 q x1 x3, m1 q x2 x4 x5 x6 x7]
  · rw [h2 j (by omega), g2 j (by omega) x1, r121]
  · rw [h1 140 (by omega), g1 140 (by omega) (by omega), (m2 j hj).1]; rfl
  · rw [h1 141 (by omega), g5 j hj, (m2 j hj).2.1, r123, p3 j hj, r141, c2 j hj, r121, c3]; rfl
  · rw [h2 43 (by omega), g4, r121, c3]; rfl
  · rw [h1 143 (by omega), g143 j hj]
  · unfold bkD
    rcases (by omega : j = 0 ∨ j = 1 ∨ j = 2 ∨ j = 3 ∨ j = 4 ∨ j = 5 ∨ j = 6) with rfl | rfl | rfl | rfl | rfl | rfl | rfl
    · rw [h7]; show _ = kdO _ _ (_ / cv _); rw [ed3]
    · rw [h4]; show _ = _ / cv _; rw [ed3]
    · rw [h5]; show _ = _ / cv _; rw [ed3]
    · rw [h6]; rfl
    · rw [h3]; rfl
    · rw [h2 59 (by omega), eS]; rfl
    · rw [h8]; show _ = wO (kdO _ _ (_ / cv _)); rw [ed3]
