/-! reading a pan -/
def rdP (cs : Nat → Nat) : Nat → Nat → PS → Nat × PS
  | 0, k, S => (k, S)
  | m + 1, k, S => match tkP (cs k) S with
    | none => (k, S)
    | some S' => rdP cs m (k + 1) S'
def PS0 : PS := (0, 0, 0, 0, fun _ => 0, fun _ => 0)
theorem PS0_ok : okPS PS0 := ⟨by decide, by decide, fun _ => ⟨rfl, by decide⟩, fun z => absurd z (by decide), fun z => absurd z (by decide), fun j hj => absurd (show j < 0 from hj) (by omega)⟩
theorem rdP_n {cs : Nat → Nat} {m k : Nat} {S : PS} (h : tkP (cs k) S = none) : rdP cs (m + 1) k S = (k, S) := by
  show (match tkP (cs k) S with | none => (k, S) | some S' => rdP cs m (k + 1) S') = _; rw [h]
theorem rdP_s {cs : Nat → Nat} {m k : Nat} {S S' : PS} (h : tkP (cs k) S = some S') : rdP cs (m + 1) k S = rdP cs m (k + 1) S' := by
  show (match tkP (cs k) S with | none => (k, S) | some S' => rdP cs m (k + 1) S') = _; rw [h]
theorem rdP_le {cs : Nat → Nat} : ∀ m k S, (rdP cs m k S).1 ≤ k + m
  | 0, k, S => Nat.le_refl _
  | m + 1, k, S => by
    cases h : tkP (cs k) S with
    | none => rw [rdP_n h]; show k ≤ _; omega
    | some S' => rw [rdP_s h]; have := rdP_le (cs := cs) m (k + 1) S'; omega
def csF (F : gS) : Nat → Nat := fun j => (F 2 j).toNatClampNeg
theorem cs_ok {F : gS} {len : Nat} (h : IPg F len) : ∀ j, j < len → F 2 j = nI (csF F j) ∧ F 134 j = nI (csF F j) ∧ csF F j ≤ 126 := fun j hj => by
  obtain ⟨a, b⟩ := h.2.2.2 j hj
  obtain ⟨e, f⟩ := nI_back b (by omega)
  exact ⟨e, by rw [← a]; exact e, f⟩
theorem s_readP {cs : Nat → Nat} {len : Nat} {F : gS} {Q : Int32 → gS → Prop} (hl : len ≤ 40) (e1 : F 1 1 = nI len) (hcs : ∀ j, j < len → F 2 j = nI (cs j) ∧ cs j ≤ 126)
    (h : ∀ G, (∀ q, q ≠ 3 → q ≠ 4 → q ≠ 5 → G q = F q) → PX G (rdP cs len 0 PS0).2 → okPS (rdP cs len 0 PS0).2 → Q (nI (rdP cs len 0 PS0).1) G) : wp_X4_readAs_3 F Q := by
  unfold wp_X4_readAs_3 wp_X6_begin
  dsimp only [Nm]
  generalize hR : rdP cs len 0 PS0 = Rf at h
  refine for2 len (fun k F' => (∀ q, q ≠ 3 → q ≠ 4 → q ≠ 5 → F' q = F q) ∧ ∃ S, PX F' S ∧ okPS S ∧ rdP cs (len - k) k S = Rf) (by omega) (fun K k F' hk hI hK => ?_) (fun K F' hI => ?_) 0 _ (Nat.zero_le _) ⟨fun q a b d => by rw [upF_ne _ _ _ a, upF_ne _ _ _ a, upF_ne _ _ _ a, upF_ne _ _ _ a, upF_ne _ _ _ a], PS0, ⟨?_, ?_, ?_, ?_, ?_, fun j hj => absurd (show j < 0 from hj) (by omega)⟩, PS0_ok, hR⟩
  · obtain ⟨j1, S, j2, j3, j4⟩ := hI
    have f1 : F' 1 1 = nI len := by rw [j1 1 (by omega) (by omega) (by omega), e1]
    have f2 : F' 2 k = nI (cs k) := by rw [j1 2 (by omega) (by omega) (by omega), (hcs k hk).1]
    obtain ⟨m, em⟩ : ∃ m, len - k = m + 1 := ⟨len - k - 1, by omega⟩
    rw [em] at j4
    unfold wb_X4_readAs_3_6
    refine if_n (by rw [f1]; exact nI_ge hk (by omega)) ⟨vp_in_nI (by omega) (by omega), ?_⟩
    rw [nI_clamp (by omega), f2]
    refine s_takeP (hcs k hk).2 j3 j2 (fun hn => ?_) (fun S' G hs g1 g2 => ?_)
    · rw [rdP_n hn] at j4
      subst j4
      exact if_y rfl (h F' j1 j2 j3)
    · rw [rdP_s hs] at j4
      refine if_n t10 (hK _ ⟨fun q a b d => by rw [g1 q a b d, j1 q a b d], S', g2, tkP_ok j3 hs, ?_⟩)
      have : len - (k + 1) = m := by omega
      rw [this]; exact j4
  · obtain ⟨j1, S, j2, j3, j4⟩ := hI
    rw [Nat.sub_self] at j4
    have f1 : F' 1 1 = nI len := by rw [j1 1 (by omega) (by omega) (by omega), e1]
    have j4' : (len, S) = Rf := j4
    subst j4'
    unfold wb_X4_readAs_3_6
    rw [f1]
    exact if_y (nI_le (Nat.le_refl _) (by omega)) (h F' j1 j2 j3)
  · rw [upF_eq, pk_un (by omega), upF_eq, pk_un (by omega), upF_eq, pk_un (by omega), upF_eq, pk_un (by omega), upF_eq, pk_us]; rfl
  · rw [upF_eq, pk_un (by omega), upF_eq, pk_un (by omega), upF_eq, pk_un (by omega), upF_eq, pk_us]; rfl
  · rw [upF_eq, pk_un (by omega), upF_eq, pk_us]; rfl
  · rw [upF_eq, pk_un (by omega), upF_eq, pk_un (by omega), upF_eq, pk_us]; rfl
  · rw [upF_eq, pk_us]; rfl
def whP (len : Nat) (R : Nat × PS) : Prop := R.1 = len ∧ 1 ≤ R.2.1 ∧ R.2.2.2.1 = R.2.2.1
theorem m_r49 {len : Nat} {R : Nat × PS} {F : gS} {Q : gS → Prop} (hl : len ≤ 40) (hR : R.1 ≤ 40) (e19 : F 121 19 = nI len) (ok : okPS R.2) (hm : PM F R.2)
    (h : ∀ G, (∀ q, q ≠ 121 → G q = F q) → (∀ k, k ≠ 27 → k ≠ 28 → G 121 k = F 121 k) → G 121 27 = nI R.1 → (whP len R → G 121 28 = 1) → (¬ whP len R → G 121 28 = 0) → Q G) : wp_X12_readPan_49 Q F (nI R.1) := by
  have hle := ps_le ok
  obtain ⟨x1, x2, x3, x4, x6⟩ := hm
  unfold wp_X12_readPan_49
  have u : ∀ k, k ≠ 27 → (upF F 121 27 (nI R.1)) 121 k = F 121 k := fun k hk => by rw [upF_eq, pk_un hk]
  dsimp only [Nm]
  rw [u 19 (by omega), u 29 (by omega), u 31 (by omega), u 30 (by omega), e19, x1, x2, x3]
  have fin : ∀ v, (whP len R → v = 1) → (¬ whP len R → v = 0) → Q (upF (upF F 121 27 (nI R.1)) 121 28 v) := by
    intro v hy hn
    refine h _ (fun q hq => by rw [upF_ne _ _ _ hq, upF_ne _ _ _ hq]) (fun k a b => by rw [upF_eq, pk_un b, upF_eq, pk_un a]) (by rw [upF_eq, pk_un (by omega), upF_eq, pk_us]) (fun z => by rw [upF_eq, pk_us, hy z]) (fun z => by rw [upF_eq, pk_us, hn z])
  have o1 := ok.1
  refine if_c (fun z => ?_) (fun z => fin 0 (fun y => absurd (by rw [y.1]) z) (fun _ => rfl))
  have z' : R.1 = len := (nI_eq (by omega) (by omega)).mp z
  refine if_c (fun y => fin 0 (fun v => ?_) (fun _ => rfl)) (fun y => if_c (fun v => fin 1 (fun _ => rfl) (fun t => ?_)) (fun v => fin 0 (fun t => ?_) (fun _ => rfl)))
  · have := (nI_leI (b := 0) (by omega) (by omega)).mp y
    have := v.2.1; omega
  · refine absurd ⟨z', ?_, (nI_eq (by omega) (by omega)).mp v⟩ t
    rcases Nat.eq_zero_or_pos R.2.1 with w | w
    · exact absurd (nI_le (b := 0) (by omega) (by omega)) y
    · exact w
  · exact absurd (by rw [t.2.2]) v
theorem m_readP {cs : Nat → Nat} {len : Nat} {F : gS} {Q : gS → Prop} (hl : len ≤ 40) (e19 : F 121 19 = nI len) (hcs : ∀ j, j < len → F 134 j = nI (cs j) ∧ cs j ≤ 126)
    (h : ∀ G, (∀ q, q ≠ 121 → q ≠ 137 → q ≠ 138 → G q = F q) → (∀ k, (k < 27 ∨ 32 < k) → G 121 k = F 121 k) → G 121 27 = nI (rdP cs len 0 PS0).1 → (whP len (rdP cs len 0 PS0) → G 121 28 = 1) → (¬ whP len (rdP cs len 0 PS0) → G 121 28 = 0) → PM G (rdP cs len 0 PS0).2 → Q G) : wp_X12_readPan F Q := by
  unfold wp_X12_readPan
  dsimp only [Nm]
  have hle := rdP_le (cs := cs) len 0 PS0
  generalize hR : rdP cs len 0 PS0 = Rf at h hle
  have fin : ∀ F', (∀ q, q ≠ 121 → q ≠ 137 → q ≠ 138 → F' q = F q) → (∀ k, (k < 27 ∨ 32 < k) → F' 121 k = F 121 k) → PM F' Rf.2 → okPS Rf.2 → wp_X12_readPan_49 Q F' (nI Rf.1) := by
    intro F' j1 j1b j2 j3
    refine m_r49 (len := len) hl (by omega) (by rw [j1b 19 (by omega), e19]) j3 j2 (fun G g1 g2 g3 g4 g5 => ?_)
    refine h G (fun q a b d => by rw [g1 q a, j1 q a b d]) (fun k hk => by rw [g2 k (by omega) (by omega), j1b k hk]) g3 g4 g5 ?_
    obtain ⟨x1, x2, x3, x4, x6⟩ := j2
    exact ⟨by rw [g2 _ (by omega) (by omega), x1], by rw [g2 _ (by omega) (by omega), x2], by rw [g2 _ (by omega) (by omega), x3], by rw [g2 _ (by omega) (by omega), x4], fun j hj => by rw [g1 137 (by omega), g1 138 (by omega)]; exact x6 j hj⟩
  refine for2 len (fun k F' => (∀ q, q ≠ 121 → q ≠ 137 → q ≠ 138 → F' q = F q) ∧ (∀ k, (k < 27 ∨ 32 < k) → F' 121 k = F 121 k) ∧ ∃ S, PM F' S ∧ okPS S ∧ rdP cs (len - k) k S = Rf) (by omega) (fun K k F' hk hI hK => ?_) (fun K F' hI => ?_) 0 _ (Nat.zero_le _) ⟨fun q a b d => by rw [upF_ne _ _ _ a, upF_ne _ _ _ a, upF_ne _ _ _ a, upF_ne _ _ _ a], fun k hk => by rw [upF_eq, pk_un (by omega), upF_eq, pk_un (by omega), upF_eq, pk_un (by omega), upF_eq, pk_un (by omega)], PS0, ⟨?_, ?_, ?_, ?_, fun j hj => absurd (show j < 0 from hj) (by omega)⟩, PS0_ok, hR⟩
  · obtain ⟨j1, j1b, S, j2, j3, j4⟩ := hI
    have f1 : F' 121 19 = nI len := by rw [j1b 19 (by omega), e19]
    have f2 : F' 134 k = nI (cs k) := by rw [j1 134 (by omega) (by omega) (by omega), (hcs k hk).1]
    obtain ⟨m, em⟩ : ∃ m, len - k = m + 1 := ⟨len - k - 1, by omega⟩
    rw [em] at j4
    unfold wb_X12_readPan_22
    refine if_n (by rw [f1]; exact nI_ge hk (by omega)) ⟨vp_in_nI (by omega) (by omega), ?_⟩
    rw [nI_clamp (by omega), f2]
    refine m_takeP (hcs k hk).2 j3 j2 (fun hn => ?_) (fun S' G hs g1 g1b g2 => ?_)
    · rw [rdP_n hn] at j4
      subst j4
      exact if_y rfl (fin F' j1 j1b j2 j3)
    · rw [rdP_s hs] at j4
      refine if_n t10 (hK _ ⟨fun q a b d => by rw [g1 q a b d, j1 q a b d], fun k hk => by rw [g1b k (by omega), j1b k hk], S', g2, tkP_ok j3 hs, ?_⟩)
      have : len - (k + 1) = m := by omega
      rw [this]; exact j4
  · obtain ⟨j1, j1b, S, j2, j3, j4⟩ := hI
    rw [Nat.sub_self] at j4
    have f1 : F' 121 19 = nI len := by rw [j1b 19 (by omega), e19]
    have j4' : (len, S) = Rf := j4
    subst j4'
    unfold wb_X12_readPan_22
    rw [f1]
    exact if_y (nI_le (Nat.le_refl _) (by omega)) (fin F' j1 j1b j2 j3)
  · rw [upF_eq, pk_un (by omega), upF_eq, pk_un (by omega), upF_eq, pk_un (by omega), upF_eq, pk_us]; rfl
  · rw [upF_eq, pk_un (by omega), upF_eq, pk_un (by omega), upF_eq, pk_us]; rfl
  · rw [upF_eq, pk_un (by omega), upF_eq, pk_us]; rfl
  · rw [upF_eq, pk_us]; rfl
theorem nbx {x : Int32} (h : x = 0 ∨ x = 1) : vp_nar .boolean x = x := by
  rcases h with rfl | rfl
  · exact nb0
  · exact nb1
/-- three rows filled as far as the cells go -/
theorem T_pan {i : Nat} {F : gS} (hi : i < 2 ^ 20) (h : Inv i F) : wp_X11_pan F (fun r G => wp_X12_pan G (fun r' H => r = r' ∧ Inv (i + 1) H)) := by
  have hI := h
  obtain ⟨P, p, np, nc, c, len, s, h1, h2, h3, h4, h5, h6, h7⟩ := h
  have hcs := cs_ok h6
  obtain ⟨p1, p2, p3, p4⟩ := h6
  unfold wp_X11_pan wp_X4_isWhole_3
  refine s_readP (cs := csF F) p1 p2 (fun j hj => ⟨(hcs j hj).1, (hcs j hj).2.2⟩) (fun G g1 g2 g3 => ?_)
  have hle := rdP_le (cs := csF F) len 0 PS0
  have hps := ps_le g3
  have g11 : G 1 1 = nI len := by rw [g1 1 (by omega) (by omega) (by omega), p2]
  have gm : ∀ q, 6 ≤ q → G q = F q := fun q hq => g1 q (by omega) (by omega) (by omega)
  generalize hR : rdP (csF F) len 0 PS0 = R at g2 g3 hle hps
  obtain ⟨x1, x2, x3, x4, x5, x6⟩ := g2
  have o1 := g3.1
  have no : ¬ whP len R → wp_X12_pan G (fun r' H => (-103) = r' ∧ Inv (i + 1) H) := by
    intro hw
    unfold wp_X12_pan
    refine m_readP (cs := csF F) (len := len) p1 (by rw [gm _ (by omega), p3]) (fun j hj => ⟨by rw [gm _ (by omega)]; exact (hcs j hj).2.1, (hcs j hj).2.2⟩) (fun H k1 k2 k3 k4 k5 k6 => ?_)
    rw [hR] at k5
    refine if_y (k5 hw) ⟨rfl, Inv_tr (fun q k u => ?_) (by omega) hI⟩
    unfold uA at u
    by_cases z : q = 121
    · subst z; rw [k2 k (by omega), gm _ (by omega)]
    · rw [k1 q z (by omega) (by omega), g1 q (by omega) (by omega) (by omega)]
  rw [g11]
  by_cases w1 : R.1 = len
  · refine if_y (by rw [w1]) ?_
    unfold wp_X6_whole
    rw [x1, x4, x3]
    by_cases w2 : 1 ≤ R.2.1
    · refine if_n (nI_nlt (b := 2) (by omega) (by omega)) ?_
      by_cases w3 : R.2.2.2.1 = R.2.2.1
      · refine if_y (by rw [w3]) (if_n t10 (if_n t10 ?_))
        have hw : whP len R := ⟨w1, w2, w3⟩
        obtain ⟨c2, c4, -⟩ := g3.2.2.2.1 w2
        have ecell : R.2.1 * R.2.2.1 + R.2.2.2.1 = (R.2.1 + 1) * R.2.2.1 := by rw [w3, Nat.succ_mul]
        have hc16 : (R.2.1 + 1) * R.2.2.1 ≤ 16 := by omega
        have hok6 := g3.2.2.2.2.2
        rw [ecell] at x2 x6 hok6
        unfold wp_X5_become
        dsimp only [Nm]
        generalize hF3 : upF (upF (upF G 9 3 (G 3 2)) 9 4 ((upF G 9 3 (G 3 2)) 3 4)) 9 2 ((upF (upF G 9 3 (G 3 2)) 9 4 ((upF G 9 3 (G 3 2)) 3 4)) 3 3) = F3
        have a9 : F3 9 2 = nI ((R.2.1 + 1) * R.2.2.1) ∧ F3 9 3 = nI (R.2.1 + 1) ∧ F3 9 4 = nI R.2.2.1 := by
          refine ⟨?_, ?_, ?_⟩
          · rw [← hF3, upF_eq, pk_us, upF_ne _ _ _ (by omega), upF_ne _ _ _ (by omega), x2]
          · rw [← hF3, upF_eq, pk_un (by omega), upF_eq, pk_un (by omega), upF_eq, pk_us, x1]
          · rw [← hF3, upF_eq, pk_un (by omega), upF_eq, pk_us, upF_ne _ _ _ (by omega), x3]
        have aq : ∀ q, q ≠ 9 → F3 q = G q := fun q hq => by rw [← hF3, upF_ne _ _ _ hq, upF_ne _ _ _ hq, upF_ne _ _ _ hq]
        clear hF3
        obtain ⟨a92, a93, a94⟩ := a9
        refine for2 ((R.2.1 + 1) * R.2.2.1) (fun k F' => F' = upR (upR F3 10 (pt k R.2.2.2.2.2.1 (F3 10))) 11 (pt k R.2.2.2.2.2.2 (F3 11))) (by omega) (fun K k F' hk e hK => ?_) (fun K F' e => ?_) 0 F3 (Nat.zero_le _) (by rw [pt_0, pt_0, upR_self, upR_self])
        · have i16 : vp_in (nI k) 16 := vp_in_nI (by omega) (by omega)
          have e9 : F' 9 = F3 9 := by rw [e, upR_ne _ _ (by omega), upR_ne _ _ (by omega)]
          have e4 : F' 4 k = R.2.2.2.2.2.1 k := by rw [e, upR_ne _ _ (by omega), upR_ne _ _ (by omega), aq _ (by omega)]; exact (x6 k hk).1
          have e5 : ∀ v, (upF F' 10 k v) 5 k = R.2.2.2.2.2.2 k := fun v => by rw [upF_ne _ _ _ (by omega), e, upR_ne _ _ (by omega), upR_ne _ _ (by omega), aq _ (by omega)]; exact (x6 k hk).2
          unfold wb_X5_become_26
          refine if_n (by rw [e9, a92]; exact nI_ge hk (by omega)) ⟨i16, i16, i16, i16, ?_⟩
          rw [nI_clamp (by omega)]
          dsimp only [Nm]
          rw [e4, e5, nbx (hok6 k hk).2]
          refine hK _ ?_
          rw [e, upF_upR2 _ (by omega), upF_upR, pt_s k _ _ rfl, pt_s k _ _ rfl]
        · have e9 : F' 9 = F3 9 := by rw [e, upR_ne _ _ (by omega), upR_ne _ _ (by omega)]
          unfold wb_X5_become_26
          refine if_y (by rw [e9, a92]; exact nI_le (Nat.le_refl _) (by omega)) ?_
          have b10 : ∀ j, j < (R.2.1 + 1) * R.2.2.1 → F' 10 j = R.2.2.2.2.2.1 j := fun j hj => by rw [e, upR_ne _ _ (by omega), upR_eq, pt_lt _ _ hj]
          have b11 : ∀ j, j < (R.2.1 + 1) * R.2.2.1 → F' 11 j = R.2.2.2.2.2.2 j := fun j hj => by rw [e, upR_eq, pt_lt _ _ hj]
          have bq : ∀ q, q ≠ 3 → q ≠ 4 → q ≠ 5 → q ≠ 9 → q ≠ 10 → q ≠ 11 → F' q = F q := fun q n1 n2 n3 n4 n5 n6 => by rw [e, upR_ne _ _ n6, upR_ne _ _ n5, aq q n4, g1 q n1 n2 n3]
          clear e
          unfold wp_X1_clear wp_X1_clearBits
          refine s_fill16 (s_fill16 ?_)
          dsimp only [Nm]
          generalize hF5 : upF (upR (upR F' (26 + 1) (pt 16 (fun _ => 0) (F' (26 + 1)))) (26 + 2) (pt 16 (fun _ => 0) ((upR F' (26 + 1) (pt 16 (fun _ => 0) (F' (26 + 1)))) (26 + 2)))) 26 2 0 = F5
          have d26 : F5 26 2 = 0 := by rw [← hF5, upF_eq, pk_us]
          have d27 : ∀ j, j < 16 → F5 27 j = 0 := fun j hj => by rw [← hF5, upF_ne _ _ _ (by omega), upR_ne _ _ (by omega), upR_eq, pt_lt _ _ hj]
          have d28 : ∀ j, j < 16 → F5 28 j = 0 := fun j hj => by rw [← hF5, upF_ne _ _ _ (by omega), upR_eq, pt_lt _ _ hj]
          have dq : ∀ q, q ≠ 26 → q ≠ 27 → q ≠ 28 → F5 q = F' q := fun q n1 n2 n3 => by rw [← hF5, upF_ne _ _ _ n1, upR_ne _ _ n3, upR_ne _ _ n2]
          clear hF5
          have f14 : (upF (upF F5 0 11 0) 0 13 0) 0 14 = nI p := by rw [upF_eq, pk_un (by omega), upF_eq, pk_un (by omega), dq 0 (by omega) (by omega) (by omega), bq 0 (by omega) (by omega) (by omega) (by omega) (by omega) (by omega), h1.2.2.1]
          rw [f14, nI_1]
          generalize hF9 : upF (upF (upF (upF F5 0 11 0) 0 13 0) 0 14 (nI (p + 1))) 1 1 0 = F9
          have r0 : ∀ j, j ≠ 11 → j ≠ 13 → j ≠ 14 → F9 0 j = F 0 j := fun j n1 n2 n3 => by rw [← hF9, upF_ne _ _ _ (by omega), upF_eq, pk_un n3, upF_eq, pk_un n2, upF_eq, pk_un n1, dq 0 (by omega) (by omega) (by omega), bq 0 (by omega) (by omega) (by omega) (by omega) (by omega) (by omega)]
          have r11 : F9 0 11 = 0 := by rw [← hF9, upF_ne _ _ _ (by omega), upF_eq, pk_un (by omega), upF_eq, pk_un (by omega), upF_eq, pk_us]
          have r13 : F9 0 13 = 0 := by rw [← hF9, upF_ne _ _ _ (by omega), upF_eq, pk_un (by omega), upF_eq, pk_us]
          have r14 : F9 0 14 = nI (p + 1) := by rw [← hF9, upF_ne _ _ _ (by omega), upF_eq, pk_us]
          have r1 : F9 1 1 = 0 := by rw [← hF9, upF_eq, pk_us]
          have rq : ∀ q, q ≠ 0 → q ≠ 1 → F9 q = F5 q := fun q n1 n2 => by rw [← hF9, upF_ne _ _ _ n2, upF_ne _ _ _ n1, upF_ne _ _ _ n1, upF_ne _ _ _ n1]
          clear hF9 f14
          have c92 : F9 9 2 = nI ((R.2.1 + 1) * R.2.2.1) := by rw [rq _ (by omega) (by omega), dq _ (by omega) (by omega) (by omega), e9, a92]
          have qf : ∀ q, 2 ≤ q → (q < 3 ∨ 5 < q) → (q < 9 ∨ 11 < q) → (q < 26 ∨ 28 < q) → F9 q = F q := fun q n1 n2 n3 n4 => by rw [rq q (by omega) (by omega), dq q (by omega) (by omega) (by omega), bq q (by omega) (by omega) (by omega) (by omega) (by omega) (by omega)]
          rw [c92]
          unfold wp_X12_pan
          refine m_readP (cs := csF F) (len := len) p1 (by rw [qf _ (by omega) (by omega) (by omega) (by omega), p3]) (fun j hj => ⟨by rw [qf _ (by omega) (by omega) (by omega) (by omega)]; exact (hcs j hj).2.1, (hcs j hj).2.2⟩) (fun H k1 k2 k3 k4 k5 k6 => ?_)
          rw [hR] at k4 k6
          obtain ⟨y1, y2, y3, y4, y6⟩ := k6
          rw [ecell] at y6
          refine if_n (by rw [k4 hw]; exact t10) ?_
          have u30 : ∀ v, (upF H 121 0 v) 121 30 = nI R.2.2.1 := fun v => by rw [upF_eq, pk_un (by omega), y2]
          dsimp only [Nm]
          rw [u30, y1, nI_1]
          generalize hH3 : upF (upF H 121 0 (nI (R.2.1 + 1))) 121 1 (nI R.2.2.1) = H3
          have s0 : H3 121 0 = nI (R.2.1 + 1) := by rw [← hH3, upF_eq, pk_un (by omega), upF_eq, pk_us]
          have s1 : H3 121 1 = nI R.2.2.1 := by rw [← hH3, upF_eq, pk_us]
          have sk : ∀ k, 2 ≤ k → (k < 27 ∨ 32 < k) → H3 121 k = F 121 k := fun k n1 n2 => by rw [← hH3, upF_eq, pk_un (by omega), upF_eq, pk_un (by omega), k2 k n2, qf _ (by omega) (by omega) (by omega) (by omega)]
          have sq : ∀ q, q ≠ 121 → H3 q = H q := fun q hq => by rw [← hH3, upF_ne _ _ _ hq, upF_ne _ _ _ hq]
          clear hH3
          refine for2 ((R.2.1 + 1) * R.2.2.1) (fun k A => A 121 = H3 121 ∧ A 137 = H3 137 ∧ A 138 = H3 138 ∧ (∀ q, q ≠ 122 → q ≠ 123 → q ≠ 124 → q ≠ 125 → A q = H3 q) ∧ A 122 = pt k R.2.2.2.2.2.1 (H3 122) ∧ A 123 = pt k R.2.2.2.2.2.2 (H3 123) ∧ A 124 = pt k (fun _ => 0) (H3 124) ∧ A 125 = pt k (fun _ => 0) (H3 125)) (by omega) (fun K2 k A hk hI2 hK2 => ?_) (fun K2 A hI2 => ?_) 0 H3 (Nat.zero_le _) ⟨rfl, rfl, rfl, fun _ _ _ _ _ => rfl, (pt_0 _ _).symm, (pt_0 _ _).symm, (pt_0 _ _).symm, (pt_0 _ _).symm⟩
          · obtain ⟨t1, t2, t3, t4, t5, t6, t7, t8⟩ := hI2
            have i16 : vp_in (nI k) 16 := vp_in_nI (by omega) (by omega)
            have e137 : A 137 k = R.2.2.2.2.2.1 k := by rw [t2, sq _ (by omega)]; exact (y6 k hk).1
            have e138 : ∀ v, (upF A 122 k v) 138 k = R.2.2.2.2.2.2 k := fun v => by rw [upF_ne _ _ _ (by omega), t3, sq _ (by omega)]; exact (y6 k hk).2
            unfold wb_X12_pan_34
            rw [t1, s0, s1, pk_mul]
            refine if_n (nI_ge hk (by omega)) ⟨i16, i16, i16, i16, i16, i16, ?_⟩
            rw [nI_clamp (by omega)]
            dsimp only [Nm]
            rw [e137, e138, nbx (hok6 k hk).2]
            refine hK2 _ ⟨?_, ?_, ?_, fun q n1 n2 n3 n4 => ?_, ?_, ?_, ?_, ?_⟩
            · rw [upF_ne _ _ _ (by omega), upF_ne _ _ _ (by omega), upF_ne _ _ _ (by omega), upF_ne _ _ _ (by omega), t1]
            · rw [upF_ne _ _ _ (by omega), upF_ne _ _ _ (by omega), upF_ne _ _ _ (by omega), upF_ne _ _ _ (by omega), t2]
            · rw [upF_ne _ _ _ (by omega), upF_ne _ _ _ (by omega), upF_ne _ _ _ (by omega), upF_ne _ _ _ (by omega), t3]
            · rw [upF_ne _ _ _ n4, upF_ne _ _ _ n3, upF_ne _ _ _ n2, upF_ne _ _ _ n1, t4 q n1 n2 n3 n4]
            · rw [upF_ne _ _ _ (by omega), upF_ne _ _ _ (by omega), upF_ne _ _ _ (by omega), upF_eq, t5]; exact pt_s k _ _ rfl
            · rw [upF_ne _ _ _ (by omega), upF_ne _ _ _ (by omega), upF_eq, upF_ne _ _ _ (by omega), t6]; exact pt_s k _ _ rfl
            · rw [upF_ne _ _ _ (by omega), upF_eq, upF_ne _ _ _ (by omega), upF_ne _ _ _ (by omega), t7]; exact pt_s k _ _ rfl
            · rw [upF_eq, upF_ne _ _ _ (by omega), upF_ne _ _ _ (by omega), upF_ne _ _ _ (by omega), t8]; exact pt_s k _ _ rfl
          · obtain ⟨t1, t2, t3, t4, t5, t6, t7, t8⟩ := hI2
            unfold wb_X12_pan_34 wp_X12_pan_91
            rw [t1, s0, s1, pk_mul]
            refine if_y (nI_le (Nat.le_refl _) (by omega)) ?_
            have v2 : (upF (upF A 121 7 0) 121 15 0) 121 2 = nI p := by rw [upF_eq, pk_un (by omega), upF_eq, pk_un (by omega), t1, sk 2 (by omega) (by omega), h1.2.2.2.1]
            dsimp only [Nm]
            rw [v2, nI_1]
            generalize hM : upF (upF (upF (upF A 121 7 0) 121 15 0) 121 2 (nI (p + 1))) 121 19 0 = M
            have m7 : M 121 7 = 0 := by rw [← hM, upF_eq, pk_un (by omega), upF_eq, pk_un (by omega), upF_eq, pk_un (by omega), upF_eq, pk_us]
            have m15 : M 121 15 = 0 := by rw [← hM, upF_eq, pk_un (by omega), upF_eq, pk_un (by omega), upF_eq, pk_us]
            have m2 : M 121 2 = nI (p + 1) := by rw [← hM, upF_eq, pk_un (by omega), upF_eq, pk_us]
            have m19 : M 121 19 = 0 := by rw [← hM, upF_eq, pk_us]
            have mk : ∀ k, k ≠ 7 → k ≠ 15 → k ≠ 2 → k ≠ 19 → M 121 k = H3 121 k := fun k n1 n2 n3 n4 => by rw [← hM, upF_eq, pk_un n4, upF_eq, pk_un n3, upF_eq, pk_un n2, upF_eq, pk_un n1, t1]
            have mq : ∀ q, q ≠ 121 → M q = A q := fun q hq => by rw [← hM, upF_ne _ _ _ hq, upF_ne _ _ _ hq, upF_ne _ _ _ hq, upF_ne _ _ _ hq]
            clear hM v2
            have mf : ∀ q, 2 ≤ q → (q < 3 ∨ 5 < q) → (q < 9 ∨ 11 < q) → (q < 26 ∨ 28 < q) → (q < 121 ∨ 125 < q) → q < 137 → M q = F q := fun q n1 n2 n3 n4 n5 n6 => by rw [mq q (by omega), t4 q (by omega) (by omega) (by omega) (by omega), sq q (by omega), k1 q (by omega) (by omega) (by omega), qf q n1 n2 n3 n4]
            have mF9 : ∀ q, q < 121 → M q = F9 q := fun q hq => by rw [mq q (by omega), t4 q (by omega) (by omega) (by omega) (by omega), sq q (by omega), k1 q (by omega) (by omega) (by omega)]
            refine ⟨?_, ?_⟩
            · rw [mk 0 (by omega) (by omega) (by omega) (by omega), mk 1 (by omega) (by omega) (by omega) (by omega), s0, s1, pk_mul]
            · have okPn : okP (R.2.1 + 1, R.2.2.1, R.2.2.2.2.2.1, R.2.2.2.2.2.2) := ⟨by show R.2.1 + 1 < 5; omega, by show R.2.2.1 < 5; omega, by show 2 ≤ R.2.1 + 1; omega, c2, fun j hj => (hok6 j hj).1⟩
              have nne : nn (R.2.1 + 1, R.2.2.1, R.2.2.2.2.2.1, R.2.2.2.2.2.2) = (R.2.1 + 1) * R.2.2.1 := rfl
              refine ⟨(R.2.1 + 1, R.2.2.1, R.2.2.2.2.2.1, R.2.2.2.2.2.2), p + 1, np, 0, (fun _ => 0, fun _ => 0, 0), 0, s, ⟨⟨?_, ?_, ?_, fun j hj => ?_, fun j hj => ?_⟩, ⟨?_, ?_, fun j hj => ?_, fun j hj => ?_⟩, ?_, m2, by have := h1.2.2.2.2.1; omega, Or.inr ⟨by omega, okPn⟩⟩, ?_, ⟨by omega, ?_, m15, fun a ha => absurd ha (by omega)⟩, ⟨⟨fun j hj => ?_, fun j hj => ?_, ?_⟩, fun j hj => ?_, fun j hj => ?_, m7, ⟨fun j hj => ⟨⟨0, by omega, rfl⟩, ⟨0, by omega, rfl⟩⟩, ⟨0, by omega, rfl⟩⟩, fun j j1 j2 => ?_⟩, Or.inl ⟨?_, ?_⟩, ⟨by omega, ?_, m19, fun j hj => absurd hj (by omega)⟩, ?_⟩
              · rw [mF9 9 (by omega), c92]; rfl
              · rw [mF9 9 (by omega), rq _ (by omega) (by omega), dq _ (by omega) (by omega) (by omega), e9, a93]
              · rw [mF9 9 (by omega), rq _ (by omega) (by omega), dq _ (by omega) (by omega) (by omega), e9, a94]
              · rw [mF9 10 (by omega), rq _ (by omega) (by omega), dq _ (by omega) (by omega) (by omega), b10 j hj]
              · rw [mF9 11 (by omega), rq _ (by omega) (by omega), dq _ (by omega) (by omega) (by omega), b11 j hj]
              · rw [mk 0 (by omega) (by omega) (by omega) (by omega), s0]
              · rw [mk 1 (by omega) (by omega) (by omega) (by omega), s1]
              · rw [nne] at hj; rw [mq 122 (by omega), t5, pt_lt _ _ hj]
              · rw [nne] at hj; rw [mq 123 (by omega), t6, pt_lt _ _ hj]
              · rw [mF9 0 (by omega), r14]
              · refine IPl_tr (fun q j u => ?_) h2
                unfold uPl at u
                by_cases z0 : q = 0
                · subst z0; rw [mF9 0 (by omega), r0 j (by omega) (by omega) (by omega)]
                · by_cases z1 : q = 121
                  · subst z1; rw [mk j (by omega) (by omega) (by omega) (by omega), sk j (by omega) (by omega)]
                  · rw [mf q (by omega) (by omega) (by omega) (by omega) (by omega) (by omega)]
              · rw [mF9 0 (by omega), r11]; rfl
              · rw [nne] at hj; rw [mF9 _ (by omega), rq _ (by omega) (by omega), d27 j (by omega)]
              · rw [nne] at hj; rw [mF9 _ (by omega), rq _ (by omega) (by omega), d28 j (by omega)]
              · rw [mF9 _ (by omega), rq _ (by omega) (by omega), d26]
              · rw [nne] at hj; rw [mq 124 (by omega), t7, pt_lt _ _ hj]
              · rw [nne] at hj; rw [mq 125 (by omega), t8, pt_lt _ _ hj]
              · rw [mF9 _ (by omega), rq _ (by omega) (by omega), d28 j j2]
              · rw [mF9 0 (by omega), r13]
              · have m21 : M 121 21 = F 121 21 := by rw [mk _ (by omega) (by omega) (by omega) (by omega), sk _ (by omega) (by omega)]
                have m22 : M 121 22 = F 121 22 := by rw [mk _ (by omega) (by omega) (by omega) (by omega), sk _ (by omega) (by omega)]
                rw [m21, m22]
                rcases h5 with ⟨z1, z2⟩ | ⟨kc, ks, z⟩
                · rcases z2 with y | ⟨kp, y1, y2⟩
                  · exact Or.inl y
                  · exact Or.inr ⟨kp, by omega, y2⟩
                · exact Or.inr ⟨p, by omega, z.2.2.1⟩
              · rw [mF9 1 (by omega), r1]; rfl
              · refine ISe_tr (fun q j u => ?_) h7
                unfold uSe at u
                by_cases z0 : q = 0
                · subst z0; rw [mF9 0 (by omega), r0 j (by omega) (by omega) (by omega)]
                · have z1 : q = 121 := by omega
                  subst z1; rw [mk j (by omega) (by omega) (by omega) (by omega), sk j (by omega) (by omega)]
      · exact if_n (c_ne (by omega) (by omega) w3) (if_y rfl (if_y rfl (no (fun z => w3 z.2.2))))
    · refine if_y (nI_lt (b := 2) (by omega) (by omega)) (if_y rfl (if_y rfl (no (fun z => w2 z.2.1))))
  · exact if_n (c_ne (by omega) (by omega) w1) (if_y rfl (no (fun z => w1 z.1)))
