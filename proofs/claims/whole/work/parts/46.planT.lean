theorem T_plan {i : Nat} {F : gS} (h : Inv i F) : wp_X11_plan F (fun r G => wp_X12_plan G (fun r' H => r = r' ∧ Inv (i + 1) H)) := by
  have hI := h
  obtain ⟨P, p, np, nc, c, len, s, h1, h2, h3, h4, h5, h6, h7⟩ := h
  have hcs := cs_ok h6
  obtain ⟨p1, p2, p3, p4⟩ := h6
  obtain ⟨n1, n2, n3, n4⟩ := h2
  unfold wp_X11_plan wp_X4_isWhole_6
  refine s_readL (cs := csF F) p1 p2 (fun j hj => ⟨(hcs j hj).1, (hcs j hj).2.2⟩) (fun G g1 g2 g3 => ?_)
  have hle := rdL_le (cs := csF F) len 0 XS0
  have g11 : G 1 1 = nI len := by rw [g1 1 (by omega) (by omega) (by omega), p2]
  have g010 : G 0 10 = nI np := by rw [g1 0 (by omega) (by omega) (by omega), n2]
  have gm : ∀ q, 9 ≤ q → G q = F q := fun q hq => g1 q (by omega) (by omega) (by omega)
  generalize hR : rdL (csF F) len 0 XS0 = R at g2 g3 hle
  have no : ¬ whL len R → wp_X12_plan G (fun r' H => (-103) = r' ∧ Inv (i + 1) H) := by
    intro hw
    unfold wp_X12_plan
    refine m_readL (cs := csF F) (len := len) p1 (by rw [gm _ (by omega), p3]) (fun j hj => ⟨by rw [gm _ (by omega)]; exact (hcs j hj).2.1, (hcs j hj).2.2⟩) (fun H k1 k2 k3 k4 k5 => ?_)
    rw [hR] at k5
    refine if_y (k5 hw) ⟨rfl, Inv_tr (fun q k u => ?_) (by omega) hI⟩
    unfold uA at u
    by_cases z : q = 121
    · subst z; rw [k2 k (by omega), gm _ (by omega)]
    · rw [k1 q z (by omega), g1 q (by omega) (by omega) (by omega)]
  have o1 := g3.1
  have o4 := g3.2.1 4 (by omega)
  rw [g11]
  by_cases w1 : R.1 = len
  · refine if_y (by rw [w1]) ?_
    unfold wp_X8_whole
    rw [g2.1, t4c, g2.2.1 4 (by omega)]
    by_cases w2 : R.2.1 = 4
    · refine if_y (by rw [w2]; rfl) ⟨vp_in_nI (n := 4) (by omega) (by omega), ?_⟩
      by_cases w3 : 1 ≤ R.2.2.1 4
      · refine if_n (nI_nle (by omega) (by omega)) (if_n t10 (if_n t10 ?_))
        have hw : whL len R := ⟨w1, w2, w3⟩
        rw [g010]
        by_cases w4 : np < 6
        · refine if_y (nI_lt (b := 6) w4 (by omega)) ⟨vp_in_nI w4 (by omega), ?_⟩
          rw [nI_clamp (by omega)]
          refine s_newPlan (X := R.2) (by omega) g3 g2 (fun A a1 a2 => ?_)
          have A0 : A 0 10 = nI np := by rw [a1 0 (by omega) (by omega), g010]
          have u10 : (upF (upF A 0 10 (nI (np + 1))) 1 1 0) 0 10 = nI (np + 1) := by rw [upF_ne _ _ _ (by omega), upF_eq, pk_us]
          dsimp only [Nm]
          rw [A0, nI_1, u10, nI_pred]
          generalize hB : upF (upF A 0 10 (nI (np + 1))) 1 1 0 = B
          rw [hB] at u10
          have b0 : ∀ j, j ≠ 10 → B 0 j = F 0 j := fun j hj => by rw [← hB, upF_ne _ _ _ (by omega), upF_eq, pk_un hj, a1 0 (by omega) (by omega), g1 0 (by omega) (by omega) (by omega)]
          have b1 : B 1 1 = 0 := by rw [← hB, upF_eq, pk_us]
          have bq : ∀ q, 2 ≤ q → B q = A q := fun q hq => by rw [← hB, upF_ne _ _ _ (by omega), upF_ne _ _ _ (by omega)]
          clear hB
          have bf : ∀ q, 2 ≤ q → (q < 6 ∨ 8 < q) → q ≠ 37 + 2 * np → q ≠ 37 + 2 * np + 1 → B q = F q := fun q m1 m2 m3 m4 => by rw [bq q m1, a1 q m3 m4, g1 q (by omega) (by omega) (by omega)]
          have bm : ∀ q, 121 ≤ q → B q = F q := fun q hq => bf q (by omega) (by omega) (by omega) (by omega)
          unfold wp_X12_plan
          refine m_readL (cs := csF F) (len := len) p1 (by rw [bm _ (by omega), p3]) (fun j hj => ⟨by rw [bm _ (by omega)]; exact (hcs j hj).2.1, (hcs j hj).2.2⟩) (fun H k1 k2 k3 k4 k5 => ?_)
          rw [hR] at k4
          obtain ⟨k28, st, s10, lk, l1, l2, l3, l4, l5, l6⟩ := k4 hw
          obtain ⟨q1, q2, q3, q4, q5, q6, q7, q8⟩ := lk
          have v1 := q4 (by omega)
          have v2 := q5 (by omega)
          have v3 := q6 (by omega)
          have e8 : H 121 8 = nI np := by rw [k2 8 (by omega), bm _ (by omega), n3]
          refine if_n (by rw [k28]; exact t10) ?_
          rw [e8]
          refine if_n (fun z => by have := (nI_eq (b := 6) (by omega) (by omega)).mp z; omega) ⟨vp_in_nI w4 (by omega), ?_⟩
          have ne : ∀ (F : gS) (a b : Nat) (v : Int32), a ≠ 121 → (upF F a b v) 121 = F 121 := fun F a b v ha => upF_ne _ _ _ (Ne.symm ha)
          dsimp only [Nm]
          simp only [ne _ 126 _ _ (by omega), ne _ 127 _ _ (by omega), ne _ 128 _ _ (by omega), ne _ 129 _ _ (by omega), ne _ 130 _ _ (by omega)]
          rw [e8, l1 (by omega), l2 (by omega), l3 (by omega), l4 (by omega), l5, nI_clamp (by omega)]
          refine ⟨vp_in_nI w4 (by omega), vp_in_nI w4 (by omega), vp_in_nI w4 (by omega), vp_in_nI w4 (by omega), ?_⟩
          generalize hM : upF (upF (upF (upF (upF H 126 np (nI (R.2.2.1 1))) 127 np (nI (R.2.2.1 2))) 128 np (nI (R.2.2.1 3))) 129 np (nI (R.2.2.1 4))) 130 np (nI R.2.2.2.1) = M
          have mq : ∀ q, (q < 126 ∨ 130 < q) → M q = H q := fun q hq => by rw [← hM, upF_ne _ _ _ (by omega), upF_ne _ _ _ (by omega), upF_ne _ _ _ (by omega), upF_ne _ _ _ (by omega), upF_ne _ _ _ (by omega)]
          have m126 : M 126 = upd (H 126) np (nI (R.2.2.1 1)) := by rw [← hM, upF_ne _ _ _ (by omega), upF_ne _ _ _ (by omega), upF_ne _ _ _ (by omega), upF_ne _ _ _ (by omega), upF_eq]
          have m127 : M 127 = upd (H 127) np (nI (R.2.2.1 2)) := by rw [← hM, upF_ne _ _ _ (by omega), upF_ne _ _ _ (by omega), upF_ne _ _ _ (by omega), upF_eq, upF_ne _ _ _ (by omega)]
          have m128 : M 128 = upd (H 128) np (nI (R.2.2.1 3)) := by rw [← hM, upF_ne _ _ _ (by omega), upF_ne _ _ _ (by omega), upF_eq, upF_ne _ _ _ (by omega), upF_ne _ _ _ (by omega)]
          have m129 : M 129 = upd (H 129) np (nI (R.2.2.1 4)) := by rw [← hM, upF_ne _ _ _ (by omega), upF_eq, upF_ne _ _ _ (by omega), upF_ne _ _ _ (by omega), upF_ne _ _ _ (by omega)]
          have m130 : M 130 = upd (H 130) np (nI R.2.2.2.1) := by rw [← hM, upF_eq, upF_ne _ _ _ (by omega), upF_ne _ _ _ (by omega), upF_ne _ _ _ (by omega), upF_ne _ _ _ (by omega)]
          clear hM
          have m121 : M 121 = H 121 := mq 121 (by omega)
          refine for2 R.2.2.2.1 (fun k D => D = upR M 131 (seg (6 * np) k (M 139) (M 131))) (by omega) (fun K k D hk e hK => ?_) (fun K D e => ?_) 0 M (Nat.zero_le _) (by rw [seg_0, upR_self])
          · have d121 : D 121 = H 121 := by rw [e, upR_ne _ _ (by omega), m121]
            have d139 : D 139 = M 139 := by rw [e, upR_ne _ _ (by omega)]
            have e6 : 6 * nI np + nI k = nI (6 * np + k) := by
              have z1 : 6 * nI np = nI (6 * np) := pk_mul 6 np
              rw [z1, nI_add]
            unfold wb_X12_plan_93
            rw [d121, e8, l5, e6, d139]
            refine if_n (nI_ge hk (by omega)) ⟨vp_in_nI (by omega) (by omega), vp_in_nI (by omega) (by omega), hK _ ?_⟩
            rw [nI_clamp (by omega), nI_clamp (by omega), e, upF_upR]
            exact congrArg (upR M 131) (seg_s rfl)
          · have d121 : D 121 = H 121 := by rw [e, upR_ne _ _ (by omega), m121]
            unfold wb_X12_plan_93 wp_X12_plan_127
            rw [d121, e8, l5, nI_1]
            refine if_y (nI_le (Nat.le_refl _) (by omega)) ?_
            have w8 : (upF (upF D 121 8 (nI (np + 1))) 121 19 0) 121 8 = nI (np + 1) := by rw [upF_eq, pk_un (by omega), upF_eq, pk_us]
            dsimp only [Nm]
            rw [w8, nI_pred]
            refine ⟨rfl, ?_⟩
            generalize hE : upF (upF D 121 8 (nI (np + 1))) 121 19 0 = E
            rw [hE] at w8
            have e19 : E 121 19 = 0 := by rw [← hE, upF_eq, pk_us]
            have ek : ∀ k, k ≠ 8 → k ≠ 19 → (k < 27 ∨ 39 < k) → E 121 k = F 121 k := fun k m1 m2 m3 => by rw [← hE, upF_eq, pk_un m2, upF_eq, pk_un m1, d121, k2 k m3, bm _ (by omega)]
            have eq0 : ∀ q, q ≠ 121 → E q = D q := fun q hq => by rw [← hE, upF_ne _ _ _ hq, upF_ne _ _ _ hq]
            have eB : ∀ q, q ≠ 121 → (q < 126 ∨ 131 < q) → q ≠ 139 → E q = B q := fun q m1 m2 m3 => by rw [eq0 q m1, e, upR_ne _ _ (by omega), mq q (by omega), k1 q m1 m3]
            clear hE
            have mpl : ∀ q, 126 ≤ q → q ≤ 130 → E q = M q := fun q m1 m2 => by rw [eq0 q (by omega), e, upR_ne _ _ (by omega)]
            have e131 : E 131 = seg (6 * np) R.2.2.2.1 (M 139) (M 131) := by rw [eq0 131 (by omega), e, upR_eq]
            have hF : ∀ q, 126 ≤ q → q ≤ 131 → H q = F q := fun q m1 m2 => by rw [k1 q (by omega) (by omega), bm q (by omega)]
            have key : ∀ q j, uA q j → ¬ uPl q j → ¬ uPg q j → E q j = F q j := by
              intro q j u v1 v2
              unfold uA at u
              unfold uPl at v1
              unfold uPg at v2
              by_cases z : q = 121
              · subst z; rw [ek j (by omega) (by omega) (by omega)]
              · rw [eB q z (by omega) (by omega)]
                by_cases z0 : q = 0
                · subst z0; exact b0 j (by omega)
                · rw [bf q (by omega) (by omega) (by omega) (by omega)]
            refine ⟨P, p, np + 1, nc, c, 0, s, IPan_tr (fun q j u => key q j (by unfold uPan at u; unfold uA; omega) (by unfold uPan at u; unfold uPl; omega) (by unfold uPan at u; unfold uPg; omega)) (by omega) h1, ⟨by omega, ?_, w8, fun a ha => ?_⟩, ICk_tr (fun q j u => key q j (by unfold uCk at u; unfold uA; omega) (by unfold uCk at u; unfold uPl; omega) (by unfold uCk at u; unfold uPg; omega)) h3, ICd_tr (fun q j u => key q j (by unfold uCd at u; unfold uA; omega) (by unfold uCd at u; unfold uPl; omega) (by unfold uCd at u; unfold uPg; omega)) h4, IKp_tr (fun q j u => key q j (by unfold uKp at u; unfold uA; omega) (by unfold uKp at u; unfold uPl; omega) (by unfold uKp at u; unfold uPg; omega)) (Nat.le_refl _) h5, ⟨by omega, ?_, e19, fun j hj => absurd hj (by omega)⟩, ISe_tr (fun q j u => key q j (by unfold uSe at u; unfold uA; omega) (by unfold uSe at u; unfold uPl; omega) (by unfold uSe at u; unfold uPg; omega)) h7⟩
            · rw [eB 0 (by omega) (by omega) (by omega), u10]
            · rcases Nat.lt_or_ge a np with z | z
              · obtain ⟨L, t1, t2, y1, y2, y3, y4, y5, y6⟩ := n4 a z
                have up : ∀ v : Int32, ∀ f : Nat → Int32, upd f np v a = f a := fun v f => pk_un (by omega)
                refine ⟨L, t1, AgL_tr (fun q j u => ?_) t2, ?_, ?_, ?_, ?_, ?_, fun j hj => ?_⟩
                · rw [eB q (by omega) (by omega) (by omega), bf q (by omega) (by omega) (by omega) (by omega)]
                · rw [mpl 126 (by omega) (by omega), m126, up, hF _ (by omega) (by omega), y1]
                · rw [mpl 127 (by omega) (by omega), m127, up, hF _ (by omega) (by omega), y2]
                · rw [mpl 128 (by omega) (by omega), m128, up, hF _ (by omega) (by omega), y3]
                · rw [mpl 129 (by omega) (by omega), m129, up, hF _ (by omega) (by omega), y4]
                · rw [mpl 130 (by omega) (by omega), m130, up, hF _ (by omega) (by omega), y5]
                · have := t1.2.2.2.2
                  rw [e131, seg_lt (by omega), mq 131 (by omega), hF _ (by omega) (by omega), y6 j hj]
              · have ea : a = np := by omega
                subst ea
                refine ⟨_, ?_, AgL_tr (fun q j u => ?_) a2, ?_, ?_, ?_, ?_, ?_, fun j hj => ?_⟩
                · exact ⟨⟨R.2.2.1 1, v1.2, rfl⟩, ⟨R.2.2.1 2, v2.1, v2.2, rfl⟩, v3.2, o4, q1⟩
                · rw [eB q (by omega) (by omega) (by omega), bq q (by omega)]
                · rw [mpl 126 (by omega) (by omega), m126, pk_us]
                · rw [mpl 127 (by omega) (by omega), m127, pk_us]
                · rw [mpl 128 (by omega) (by omega), m128, pk_us]
                · rw [mpl 129 (by omega) (by omega), m129, pk_us]
                · rw [mpl 130 (by omega) (by omega), m130, pk_us]
                · have hj' : j < R.2.2.2.1 := hj
                  rw [e131, seg_in hj', mq 139 (by omega)]; exact l6 j hj'
            · rw [eB 1 (by omega) (by omega) (by omega), b1]; rfl
        · have e6 : np = 6 := by omega
          refine if_n (nI_nlt (b := 6) (by omega) (by omega)) ?_
          unfold wp_X12_plan
          refine m_readL (cs := csF F) (len := len) p1 (by rw [gm _ (by omega), p3]) (fun j hj => ⟨by rw [gm _ (by omega)]; exact (hcs j hj).2.1, (hcs j hj).2.2⟩) (fun H k1 k2 k3 k4 k5 => ?_)
          rw [hR] at k4
          have e8 : H 121 8 = nI np := by rw [k2 8 (by omega), gm _ (by omega), n3]
          refine if_n (by rw [(k4 hw).1]; exact t10) (if_y (by rw [e8, e6]; rfl) ⟨rfl, Inv_tr (fun q k u => ?_) (by omega) hI⟩)
          unfold uA at u
          by_cases z : q = 121
          · subst z; rw [k2 k (by omega), gm _ (by omega)]
          · rw [k1 q z (by omega), g1 q (by omega) (by omega) (by omega)]
      · exact if_y (nI_le (b := 0) (by omega) (by omega)) (if_y rfl (if_y rfl (no (fun z => w3 z.2.2))))
    · exact if_n (c_ne (k := 4) (by omega) (by omega) w2) (if_y rfl (if_y rfl (no (fun z => w2 z.2.1))))
  · exact if_n (c_ne (by omega) (by omega) w1) (if_y rfl (no (fun z => w1 z.1)))
