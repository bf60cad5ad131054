/-! calls that change the pan: scrape, image, restore, warm, fry -/
theorem T_scrape {i : Nat} {F : gS} (hi : i < 2 ^ 20) (h : Inv i F) : wp_X11_scrape F (fun r G => wp_X12_scrape G (fun r' H => r = r' ∧ Inv (i + 1) H)) := by
  have hI := h
  obtain ⟨P, p, np, nc, c, len, s, h1, h2, h3, h4, h5, h6, h7⟩ := h
  unfold wp_X11_scrape
  rcases pan_or hi h1 with ⟨z1, z2, z3, z4⟩ | ⟨z1, z2, z3, z4, z5, z6⟩
  · exact x_panN z3 (if_y rfl (if_y z4 ⟨rfl, Inv_s hI⟩))
  · refine x_panY z4 (if_n t10 (s_bits ?_))
    obtain ⟨-, ec, -⟩ := isCellB h1 hi 0
    unfold wp_X1_clearBits
    refine s_fill16 ?_
    generalize hG : upR F (26 + 2) (pt 16 (fun _ => 0) (F (26 + 2))) = G
    have gq : ∀ q, q ≠ 28 → G q = F q := fun q hq => by rw [← hG, upR_ne _ _ hq]
    have g28 : ∀ j, j < 16 → G 28 j = 0 := fun j hj => by rw [← hG, upR_eq, pt_lt _ _ hj]
    clear hG
    unfold wp_X12_scrape
    refine if_n (by rw [gq _ (by omega)]; exact z5) (m_bits (n := nn P) z3 (by rw [gq _ (by omega)]; exact ec) ?_)
    rw [gq 125 (by omega)]
    refine for2 16 (fun k F' => F' = upR G 125 (pt k (fun _ => 0) (G 125))) (by omega) (fun K k F' hk e hK => ?_) (fun K F' e => ?_) 0 G (Nat.zero_le _) (by rw [pt_0, upR_self])
    · unfold wb_X12_scrape_17
      refine if_n (nI_ge (b := 16) hk (by omega)) ⟨vp_in_nI hk (by omega), hK _ ?_⟩
      rw [nI_clamp (by omega), e, upF_upR]
      exact congrArg (upR G 125) (pt_s k _ _ rfl)
    · unfold wb_X12_scrape_17
      refine if_y (nI_le (a := 16) (Nat.le_refl _) (by omega)) ⟨bits_eq h4 z3, ?_⟩
      have key : ∀ q j, q ≠ 28 → q ≠ 125 → F' q j = F q j := fun q j a b => by rw [e, upR_ne _ _ b, gq q a]
      obtain ⟨c1, c2, c3, c4, c5, c6⟩ := h4
      refine ⟨P, p, np, nc, (c.1, (fun _ => 0), c.2.2), len, s, IPan_tr (fun q j u => key q j (by unfold uPan at u; omega) (by unfold uPan at u; omega)) (by omega) h1, IPl_tr (fun q j u => key q j (by unfold uPl at u; omega) (by unfold uPl at u; omega)) h2, ICk_tr (fun q j u => key q j (by unfold uCk at u; omega) (by unfold uCk at u; omega)) h3, ⟨⟨fun j hj => ?_, fun j hj => ?_, ?_⟩, fun j hj => ?_, fun j hj => ?_, ?_, ⟨fun j hj => ⟨(c5.1 j hj).1, ⟨0, by omega, rfl⟩⟩, c5.2⟩, fun j j1 j2 => ?_⟩, IKp_tr (fun q j u => key q j (by unfold uKp at u; omega) (by unfold uKp at u; omega)) (Nat.le_refl _) h5, IPg_tr (fun q j u => key q j (by unfold uPg at u; omega) (by unfold uPg at u; omega)) h6, ISe_tr (fun q j u => key q j (by unfold uSe at u; omega) (by unfold uSe at u; omega)) h7⟩
      · rw [key _ _ (by omega) (by omega), c1.1 j hj]
      · rw [e, upR_ne _ _ (by omega), g28 j (by omega)]
      · rw [key _ _ (by omega) (by omega), c1.2.2]
      · rw [key _ _ (by omega) (by omega), c2 j hj]
      · rw [e, upR_eq, pt_lt _ _ (by omega)]
      · rw [key _ _ (by omega) (by omega), c4]
      · rw [e, upR_ne _ _ (by omega), g28 j j2]
theorem T_image {i : Nat} {F : gS} (hi : i < 2 ^ 20) (h : Inv i F) : wp_X11_image F (fun r G => wp_X12_image G (fun r' H => r = r' ∧ Inv (i + 1) H)) := by
  have hI := h
  obtain ⟨P, p, np, nc, c, len, s, h1, h2, h3, h4, h5, h6, h7⟩ := h
  unfold wp_X11_image
  rcases pan_or hi h1 with ⟨z1, z2, z3, z4⟩ | ⟨z1, z2, z3, z4, z5, z6⟩
  · exact x_panN z3 (if_y rfl (if_y z4 ⟨rfl, Inv_s hI⟩))
  · refine x_panY z4 (if_n t10 ?_)
    refine s_become (by omega) (by omega) (by omega) (fun G g1 g2 g3 g4 => ?_)
    have g0 : G 0 = F 0 := g1 0 (by omega) (by omega) (by omega)
    dsimp only [Nm]
    rw [g0, h3.2.1]
    have e12 : (upF (upF G 0 12 (nI nc)) 0 13 1) 0 12 = nI nc := by rw [upF_eq, pk_un (by omega), upF_eq, pk_us]
    rw [e12]
    generalize hG5 : upF (upF G 0 12 (nI nc)) 0 13 1 = G5
    rw [hG5] at e12
    have q5 : ∀ q, q ≠ 0 → G5 q = G q := fun q hq => by rw [← hG5, upF_ne _ _ _ hq, upF_ne _ _ _ hq]
    have q0 : ∀ j, j ≠ 12 → j ≠ 13 → G5 0 j = F 0 j := fun j a b => by rw [← hG5, upF_eq, pk_un b, upF_eq, pk_un a, g0]
    have e13 : G5 0 13 = 1 := by rw [← hG5, upF_eq, pk_us]
    clear hG5
    have qm : ∀ q, 31 < q → G5 q = F q := fun q hq => by rw [q5 q (by omega), g1 q (by omega) (by omega) (by omega)]
    unfold wp_X12_image
    refine if_n (by rw [qm _ (by omega)]; exact z5) ?_
    have u0 : (upF G5 121 21 1) 121 2 = nI p := by rw [upF_eq, pk_un (by omega), qm _ (by omega), h1.2.2.2.1]
    have u1 : ∀ v, (upF (upF G5 121 21 1) 121 22 v) 121 7 = c.2.2 := fun v => by rw [upF_eq, pk_un (by omega), upF_eq, pk_un (by omega), qm _ (by omega), h4.2.2.2.1]
    have u2 : ∀ v w, (upF (upF (upF G5 121 21 1) 121 22 v) 121 23 w) 121 15 = nI nc := fun v w => by rw [upF_eq, pk_un (by omega), upF_eq, pk_un (by omega), upF_eq, pk_un (by omega), qm _ (by omega), h3.2.2.1]
    dsimp only [Nm]
    rw [u0, u1, u2]
    generalize hM : upF (upF (upF (upF G5 121 21 1) 121 22 (nI p)) 121 23 c.2.2) 121 24 (nI nc) = M
    have m1 : ∀ q, q ≠ 121 → M q = G5 q := fun q hq => by rw [← hM, upF_ne _ _ _ hq, upF_ne _ _ _ hq, upF_ne _ _ _ hq, upF_ne _ _ _ hq]
    have m2 : ∀ k, (k < 21 ∨ 24 < k) → M 121 k = F 121 k := fun k hk => by rw [← hM, upF_eq, pk_un (by omega), upF_eq, pk_un (by omega), upF_eq, pk_un (by omega), upF_eq, pk_un (by omega), qm _ (by omega)]
    have m21 : M 121 21 = 1 := by rw [← hM, upF_eq, pk_un (by omega), upF_eq, pk_un (by omega), upF_eq, pk_un (by omega), upF_eq, pk_us]
    have m22 : M 121 22 = nI p := by rw [← hM, upF_eq, pk_un (by omega), upF_eq, pk_un (by omega), upF_eq, pk_us]
    have m23 : M 121 23 = c.2.2 := by rw [← hM, upF_eq, pk_un (by omega), upF_eq, pk_us]
    have m24 : M 121 24 = nI nc := by rw [← hM, upF_eq, pk_us]
    clear hM u0 u1 u2
    refine cp2 (F := M) (a := 135) (b := 136) (f := 124) (g := 125) (by omega) (by omega) (by omega) (by omega) (by omega) (fun K k F' hk hK => ?_) (fun K H n1 n2 n3 => ?_)
    · have i16 : vp_in (nI k) 16 := vp_in_nI hk (by omega)
      unfold wb_X12_image_41
      refine if_n (nI_ge (b := 16) hk (by omega)) ⟨i16, i16, i16, i16, ?_⟩
      rw [nI_clamp (by omega)]
      exact hK
    · unfold wb_X12_image_41
      refine if_y (nI_le (a := 16) (Nat.le_refl _) (by omega)) ⟨?_, ?_⟩
      · rw [n1 121 (by omega) (by omega), m2 15 (by omega), h3.2.2.1]
      · have key : ∀ q j, uA q j → ¬ uKp q j → H q j = F q j := by
          intro q j u v
          unfold uA at u
          unfold uKp at v
          by_cases a : q = 121
          · subst a; rw [n1 121 (by omega) (by omega), m2 j (by omega)]
          · rw [n1 q (by omega) (by omega), m1 q a]
            by_cases b : q = 0
            · subst b; exact q0 j (by omega) (by omega)
            · rw [q5 q b, g1 q (by omega) (by omega) (by omega)]
        obtain ⟨c1, c2, c3, c4, c5, c6⟩ := h4
        refine ⟨P, p, np, nc, c, len, s, IPan_tr (fun q j u => key q j (by unfold uPan at u; unfold uA; omega) (by unfold uPan at u; unfold uKp; omega)) (by omega) h1, IPl_tr (fun q j u => key q j (by unfold uPl at u; unfold uA; omega) (by unfold uPl at u; unfold uKp; omega)) h2, ICk_tr (fun q j u => key q j (by unfold uCk at u; unfold uA; omega) (by unfold uCk at u; unfold uKp; omega)) h3, ICd_tr (fun q j u => key q j (by unfold uCd at u; unfold uA; omega) (by unfold uCd at u; unfold uKp; omega)) ⟨c1, c2, c3, c4, c5, c6⟩, Or.inr ⟨c, nc, ?_⟩, IPg_tr (fun q j u => key q j (by unfold uPg at u; unfold uA; omega) (by unfold uPg at u; unfold uKp; omega)) h6, ISe_tr (fun q j u => key q j (by unfold uSe at u; unfold uA; omega) (by unfold uSe at u; unfold uKp; omega)) h7⟩
        have x0 : H 0 = G5 0 := by rw [n1 0 (by omega) (by omega), m1 0 (by omega)]
        have xc : ∀ q, 29 ≤ q → q ≤ 31 → H q = G q := fun q a b => by rw [n1 q (by omega) (by omega), m1 q (by omega), q5 q (by omega)]
        refine ⟨by rw [x0, e13], by rw [n1 121 (by omega) (by omega), m21], by rw [n1 121 (by omega) (by omega), m22], ⟨fun j hj => ?_, fun j hj => ?_, ?_⟩, fun j hj => ?_, fun j hj => ?_, by rw [n1 121 (by omega) (by omega), m23], c5, fun j j1 j2 => ?_, Nat.le_refl _, by rw [x0, e12], by rw [n1 121 (by omega) (by omega), m24]⟩
        · rw [xc _ (by omega) (by omega), g2 j (by omega), c1.1 j hj]
        · rw [xc _ (by omega) (by omega), g3 j (by omega), c1.2.1 j hj]
        · rw [xc _ (by omega) (by omega), g4, c1.2.2]
        · rw [n2 j (by omega), m1 _ (by omega), qm _ (by omega), c2 j hj]
        · rw [n3 j (by omega), m1 _ (by omega), qm _ (by omega), c3 j hj]
        · rw [xc 31 (by omega) (by omega)]; show G (29 + 2) j = 0; rw [g3 j j2]; exact c6 j j1 j2
theorem T_restore {i : Nat} {F : gS} (hi : i < 2 ^ 20) (h : Inv i F) : wp_X11_restore F (fun r G => wp_X12_restore G (fun r' H => r = r' ∧ Inv (i + 1) H)) := by
  have hI := h
  obtain ⟨P, p, np, nc, c, len, s, h1, h2, h3, h4, h5, h6, h7⟩ := h
  have hp := h1.2.2.2.2.1
  have hn16 := (isCellB h1 hi 0).1
  unfold wp_X11_restore
  rcases h5 with ⟨k1, k2⟩ | ⟨kc, ks, k1, k2, k3, k4, k5, k6, k7, k8, k9, k10, k11, k12⟩
  · refine if_y k1 ?_
    unfold wp_X12_restore
    refine if_c (fun _ => ⟨rfl, Inv_s hI⟩) (fun z => if_n ?_ ⟨rfl, Inv_s hI⟩)
    rcases k2 with y | ⟨kp, y1, y2⟩
    · exact absurd y z
    · rw [y2, h1.2.2.2.1]
      intro e
      have := (nI_eq (by omega) (by omega)).mp e
      omega
  · refine if_n (by rw [k1]; exact t10) ?_
    refine s_become (by omega) (by omega) (by omega) (fun G g1 g2 g3 g4 => ?_)
    have g0 : G 0 = F 0 := g1 0 (by omega) (by omega) (by omega)
    dsimp only [Nm]
    rw [g0, k11]
    have e11 : (upF G 0 11 (nI ks)) 0 11 = nI ks := by rw [upF_eq, pk_us]
    rw [e11]
    generalize hG5 : upF G 0 11 (nI ks) = G5
    rw [hG5] at e11
    have q5 : ∀ q, q ≠ 0 → G5 q = G q := fun q hq => by rw [← hG5, upF_ne _ _ _ hq]
    have q0 : ∀ j, j ≠ 11 → G5 0 j = F 0 j := fun j a => by rw [← hG5, upF_eq, pk_un a, g0]
    clear hG5
    have qm : ∀ q, 28 < q → G5 q = F q := fun q hq => by rw [q5 q (by omega), g1 q (by omega) (by omega) (by omega)]
    unfold wp_X12_restore
    refine if_n (by rw [qm _ (by omega), k2]; exact t10) (if_y (by rw [qm _ (by omega), k3, h1.2.2.2.1]) ?_)
    have u1 : ∀ v, (upF G5 121 7 v) 121 24 = nI ks := fun v => by rw [upF_eq, pk_un (by omega), qm _ (by omega), k12]
    dsimp only [Nm]
    rw [u1, qm 121 (by omega), k7]
    generalize hM : upF (upF G5 121 7 kc.2.2) 121 15 (nI ks) = M
    have m1 : ∀ q, q ≠ 121 → M q = G5 q := fun q hq => by rw [← hM, upF_ne _ _ _ hq, upF_ne _ _ _ hq]
    have m2 : ∀ k, k ≠ 7 → k ≠ 15 → M 121 k = F 121 k := fun k a b => by rw [← hM, upF_eq, pk_un b, upF_eq, pk_un a, qm _ (by omega)]
    have m7 : M 121 7 = kc.2.2 := by rw [← hM, upF_eq, pk_un (by omega), upF_eq, pk_us]
    have m15 : M 121 15 = nI ks := by rw [← hM, upF_eq, pk_us]
    clear hM u1
    refine cp2 (F := M) (a := 124) (b := 125) (f := 135) (g := 136) (by omega) (by omega) (by omega) (by omega) (by omega) (fun K k F' hk hK => ?_) (fun K H n1 n2 n3 => ?_)
    · have i16 : vp_in (nI k) 16 := vp_in_nI hk (by omega)
      unfold wb_X12_restore_39
      refine if_n (nI_ge (b := 16) hk (by omega)) ⟨i16, i16, i16, i16, ?_⟩
      rw [nI_clamp (by omega)]
      exact hK
    · unfold wb_X12_restore_39
      refine if_y (nI_le (a := 16) (Nat.le_refl _) (by omega)) ⟨?_, ?_⟩
      · rw [n1 121 (by omega) (by omega), m15]
      · have key : ∀ q j, uA q j → ¬ uCd q j → ¬ (q = 0 ∧ j = 11) → ¬ (q = 121 ∧ j = 15) → H q j = F q j := by
          intro q j u v w1 w2
          unfold uA at u
          unfold uCd at v
          by_cases a : q = 121
          · subst a; rw [n1 121 (by omega) (by omega), m2 j (by omega) (by omega)]
          · rw [n1 q (by omega) (by omega), m1 q a]
            by_cases b : q = 0
            · subst b; exact q0 j (by omega)
            · rw [q5 q b, g1 q (by omega) (by omega) (by omega)]
        have x0 : H 0 = G5 0 := by rw [n1 0 (by omega) (by omega), m1 0 (by omega)]
        have xc : ∀ q, 26 ≤ q → q ≤ 28 → H q = G q := fun q a b => by rw [n1 q (by omega) (by omega), m1 q (by omega), q5 q (by omega)]
        obtain ⟨d1, d2, d3, d4⟩ := h3
        refine ⟨P, p, np, ks, kc, len, s, IPan_tr (fun q j u => key q j (by unfold uPan at u; unfold uA; omega) (by unfold uPan at u; unfold uCd; omega) (by unfold uPan at u; omega) (by unfold uPan at u; omega)) (by omega) h1, IPl_tr (fun q j u => key q j (by unfold uPl at u; unfold uA; omega) (by unfold uPl at u; unfold uCd; omega) (by unfold uPl at u; omega) (by unfold uPl at u; omega)) h2, ⟨by omega, by rw [x0, e11], by rw [n1 121 (by omega) (by omega), m15], fun a ha => ?_⟩, ⟨⟨fun j hj => ?_, fun j hj => ?_, ?_⟩, fun j hj => ?_, fun j hj => ?_, by rw [n1 121 (by omega) (by omega), m7], k8, fun j j1 j2 => ?_⟩, Or.inr ⟨kc, ks, IKy_tr (nc := ks) (fun q j u => key q j (by unfold uKp at u; unfold uA; omega) (by unfold uKp at u; unfold uCd; omega) (by unfold uKp at u; omega) (by unfold uKp at u; omega)) (Nat.le_refl _) ⟨k1, k2, k3, k4, k5, k6, k7, k8, k9, Nat.le_refl _, k11, k12⟩⟩, IPg_tr (fun q j u => key q j (by unfold uPg at u; unfold uA; omega) (by unfold uPg at u; unfold uCd; omega) (by unfold uPg at u; omega) (by unfold uPg at u; omega)) h6, ISe_tr (fun q j u => key q j (by unfold uSe at u; unfold uA; omega) (by unfold uSe at u; unfold uCd; omega) (by unfold uSe at u; omega) (by unfold uSe at u; omega)) h7⟩
        · obtain ⟨b1, b2, b3⟩ := d4 a (by omega)
          have kk : ∀ q j, (49 ≤ q ∧ q ≤ 120 ∨ q = 132 ∨ q = 133) → H q j = F q j := fun q j u => key q j (by unfold uA; omega) (by unfold uCd; omega) (by omega) (by omega)
          exact ⟨fun k hk => by rw [kk _ k (by omega), kk 132 _ (by omega), b1 k hk], fun j hj => by rw [kk _ j (by omega), kk 133 _ (by omega), b2 j hj], by rw [kk _ 0 (by omega)]; exact b3⟩
        · rw [xc _ (by omega) (by omega), g2 j (by omega), k4.1 j hj]
        · rw [xc _ (by omega) (by omega), g3 j (by omega), k4.2.1 j hj]
        · rw [xc _ (by omega) (by omega), g4, k4.2.2]
        · rw [n2 j (by omega), m1 _ (by omega), qm _ (by omega), k5 j hj]
        · rw [n3 j (by omega), m1 _ (by omega), qm _ (by omega), k6 j hj]
        · rw [xc 28 (by omega) (by omega)]; show G (26 + 2) j = 0; rw [g3 j j2]; exact k9 j j1 j2
/-! warm -/
def hxN (f : Nat → Int32) : Nat → Int32
  | 0 => 0
  | c + 1 => if hxN f c < f c then f c else hxN f c
theorem hxN_cg {f g : Nat → Int32} : ∀ n, (∀ c, c < n → f c = g c) → hxN f n = hxN g n
  | 0, _ => rfl
  | n + 1, h => by
    show (if hxN f n < f n then f n else hxN f n) = (if hxN g n < g n then g n else hxN g n)
    rw [hxN_cg n (fun c q => h c (by omega)), h n (by omega)]
theorem T_warm {i : Nat} {x1 x2 : Int32} {F : gS} (hi : i < 2 ^ 20) (h : Inv i F) : wp_X11_warm x1 x2 F (fun r G => wp_X12_warm x1 x2 G (fun r' H => r = r' ∧ Inv (i + 1) H)) := by
  have hI := h
  obtain ⟨P, p, np, nc, c, len, s, h1, h2, h3, h4, h5, h6, h7⟩ := h
  unfold wp_X11_warm
  rcases pan_or hi h1 with ⟨z1, z2, z3, z4⟩ | ⟨z1, z2, z3, z4, z5, z6⟩
  · exact x_panN z3 (if_y rfl (if_y z4 ⟨rfl, Inv_s hI⟩))
  · refine x_panY z4 (if_n t10 ?_)
    by_cases w : wtB x1 0 9 = true
    · refine wx_y w (if_n t10 ?_)
      by_cases w2 : wtB x2 1 200 = true
      · refine wx_y w2 (if_n t10 ?_)
        obtain ⟨t, ht0, ht, rfl⟩ := wt_rng (a := 1) (b := 200) (by omega) (by omega) w2
        obtain ⟨f, -, hf, ef⟩ := wt_rng (a := 0) (b := 9) (by omega) (by omega) w
        have sf : sm 9 x1 := ⟨f, hf, ef⟩
        obtain ⟨c1, c2, c3, c4, c5, c6⟩ := h4
        obtain ⟨a1, a2, a3, a4, a5⟩ := h1.1
        obtain ⟨b1, b2, b3, b4⟩ := h1.2.1
        have hR := z1.1
        have hC := z1.2.1
        have hh : ∀ j, j < nn P → sm 81 (x1 * P.2.2.1 j) := fun j hj => mul_sm sf (z1.2.2.2.2 j hj)
        refine for3 (nn P) (fun k F' x3 => F' = upR F 27 (pt k (fun j => wN t (x1 * P.2.2.1 j) (c.1 j)) (F 27)) ∧ x3 = hxN (fun j => wN t (x1 * P.2.2.1 j) (c.1 j)) k) (by omega) (fun K k F' x3 hk hI hK => ?_) (fun K F' x3 hI => ?_) 0 F 0 (Nat.zero_le _) ⟨by rw [pt_0, upR_self], rfl⟩
        · obtain ⟨e, ex⟩ := hI
          have r9 : F' 9 = F 9 := by rw [e, upR_ne _ _ (by omega)]
          have r10 : F' 10 = F 10 := by rw [e, upR_ne _ _ (by omega)]
          have r27 : F' 27 k = c.1 k := by rw [e, upR_eq, pt_ge _ _ (Nat.le_refl k)]; exact c1.1 k hk
          have ci : (nI k).toNatClampNeg = k := nI_clamp (by omega)
          have i16 : vp_in (nI k) 16 := vp_in_nI (by omega) (by omega)
          unfold wb_X11_warm_39
          refine if_n (by rw [r9, a1]; exact nI_ge hk (by omega)) ⟨i16, ?_⟩
          rw [ci, r10, a4 k hk]
          refine s_heat (k0 := 26) (by omega) (by omega) (fun q => absurd q (by decide)) ⟨i16, ?_⟩
          have eg : (upF F' (26 + 1) k (wN t (x1 * P.2.2.1 k) (F' (26 + 1) k))) 27 k = wN t (x1 * P.2.2.1 k) (c.1 k) := by
            rw [upF_eq, pk_us]; show wN t _ (F' 27 k) = _; rw [r27]
          rw [eg]
          refine hK _ _ ⟨?_, ?_⟩
          · show upF F' 27 k (wN t (x1 * P.2.2.1 k) (F' 27 k)) = _
            rw [r27, e, upF_upR]
            exact congrArg (upR F 27) (pt_s k _ _ rfl)
          · rw [ex]; rfl
        · obtain ⟨e, ex⟩ := hI
          have r9 : F' 9 = F 9 := by rw [e, upR_ne _ _ (by omega)]
          unfold wb_X11_warm_39
          refine if_y (by rw [r9, a1]; exact nI_le (Nat.le_refl _) (by omega)) ?_
          rw [ex]
          have gq : ∀ q, q ≠ 27 → F' q = F q := fun q hq => by rw [e, upR_ne _ _ hq]
          have g27 : ∀ j, j < nn P → F' 27 j = wN t (x1 * P.2.2.1 j) (c.1 j) := fun j hj => by rw [e, upR_eq, pt_lt _ _ hj]
          clear e ex r9
          unfold wp_X12_warm
          refine if_n (by rw [gq _ (by omega)]; exact z5) (wm_y w (if_n t10 (wm_y w2 (if_n t10 ?_))))
          refine m_loadPan (fun G g1 g2 g3 g4 g5 => ?_)
          refine for2 16 (fun k F2 => F2 = upR G 143 (pt k (fun _ => 0) (G 143))) (by omega) (fun K k F2 hk e hK => ?_) (fun K F2 e => ?_) 0 G (Nat.zero_le _) (by rw [pt_0, upR_self])
          · unfold wb_X12_warm_40
            refine if_n (nI_ge (b := 16) hk (by omega)) ⟨vp_in_nI hk (by omega), hK _ ?_⟩
            rw [nI_clamp (by omega), e, upF_upR]
            exact congrArg (upR G 143) (pt_s k _ _ rfl)
          · unfold wb_X12_warm_40
            refine if_y (nI_le (a := 16) (Nat.le_refl _) (by omega)) ?_
            have y1 : ∀ q, q ≠ 143 → F2 q = G q := fun q hq => by rw [e, upR_ne _ _ hq]
            have y2 : ∀ j, j < 16 → F2 143 j = 0 := fun j hj => by rw [e, upR_eq, pt_lt _ _ hj]
            clear e
            refine for2 t (fun k F3 => (∀ q, q ≠ 121 → q ≠ 140 → q ≠ 141 → q ≠ 143 → q ≠ 146 → F3 q = F' q) ∧ F3 121 = G 121 ∧ F3 141 = G 141 ∧ (∀ j, j < nn P → F3 143 j = 0) ∧ (∀ j, j < nn P → F3 140 j = wN k (x1 * P.2.2.1 j) (c.1 j))) (by omega) (fun K k F3 hk hI hK => ?_) (fun K F3 hI => ?_) 0 F2 (Nat.zero_le _) ⟨fun q n1 n2 n3 n4 n5 => by rw [y1 q n4, g1 q n1 n2 n3], y1 121 (by omega), y1 141 (by omega), fun j hj => y2 j (by omega), fun j hj => by rw [y1 140 (by omega), g4 j (by omega), gq 124 (by omega), c2 j hj]; rfl⟩
            · obtain ⟨n1, n2, n3, n4, n5⟩ := hI
              have f0 : F3 121 0 = nI P.1 := by rw [n2, g2 0 (by omega), gq _ (by omega), b1]
              have f1 : F3 121 1 = nI P.2.1 := by rw [n2, g2 1 (by omega), gq _ (by omega), b2]
              have f122 : ∀ j, j < nn P → F3 122 j = P.2.2.1 j := fun j hj => by rw [n1 122 (by omega) (by omega) (by omega) (by omega) (by omega), gq _ (by omega), b3 j hj]
              have tkj : ∀ j, j < nn P → tk (x1 * F3 122 j) (F3 140 j) = wN (k + 1) (x1 * P.2.2.1 j) (c.1 j) := fun j hj => by rw [f122 j hj, n5 j hj, wN_s]
              unfold wb_X12_warm_61
              refine if_n (nI_ge hk (by omega)) ?_
              refine m_goTick (R := P.1) (C := P.2.1) (sd := 0) hR hC f0 f1 (by omega) (fun j hj => by rw [n4 j hj]; exact ⟨0, by omega, rfl⟩) (fun j hj => by rw [tkj j hj]; exact wN_sm (hh j hj) _ _ (c5.1 j hj).1) (fun H k1 k2 k3 k4 => ?_)
              refine hK _ ⟨fun q o1 o2 o3 o4 o5 => by rw [k1 q o2 o5, n1 q o1 o2 o3 o4 o5], by rw [k1 121 (by omega) (by omega), n2], by rw [k1 141 (by omega) (by omega), n3], fun j hj => by rw [k1 143 (by omega) (by omega), n4 j hj], fun j hj => by rw [k2 j hj, tkj j hj]⟩
            · obtain ⟨n1, n2, n3, n4, n5⟩ := hI
              unfold wb_X12_warm_61
              refine if_y (nI_le (Nat.le_refl _) (by omega)) ?_
              refine m_putPan (fun H k1 k2 k3 k4 k5 => ?_)
              have key : ∀ q j, q ≠ 27 → q ≠ 124 → q ≠ 125 → (q < 121 ∨ (121 < q ∧ q ≤ 136) ∨ (q = 121 ∧ j ≠ 7 ∧ j ≠ 43)) → H q j = F q j := by
                intro q j o1 o2 o3 o4
                by_cases a : q = 121
                · subst a; rw [k2 j (by omega), n2, g2 j (by omega), gq _ (by omega)]
                · rw [k1 q a o2 o3, n1 q a (by omega) (by omega) (by omega) (by omega), gq q o1]
              have h124 : ∀ j, j < nn P → H 124 j = wN t (x1 * P.2.2.1 j) (c.1 j) := fun j hj => by rw [k4 j (by omega), n5 j hj]
              have ecell : H 121 0 * H 121 1 = nI (nn P) := by rw [key _ _ (by omega) (by omega) (by omega) (by omega), key _ _ (by omega) (by omega) (by omega) (by omega), b1, b2, pk_mul]; rfl
              refine for2 (nn P) (fun k x => x = hxN (fun j => wN t (x1 * P.2.2.1 j) (c.1 j)) k) (by omega) (fun K k x hk ex hK => ?_) (fun K x ex => ?_) 0 0 (Nat.zero_le _) rfl
              · unfold wb_X12_warm_87 wp_X12_cells
                have i16 : vp_in (nI k) 16 := vp_in_nI (by omega) (by omega)
                rw [ecell]
                refine if_n (nI_ge hk (by omega)) ⟨i16, ?_⟩
                rw [nI_clamp (by omega), h124 k hk, ex]
                refine if_c (fun z => hK _ ?_) (fun z => ⟨i16, hK _ ?_⟩)
                · show _ = if hxN _ k < wN t (x1 * P.2.2.1 k) (c.1 k) then _ else _; rw [if_neg (Int32.not_lt.mpr z)]
                · show _ = if hxN _ k < wN t (x1 * P.2.2.1 k) (c.1 k) then _ else _; rw [if_pos (Int32.not_le.mp z)]
              · unfold wb_X12_warm_87 wp_X12_cells
                rw [ecell]
                refine if_y (nI_le (Nat.le_refl _) (by omega)) ⟨by rw [ex], ?_⟩
                refine ⟨P, p, np, nc, ((fun j => wN t (x1 * P.2.2.1 j) (c.1 j)), c.2.1, c.2.2), len, s, IPan_tr (fun q j u => key q j (by unfold uPan at u; omega) (by unfold uPan at u; omega) (by unfold uPan at u; omega) (by unfold uPan at u; omega)) (by omega) h1, IPl_tr (fun q j u => key q j (by unfold uPl at u; omega) (by unfold uPl at u; omega) (by unfold uPl at u; omega) (by unfold uPl at u; omega)) h2, ICk_tr (fun q j u => key q j (by unfold uCk at u; omega) (by unfold uCk at u; omega) (by unfold uCk at u; omega) (by unfold uCk at u; omega)) h3, ⟨⟨fun j hj => ?_, fun j hj => ?_, ?_⟩, h124, fun j hj => ?_, ?_, ⟨fun j hj => ⟨wN_sm (hh j hj) _ _ (c5.1 j hj).1, (c5.1 j hj).2⟩, c5.2⟩, fun j j1 j2 => ?_⟩, IKp_tr (fun q j u => key q j (by unfold uKp at u; omega) (by unfold uKp at u; omega) (by unfold uKp at u; omega) (by unfold uKp at u; omega)) (Nat.le_refl _) h5, IPg_tr (fun q j u => key q j (by unfold uPg at u; omega) (by unfold uPg at u; omega) (by unfold uPg at u; omega) (by unfold uPg at u; omega)) h6, ISe_tr (fun q j u => key q j (by unfold uSe at u; omega) (by unfold uSe at u; omega) (by unfold uSe at u; omega) (by unfold uSe at u; omega)) h7⟩
                · rw [k1 27 (by omega) (by omega) (by omega), n1 27 (by omega) (by omega) (by omega) (by omega) (by omega), g27 j hj]
                · rw [key _ _ (by omega) (by omega) (by omega) (by omega), c1.2.1 j hj]
                · rw [key _ _ (by omega) (by omega) (by omega) (by omega), c1.2.2]
                · rw [k5 j (by omega), n3, g5 j (by omega), gq _ (by omega), c3 j hj]
                · rw [k3, n2, g3, gq _ (by omega), c4]
                · rw [key _ _ (by omega) (by omega) (by omega) (by omega), c6 j j1 j2]
      · refine wx_n w2 (if_y rfl ?_)
        unfold wp_X12_warm
        exact if_n z5 (wm_y w (if_n t10 (wm_n w2 (if_y rfl ⟨rfl, Inv_s hI⟩))))
    · refine wx_n w (if_y rfl ?_)
      unfold wp_X12_warm
      exact if_n z5 (wm_n w (if_y rfl ⟨rfl, Inv_s hI⟩))
