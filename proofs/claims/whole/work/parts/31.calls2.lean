/-! rows of sixteen: filled, copied -/
theorem cpy_pt (f g : Nat → Int32) (n : Nat) : va_cpy f g 0 0 n = pt n f g := by
  funext k
  unfold va_cpy pt
  by_cases h : k < n
  · rw [if_pos (by omega), if_pos h]; congr 1; omega
  · rw [if_neg (by omega), if_neg h]
theorem s_fill16 {k : Nat} {v : Int32} {F : gS} {Q : gS → Prop} (h : Q (upR F k (pt 16 (fun _ => v) (F k)))) : wp_J7_fill_53178_16 k v F Q := by
  unfold wp_J7_fill_53178_16
  refine for2 16 (fun c F' => F' = upR F k (pt c (fun _ => v) (F k))) (by omega) (fun K c F' hc e hK => ?_) (fun K F' e => ?_) 0 F (Nat.zero_le _) (by rw [pt_0, upR_self])
  · unfold wb_J7_fill_53178_16_5
    refine if_n (nI_ge (b := 16) hc (by omega)) ⟨vp_in_nI hc (by omega), hK _ ?_⟩
    rw [nI_clamp (by omega), e, upF_upR]
    exact congrArg (upR F k) (pt_s c _ _ rfl)
  · unfold wb_J7_fill_53178_16_5
    refine if_y (nI_le (a := 16) (Nat.le_refl _) (by omega)) ?_
    rw [e]; exact h
theorem s_become {k0 k1 : Nat} {F : gS} {Q : gS → Prop} (a0 : k0 = 15 ∨ k0 = 18 ∨ k0 = 26 ∨ k0 = 29) (a1 : k1 = 15 ∨ k1 = 18 ∨ k1 = 26 ∨ k1 = 29) (a2 : k0 ≠ k1)
    (h : ∀ G, (∀ q, q ≠ k0 → q ≠ k0 + 1 → q ≠ k0 + 2 → G q = F q) → (∀ j, j < 16 → G (k0 + 1) j = F (k1 + 1) j) → (∀ j, j < 16 → G (k0 + 2) j = F (k1 + 2) j) → G k0 2 = F k1 2 → Q G) : wp_X1_become k0 k1 F Q := by
  unfold wp_X1_become wp_X1_takeWarmth
  dsimp only [Nm]
  rw [cpy_pt, cpy_pt]
  refine h _ (fun q h1 h2 h3 => ?_) (fun j hj => ?_) (fun j hj => ?_) ?_
  · rw [upF_ne _ _ _ h1, upR_ne _ _ h3, upR_ne _ _ h2]
  · rw [upF_ne _ _ _ (by omega), upR_ne _ _ (by omega), upR_eq, pt_lt _ _ hj]
  · rw [upF_ne _ _ _ (by omega), upR_eq, pt_lt _ _ hj, upR_ne _ _ (by omega)]
  · rw [upF_eq, pk_us, upR_ne _ _ (by omega), upR_ne _ _ (by omega)]
theorem become_ag {F G : gS} {k0 k1 : Nat} {P : Pn} {c : Cd} (hn : nn P ≤ 16) (g1 : ∀ j, j < 16 → G (k0 + 1) j = F (k1 + 1) j) (g2 : ∀ j, j < 16 → G (k0 + 2) j = F (k1 + 2) j) (g3 : G k0 2 = F k1 2) (h : AgC F k1 P c) : AgC G k0 P c :=
  ⟨fun j hj => by rw [g1 j (by omega), h.1 j hj], fun j hj => by rw [g2 j (by omega), h.2.1 j hj], by rw [g3, h.2.2]⟩
/-- two rows copied, the other side -/
theorem cp2 {F : gS} {a b f g : Nat} {B : (gS → Int32 → Prop) → gS → Int32 → Prop} (n1 : a ≠ b) (n2 : a ≠ f) (n3 : a ≠ g) (n4 : b ≠ f) (n5 : b ≠ g)
    (hs : ∀ (K : gS → Int32 → Prop) (c : Nat) (F' : gS), c < 16 → K (upF (upF F' a c (F' f c)) b c ((upF F' a c (F' f c)) g c)) (nI c + 1) → B K F' (nI c))
    (he : ∀ (K : gS → Int32 → Prop) (G : gS), (∀ q, q ≠ a → q ≠ b → G q = F q) → (∀ j, j < 16 → G a j = F f j) → (∀ j, j < 16 → G b j = F g j) → B K G (nI 16)) : LP2 B F 0 := by
  refine for2 16 (fun c F' => F' = upR (upR F a (pt c (F f) (F a))) b (pt c (F g) (F b))) (by omega) (fun K c F' hc e hK => ?_) (fun K F' e => ?_) 0 F (Nat.zero_le _) (by rw [pt_0, pt_0, upR_self, upR_self])
  · refine hs K c F' hc (hK _ ?_)
    have e1 : F' f = F f := by rw [e, upR_ne _ _ (Ne.symm n4), upR_ne _ _ (Ne.symm n2)]
    have e2 : F' g = F g := by rw [e, upR_ne _ _ (Ne.symm n5), upR_ne _ _ (Ne.symm n3)]
    rw [upF_ne _ _ _ (Ne.symm n3), e1, e2, e, upF_upR2 _ n1, upF_upR, pt_s c _ _ rfl, pt_s c _ _ rfl]
  · refine he K F' (fun q h1 h2 => ?_) (fun j hj => ?_) (fun j hj => ?_)
    · rw [e, upR_ne _ _ h2, upR_ne _ _ h1]
    · rw [e, upR_ne _ _ n1, upR_eq, pt_lt _ _ hj]
    · rw [e, upR_eq, pt_lt _ _ hj]
theorem m_loadPan {F : gS} {Q : gS → Prop} (h : ∀ G, (∀ q, q ≠ 121 → q ≠ 140 → q ≠ 141 → G q = F q) → (∀ j, j ≠ 43 → G 121 j = F 121 j) → G 121 43 = F 121 7 → (∀ j, j < 16 → G 140 j = F 124 j) → (∀ j, j < 16 → G 141 j = F 125 j) → Q G) : wp_X12_loadPan F Q := by
  unfold wp_X12_loadPan
  refine cp2 (F := F) (a := 140) (b := 141) (f := 124) (g := 125) (by omega) (by omega) (by omega) (by omega) (by omega) (fun K c F' hc hK => ?_) (fun K G g1 g2 g3 => ?_)
  · have i16 : vp_in (nI c) 16 := vp_in_nI hc (by omega)
    unfold wb_X12_loadPan_2
    refine if_n (nI_ge (b := 16) hc (by omega)) ⟨i16, i16, i16, i16, ?_⟩
    rw [nI_clamp (by omega)]
    exact hK
  · unfold wb_X12_loadPan_2
    refine if_y (nI_le (a := 16) (Nat.le_refl _) (by omega)) (h _ (fun q h1 h2 h3 => ?_) (fun j hj => ?_) ?_ (fun j hj => ?_) (fun j hj => ?_))
    · rw [upF_ne _ _ _ h1, g1 q h2 h3]
    · rw [upF_eq, pk_un hj, g1 121 (by omega) (by omega)]
    · rw [upF_eq, pk_us, g1 121 (by omega) (by omega)]
    · rw [upF_ne _ _ _ (by omega), g2 j hj]
    · rw [upF_ne _ _ _ (by omega), g3 j hj]
theorem m_putPan {F : gS} {Q : gS → Prop} (h : ∀ G, (∀ q, q ≠ 121 → q ≠ 124 → q ≠ 125 → G q = F q) → (∀ j, j ≠ 7 → G 121 j = F 121 j) → G 121 7 = F 121 43 → (∀ j, j < 16 → G 124 j = F 140 j) → (∀ j, j < 16 → G 125 j = F 141 j) → Q G) : wp_X12_putPan F Q := by
  unfold wp_X12_putPan
  refine cp2 (F := F) (a := 124) (b := 125) (f := 140) (g := 141) (by omega) (by omega) (by omega) (by omega) (by omega) (fun K c F' hc hK => ?_) (fun K G g1 g2 g3 => ?_)
  · have i16 : vp_in (nI c) 16 := vp_in_nI hc (by omega)
    unfold wb_X12_putPan_2
    refine if_n (nI_ge (b := 16) hc (by omega)) ⟨i16, i16, i16, i16, ?_⟩
    rw [nI_clamp (by omega)]
    exact hK
  · unfold wb_X12_putPan_2
    refine if_y (nI_le (a := 16) (Nat.le_refl _) (by omega)) (h _ (fun q h1 h2 h3 => ?_) (fun j hj => ?_) ?_ (fun j hj => ?_) (fun j hj => ?_))
    · rw [upF_ne _ _ _ h1, g1 q h2 h3]
    · rw [upF_eq, pk_un hj, g1 121 (by omega) (by omega)]
    · rw [upF_eq, pk_us, g1 121 (by omega) (by omega)]
    · rw [upF_ne _ _ _ (by omega), g2 j hj]
    · rw [upF_ne _ _ _ (by omega), g3 j hj]
theorem m_loadPlan {j : Nat} {L : Pl} {F : gS} {Q : gS → Prop} (hj : j < 6) (hns : L.2.2.2.2.1 ≤ 6) (hM : MpL F j L)
    (h : ∀ G, (∀ q, q ≠ 121 → q ≠ 142 → G q = F q) → (∀ k, (k < 44 ∨ 48 < k) → G 121 k = F 121 k) → MgL G L → Q G) : wp_X12_loadPlan (nI j) F Q := by
  obtain ⟨m1, m2, m3, m4, m5, m6⟩ := hM
  have ij : vp_in (nI j) 6 := vp_in_nI hj (by omega)
  unfold wp_X12_loadPlan
  rw [nI_clamp (by omega)]
  have ne : ∀ (F : gS) (k : Nat) (v : Int32) (q : Nat), q ≠ 121 → (upF F 121 k v) q = F q := fun F k v q hq => upF_ne _ _ _ hq
  refine ⟨ij, ij, ij, ij, ij, ?_⟩
  dsimp only [Nm]
  rw [ne _ _ _ 127 (by omega), ne _ _ _ 128 (by omega), ne _ _ _ 128 (by omega), ne _ _ _ 129 (by omega), ne _ _ _ 129 (by omega), ne _ _ _ 129 (by omega), ne _ _ _ 130 (by omega), ne _ _ _ 130 (by omega), ne _ _ _ 130 (by omega), ne _ _ _ 130 (by omega), m1, m2, m3, m4, m5]
  generalize hF5 : upF (upF (upF (upF (upF F 121 44 L.1) 121 45 L.2.1) 121 46 (nI L.2.2.1)) 121 47 (nI L.2.2.2.1)) 121 48 (nI L.2.2.2.2.1) = F5
  have f1 : ∀ q, q ≠ 121 → F5 q = F q := fun q hq => by rw [← hF5, ne _ _ _ q hq, ne _ _ _ q hq, ne _ _ _ q hq, ne _ _ _ q hq, ne _ _ _ q hq]
  have f2 : ∀ k, (k < 44 ∨ 48 < k) → F5 121 k = F 121 k := fun k hk => by rw [← hF5, upF_eq, pk_un (by omega), upF_eq, pk_un (by omega), upF_eq, pk_un (by omega), upF_eq, pk_un (by omega), upF_eq, pk_un (by omega)]
  have f44 : F5 121 44 = L.1 := by rw [← hF5, upF_eq, pk_un (by omega), upF_eq, pk_un (by omega), upF_eq, pk_un (by omega), upF_eq, pk_un (by omega), upF_eq, pk_us]
  have f45 : F5 121 45 = L.2.1 := by rw [← hF5, upF_eq, pk_un (by omega), upF_eq, pk_un (by omega), upF_eq, pk_un (by omega), upF_eq, pk_us]
  have f46 : F5 121 46 = nI L.2.2.1 := by rw [← hF5, upF_eq, pk_un (by omega), upF_eq, pk_un (by omega), upF_eq, pk_us]
  have f47 : F5 121 47 = nI L.2.2.2.1 := by rw [← hF5, upF_eq, pk_un (by omega), upF_eq, pk_us]
  have f48 : F5 121 48 = nI L.2.2.2.2.1 := by rw [← hF5, upF_eq, pk_us]
  clear hF5
  refine for2 L.2.2.2.2.1 (fun i F' => F' = upR F5 142 (pt i (fun i => F5 131 (6 * j + i)) (F5 142))) (by omega) (fun K i F' hi e hK => ?_) (fun K F' e => ?_) 0 F5 (Nat.zero_le _) (by rw [pt_0, upR_self])
  · have e121 : F' 121 = F5 121 := by rw [e, upR_ne _ _ (by omega)]
    have e131 : F' 131 = F5 131 := by rw [e, upR_ne _ _ (by omega)]
    have e6 : 6 * nI j + nI i = nI (6 * j + i) := by
      have z1 : 6 * nI j = nI (6 * j) := pk_mul 6 j
      rw [z1, nI_add]
    unfold wb_X12_loadPlan_52
    refine if_n (by rw [e121, f48]; exact nI_ge hi (by omega)) ?_
    rw [e6, nI_clamp (by omega), nI_clamp (by omega), e131]
    refine ⟨vp_in_nI (by omega) (by omega), vp_in_nI (by omega) (by omega), hK _ ?_⟩
    rw [e, upF_upR]
    exact congrArg (upR F5 142) (pt_s i _ _ rfl)
  · have e121 : F' 121 = F5 121 := by rw [e, upR_ne _ _ (by omega)]
    unfold wb_X12_loadPlan_52
    refine if_y (by rw [e121, f48]; exact nI_le (Nat.le_refl _) (by omega)) (h _ (fun q h1 h2 => ?_) (fun k hk => ?_) ⟨?_, ?_, ?_, ?_, ?_, fun i hi => ?_⟩)
    · rw [e, upR_ne _ _ h2, f1 q h1]
    · rw [e121, f2 k hk]
    · rw [e121, f44]
    · rw [e121, f45]
    · rw [e121, f46]
    · rw [e121, f47]
    · rw [e121, f48]
    · rw [e, upR_eq, pt_lt _ _ hi, f1 131 (by omega), m6 i hi]
/-! the next one, laid on a pan as it would be -/
theorem s_next {k1 k2 : Nat} {P : Pn} {L : Pl} {c : Cd} {F : gS} {Q : gS → Prop} (hP : okP P) (hL : okL L) (hc : okC P c) (a1 : k1 = 18 ∨ k1 = 26) (a2 : k2 = 24 ∨ (37 ≤ k2 ∧ k2 < 48)) (gP : AgP F P) (gL : AgL F k2 L) (gC : AgC F k1 P c)
    (h : ∀ G, (∀ q, q ≠ 12 → q ≠ 13 → q ≠ 15 → q ≠ 16 → q ≠ 17 → q ≠ 22 → q ≠ 23 → G q = F q) → AgC G 15 P (bk P L c) → (∀ j, j < 7 → G 23 j = bkD P L c j) → Q G) : wp_X2_next k1 k2 F Q := by
  have h16 : nn P ≤ 16 := RC16 hP.1 hP.2.1
  unfold wp_X2_next
  refine s_become (by omega) (by omega) (by omega) (fun G g1 g2 g3 g4 => ?_)
  refine s_bake hP hL hc ⟨by omega, a2, by omega⟩ (AgP_tr (fun q j u => by rw [g1 q (by omega) (by omega) (by omega)]) gP) (AgL_tr (fun q j u => by rw [g1 q (by omega) (by omega) (by omega)]) gL) (become_ag h16 g2 g3 g4 gC) (fun H h1 h2 h3 h4 h5 => ?_)
  exact h H (fun q x1 x2 x3 x4 x5 x6 x7 => by rw [h1 q x1 x2 x3 x4 x5 x6 x7, g1 q x3 x4 x5]) h2 h4
theorem m_layNext {j : Nat} {P : Pn} {L : Pl} {c : Cd} {F : gS} {Q : gS → Prop} (hP : okP P) (hL : okL L) (hc : okC P c) (hj : j < 6) (gP : MgP F P) (gL : MpL F j L) (c1 : ∀ j, j < nn P → F 124 j = c.1 j) (c2 : ∀ j, j < nn P → F 125 j = c.2.1 j) (c3 : F 121 7 = c.2.2)
    (h : ∀ G, (∀ q, q ≠ 121 → q < 140 → G q = F q) → (∀ k, (k < 43 ∨ 60 < k) → G 121 k = F 121 k) → MgC G P (bk P L c) → (∀ j, j < nn P → G 143 j = bkT P L c j) → (∀ j, j < 7 → G 121 (54 + j) = bkD P L c j) → Q G) : wp_X12_layNext (nI j) F Q := by
  have h16 : nn P ≤ 16 := RC16 hP.1 hP.2.1
  unfold wp_X12_layNext
  refine m_loadPan (fun G g1 g2 g3 g4 g5 => ?_)
  refine m_loadPlan (L := L) hj hL.2.2.2.2 ?_ (fun H h1 h2 h3 => ?_)
  · obtain ⟨m1, m2, m3, m4, m5, m6⟩ := gL
    have e : ∀ q, 126 ≤ q → q ≤ 131 → G q = F q := fun q x y => g1 q (by omega) (by omega) (by omega)
    exact ⟨by rw [e 126 (by omega) (by omega), m1], by rw [e 127 (by omega) (by omega), m2], by rw [e 128 (by omega) (by omega), m3], by rw [e 129 (by omega) (by omega), m4], by rw [e 130 (by omega) (by omega), m5], fun i hi => by rw [e 131 (by omega) (by omega), m6 i hi]⟩
  refine m_goCake hP hL hc (MgP_tr (fun q k u => ?_) gP) h3 ⟨fun k hk => ?_, fun k hk => ?_, ?_⟩ (fun H2 x1 x2 x3 x4 x5 => ?_)
  · by_cases z : q = 121
    · subst z; rw [h2 k (by omega), g2 k (by omega)]
    · rw [h1 q z (by omega), g1 q z (by omega) (by omega)]
  · rw [h1 140 (by omega) (by omega), g4 k (by omega), c1 k hk]
  · rw [h1 141 (by omega) (by omega), g5 k (by omega), c2 k hk]
  · rw [h2 43 (by omega), g3, c3]
  · refine h H2 (fun q y1 y2 => ?_) (fun k hk => ?_) x3 x4 x5
    · rw [x1 q y1 (by omega) (by omega) (by omega) (by omega) (by omega) (by omega), h1 q y1 (by omega), g1 q y1 (by omega) (by omega)]
    · rw [x2 k (by omega) (by omega), h2 k (by omega), g2 k (by omega)]
theorem m_bars {F : gS} {x : Int32} {Q : Int32 → Prop} (h : ¬ wtB x 0 (F 121 8 - 1) = true) (q : Q (-101)) : wp_X12_bars x F Q := by
  unfold wp_X12_bars wp_X12_isPlan; exact wm_n h (if_y rfl q)
theorem m_barsS {F : gS} {x : Int32} {Q : Int32 → Prop} (h : wtB x 0 (F 121 8 - 1) = true) (z : F 121 2 = 0) (q : Q (-103)) : wp_X12_bars x F Q := by
  unfold wp_X12_bars wp_X12_isPlan; exact wm_y h (if_n t10 (if_y z q))
theorem m_barsY {F : gS} {x : Int32} {Q : Int32 → Prop} (h : wtB x 0 (F 121 8 - 1) = true) (z : ¬ F 121 2 = 0) (q : Q 0) : wp_X12_bars x F Q := by
  unfold wp_X12_bars wp_X12_isPlan; exact wm_y h (if_n t10 (if_n z q))
theorem m_triedNow {j : Nat} {F : gS} {Q : Int32 → Prop} (hj : j < 7) (h : Q (F 121 (54 + j))) : wp_X12_triedNow (nI j) F Q := by
  unfold wp_X12_triedNow
  rcases (by omega : j = 0 ∨ j = 1 ∨ j = 2 ∨ j = 3 ∨ j = 4 ∨ j = 5 ∨ j = 6) with rfl | rfl | rfl | rfl | rfl | rfl | rfl
  · exact if_y (by decide) h
  · exact if_n (by decide) (if_y (by decide) h)
  · exact if_n (by decide) (if_n (by decide) (if_y (by decide) h))
  · exact if_n (by decide) (if_n (by decide) (if_n (by decide) (if_y (by decide) h)))
  · exact if_n (by decide) (if_n (by decide) (if_n (by decide) (if_n (by decide) (if_y (by decide) h))))
  · exact if_n (by decide) (if_n (by decide) (if_n (by decide) (if_n (by decide) (if_n (by decide) (if_y (by decide) h)))))
  · exact if_n (by decide) (if_n (by decide) (if_n (by decide) (if_n (by decide) (if_n (by decide) (if_n (by decide) h)))))
theorem T_tried {i : Nat} {x1 x2 : Int32} {F : gS} (hi : i < 2 ^ 20) (h : Inv i F) : wp_X11_tried x1 x2 F (fun r G => wp_X12_tried x1 x2 G (fun r' H => r = r' ∧ Inv (i + 1) H)) := by
  have hI := h
  obtain ⟨P, p, np, nc, c, len, s, h1, h2, h3, h4, h5, h6, h7⟩ := h
  unfold wp_X11_tried wp_X11_isPlan
  rcases isPlanB h2 x1 with ⟨n1, n2⟩ | ⟨y1, y2, j, hj, rfl⟩
  · exact wx_n n1 (if_y rfl (m_bars n2 (if_n (by decide) ⟨rfl, Inv_s hI⟩)))
  · refine wx_y y1 (if_n t10 ?_)
    rcases pan_or hi h1 with ⟨z1, z2, z3, z4⟩ | ⟨z1, z2, z3, z4, z5, z6⟩
    · exact x_panN z3 (if_y rfl (m_barsS y2 z4 (if_n (by decide) ⟨rfl, Inv_s hI⟩)))
    · refine x_panY z4 (if_n t10 ?_)
      by_cases w : wtB x2 0 6 = true
      · obtain ⟨a, -, ha, rfl⟩ := wt_rng (a := 0) (b := 6) (by omega) (by omega) w
        have hnp := h2.1
        refine wx_y w (if_n t10 ⟨vp_in_nI (by omega) (by omega), ?_⟩)
        obtain ⟨L, ok, gL, mL⟩ := h2.2.2.2 j hj
        obtain ⟨c1, c2, c3, c4, c5, c6⟩ := h4
        rw [nI_clamp (by omega)]
        refine s_next z1 ok c5 (by omega) (by omega) h1.1 gL c1 (fun G g1 g2 g3 => ⟨i7 a (by omega), ?_⟩)
        rw [nI_clamp (by omega), g3 a (by omega)]
        have gq : ∀ q, (q < 12 ∨ 23 < q) → G q = F q := fun q u => g1 q (by omega) (by omega) (by omega) (by omega) (by omega) (by omega) (by omega)
        unfold wp_X12_tried
        refine m_barsY (by rw [gq 121 (by omega)]; exact y2) (by rw [gq 121 (by omega)]; exact z5) (if_y rfl (wm_y w (if_n t10 ?_)))
        have eqG : ∀ q k, 121 ≤ q → G q k = F q k := fun q k u => by rw [gq q (by omega)]
        refine m_layNext (j := j) (P := P) (L := L) (c := c) z1 ok c5 (by omega) (MgP_tr (fun q k u => eqG q k (by omega)) h1.2.1) ?_ (fun k hk => by rw [eqG _ _ (by omega), c2 k hk]) (fun k hk => by rw [eqG _ _ (by omega), c3 k hk]) (by rw [eqG _ _ (by omega), c4]) (fun H k1 k2 k3 k4 k5 => ?_)
        · obtain ⟨m1, m2, m3, m4, m5, m6⟩ := mL
          exact ⟨by rw [eqG _ _ (by omega), m1], by rw [eqG _ _ (by omega), m2], by rw [eqG _ _ (by omega), m3], by rw [eqG _ _ (by omega), m4], by rw [eqG _ _ (by omega), m5], fun i hi => by rw [eqG _ _ (by omega), m6 i hi]⟩
        · refine m_triedNow (by omega) ⟨by rw [k5 a (by omega)], Inv_tr (fun q k u => ?_) (by omega) hI⟩
          unfold uA at u
          by_cases z : q = 121
          · subst z; rw [k2 k (by omega), gq _ (by omega)]
          · rw [k1 q z (by omega), gq q (by omega)]
      · refine wx_n w (if_y rfl ?_)
        unfold wp_X12_tried
        exact m_barsY y2 z5 (if_y rfl (wm_n w (if_y rfl ⟨rfl, Inv_s hI⟩)))
