/-! fry -/
def seg (s n : Nat) (g f : Nat → Int32) : Nat → Int32 := fun j => if s ≤ j ∧ j < s + n then g (j - s) else f j
theorem seg_0 (s : Nat) (g f : Nat → Int32) : seg s 0 g f = f := by funext j; unfold seg; rw [if_neg (by omega)]
theorem seg_s {s c : Nat} {g f : Nat → Int32} {v : Int32} (hv : v = g c) : upd (seg s c g f) (s + c) v = seg s (c + 1) g f := by
  subst hv
  funext j
  unfold upd seg
  by_cases q : j = s + c
  · subst q
    have e : s + c - s = c := by omega
    rw [if_pos rfl, if_pos (by omega), e]
  · rw [if_neg q]
    by_cases z : s ≤ j ∧ j < s + c
    · rw [if_pos z, if_pos (by omega)]
    · rw [if_neg z, if_neg (by omega)]
theorem seg_in {s n k : Nat} {g f : Nat → Int32} (h : k < n) : seg s n g f (s + k) = g k := by
  unfold seg
  have e : s + k - s = k := by omega
  rw [if_pos (by omega), e]
theorem seg_lt {s n j : Nat} {g f : Nat → Int32} (h : j < s) : seg s n g f j = f j := by unfold seg; rw [if_neg (by omega)]
theorem T_fry {i : Nat} {x1 : Int32} {F : gS} (hi : i < 2 ^ 20) (h : Inv i F) : wp_X11_fry x1 F (fun r G => wp_X12_fry x1 G (fun r' H => r = r' ∧ Inv (i + 1) H)) := by
  have hI := h
  obtain ⟨P, p, np, nc, c, len, s, h1, h2, h3, h4, h5, h6, h7⟩ := h
  unfold wp_X11_fry wp_X11_isPlan
  rcases isPlanB h2 x1 with ⟨n1, n2⟩ | ⟨y1, y2, j, hj, rfl⟩
  · exact wx_n n1 (if_y rfl (m_bars n2 (if_n (by decide) ⟨rfl, Inv_s hI⟩)))
  refine wx_y y1 (if_n t10 ?_)
  rcases pan_or hi h1 with ⟨z1, z2, z3, z4⟩ | ⟨z1, z2, z3, z4, z5, z6⟩
  · exact x_panN z3 (if_y rfl (m_barsS y2 z4 (if_n (by decide) ⟨rfl, Inv_s hI⟩)))
  refine x_panY z4 (if_n t10 ?_)
  have hnp := h2.1
  obtain ⟨d1, d2, d3, d4⟩ := h3
  rw [d2]
  by_cases w : nc < 24
  · refine if_y (nI_lt (b := 24) w (by omega)) ⟨vp_in_nI w (by omega), vp_in_nI (by omega) (by omega), ?_⟩
    obtain ⟨L, ok, gL, mL⟩ := h2.2.2.2 j hj
    obtain ⟨c1, c2, c3, c4, c5, c6⟩ := h4
    rw [nI_clamp (by omega), nI_clamp (by omega), t0c]
    refine s_bake z1 ok c5 ⟨by omega, by omega, by omega⟩ h1.1 gL c1 (fun G g1 g2 g3 g4 g5 => ?_)
    have g0 : G 0 = F 0 := g1 0 (by omega) (by omega) (by omega) (by omega) (by omega) (by omega) (by omega)
    refine ⟨i7 0 (by omega), ?_⟩
    rw [g0, d2, nI_1]
    have ek : (upF G 0 11 (nI (nc + 1))) (49 + 3 * nc + 2) 0 = bkD P L c 0 := by rw [upF_ne _ _ _ (by omega), g4 0 (by omega)]
    rw [ek]
    generalize hG5 : upF G 0 11 (nI (nc + 1)) = G5
    have q5 : ∀ q, q ≠ 0 → G5 q = G q := fun q hq => by rw [← hG5, upF_ne _ _ _ hq]
    have q0 : ∀ j, j ≠ 11 → G5 0 j = F 0 j := fun j a => by rw [← hG5, upF_eq, pk_un a, g0]
    have q11 : G5 0 11 = nI (nc + 1) := by rw [← hG5, upF_eq, pk_us]
    clear hG5 ek
    have qm : ∀ q, 121 ≤ q → G5 q = F q := fun q hq => by rw [q5 q (by omega), g1 q (by omega) (by omega) (by omega) (by omega) (by omega) (by omega) (by omega)]
    have eqG : ∀ q k, 121 ≤ q → G5 q k = F q k := fun q k u => by rw [qm q u]
    unfold wp_X12_fry
    refine m_barsY (by rw [qm 121 (by omega)]; exact y2) (by rw [qm 121 (by omega)]; exact z5) (if_y rfl ?_)
    rw [eqG 121 15 (by omega), d3]
    refine if_n (fun z => by have := (nI_eq (b := 24) (by omega) (by omega)).mp z; omega) ?_
    refine m_load (P := P) (L := L) (c := c) z1 ok (by omega) (MgP_tr (fun q k u => eqG q k (by omega)) h1.2.1) (MpL_tr (fun q k u v => eqG q k (by omega)) mL) (fun k hk => by rw [eqG _ _ (by omega), c2 k hk]) (fun k hk => by rw [eqG _ _ (by omega), c3 k hk]) (by rw [eqG _ _ (by omega), c4]) (fun A a1 a2 a3 => ?_)
    refine m_cake z1 ok c5 (a1.P (MgP_tr (fun q k u => eqG q k (by omega)) h1.2.1)) a2 a3 (fun B b1 b2 b3 b4 b5 b6 b7 => ?_)
    have s1 : serM G5 B := a1.tr b1
    refine m_putPan (fun D e1 e2 e3 e4 e5 => ?_)
    have D15 : D 121 15 = nI nc := by rw [e2 15 (by omega), s1.2 15 (by omega), eqG _ _ (by omega), d3]
    refine for2 7 (fun k F' => F' = upR D 132 (seg (7 * nc) k (fun k => D 121 (54 + k)) (D 132))) (by omega) (fun K k F' hk e hK => ?_) (fun K F' e => ?_) 0 D (Nat.zero_le _) (by rw [seg_0, upR_self])
    · have e121 : F' 121 = D 121 := by rw [e, upR_ne _ _ (by omega)]
      have e7 : 7 * nI nc + nI k = nI (7 * nc + k) := by
        have z1 : 7 * nI nc = nI (7 * nc) := pk_mul 7 nc
        rw [z1, nI_add]
      unfold wb_X12_fry_43
      refine if_n (nI_ge (b := 7) hk (by omega)) (m_triedNow hk ?_)
      rw [e121, D15, e7]
      refine ⟨vp_in_nI (by omega) (by omega), hK _ ?_⟩
      rw [nI_clamp (by omega), e, upF_upR]
      exact congrArg (upR D 132) (seg_s rfl)
    · unfold wb_X12_fry_43
      refine if_y (nI_le (a := 7) (Nat.le_refl _) (by omega)) ?_
      have E121 : F' 121 = D 121 := by rw [e, upR_ne _ _ (by omega)]
      refine for2 16 (fun k F2 => F2 = upR F' 133 (seg (16 * nc) k (F' 143) (F' 133))) (by omega) (fun K k F2 hk e' hK => ?_) (fun K F2 e' => ?_) 0 F' (Nat.zero_le _) (by rw [seg_0, upR_self])
      · have e121 : F2 121 = D 121 := by rw [e', upR_ne _ _ (by omega), E121]
        have e143 : F2 143 = F' 143 := by rw [e', upR_ne _ _ (by omega)]
        have e16 : 16 * nI nc + nI k = nI (16 * nc + k) := by
          have z1 : 16 * nI nc = nI (16 * nc) := pk_mul 16 nc
          rw [z1, nI_add]
        unfold wb_X12_fry_76
        refine if_n (nI_ge (b := 16) hk (by omega)) ⟨vp_in_nI hk (by omega), ?_⟩
        rw [e121, D15, e16]
        refine ⟨vp_in_nI (by omega) (by omega), hK _ ?_⟩
        rw [nI_clamp (by omega), nI_clamp (by omega), e143, e', upF_upR]
        exact congrArg (upR F' 133) (seg_s rfl)
      · unfold wb_X12_fry_76
        have e121 : F2 121 = D 121 := by rw [e', upR_ne _ _ (by omega), E121]
        refine if_y (nI_le (a := 16) (Nat.le_refl _) (by omega)) ?_
        rw [e121, D15, nI_1]
        have fk : (upF F2 121 15 (nI (nc + 1))) 121 54 = bkD P L c 0 := by rw [upF_eq, pk_un (by omega), e121, e2 54 (by omega)]; exact b5 0 (by omega)
        show bkD P L c 0 = (upF F2 121 15 (nI (nc + 1))) 121 54 ∧ Inv (i + 1) (upF F2 121 15 (nI (nc + 1)))
        rw [fk]
        refine ⟨rfl, ?_⟩
        generalize hM : upF F2 121 15 (nI (nc + 1)) = M
        have M15 : M 121 15 = nI (nc + 1) := by rw [← hM, upF_eq, pk_us]
        have M121 : ∀ k, k ≠ 15 → M 121 k = D 121 k := fun k hk => by rw [← hM, upF_eq, pk_un hk, e121]
        have Mq : ∀ q, q ≠ 121 → q ≠ 132 → q ≠ 133 → M q = D q := fun q o1 o2 o3 => by rw [← hM, upF_ne _ _ _ o1, e', upR_ne _ _ o3, e, upR_ne _ _ o2]
        have M132 : M 132 = seg (7 * nc) 7 (fun k => D 121 (54 + k)) (D 132) := by rw [← hM, upF_ne _ _ _ (by omega), e', upR_ne _ _ (by omega), e, upR_eq]
        have M133 : M 133 = seg (16 * nc) 16 (D 143) (D 133) := by
          have t143 : F' 143 = D 143 := by rw [e, upR_ne _ _ (by omega)]
          have t133 : F' 133 = D 133 := by rw [e, upR_ne _ _ (by omega)]
          rw [← hM, upF_ne _ _ _ (by omega), e', upR_eq, t143, t133]
        clear hM e e' E121 e121 fk
        have Dq : ∀ q, q ≠ 121 → q ≠ 124 → q ≠ 125 → q < 140 → D q = G5 q := fun q o1 o2 o3 o4 => by rw [e1 q o1 o2 o3, s1.1 q o1 o4]
        have key : ∀ q j, uA q j → ¬ uCd q j → ¬ (q = 0 ∧ j = 11) → ¬ (q = 121 ∧ j = 15) → q ≠ 132 → q ≠ 133 → q ≠ 49 + 3 * nc + 1 → q ≠ 49 + 3 * nc + 2 → M q j = F q j := by
          intro q j u v w1 w2 w3 w4 w5 w6
          unfold uA at u
          unfold uCd at v
          by_cases a : q = 121
          · subst a; rw [M121 j (by omega), e2 j (by omega), s1.2 j (by omega), eqG _ _ (by omega)]
          · rw [Mq q a w3 w4, Dq q a (by omega) (by omega) (by omega)]
            by_cases b : q = 0
            · subst b; exact q0 j (by omega)
            · rw [q5 q b, g1 q (by omega) (by omega) (by omega) (by omega) (by omega) w5 w6]
        have xG : ∀ q, q ≠ 0 → q < 121 → M q = G q := fun q o1 o2 => by rw [Mq q (by omega) (by omega) (by omega), Dq q (by omega) (by omega) (by omega) (by omega), q5 q o1]
        refine ⟨P, p, np, nc + 1, bk P L c, len, s, IPan_tr (fun q j u => key q j (by unfold uPan at u; unfold uA; omega) (by unfold uPan at u; unfold uCd; omega) (by unfold uPan at u; omega) (by unfold uPan at u; omega) (by unfold uPan at u; omega) (by unfold uPan at u; omega) (by unfold uPan at u; omega) (by unfold uPan at u; omega)) (by omega) h1, IPl_tr (fun q j u => key q j (by unfold uPl at u; unfold uA; omega) (by unfold uPl at u; unfold uCd; omega) (by unfold uPl at u; omega) (by unfold uPl at u; omega) (by unfold uPl at u; omega) (by unfold uPl at u; omega) (by unfold uPl at u; omega) (by unfold uPl at u; omega)) h2, ⟨by omega, ?_, M15, fun a ha => ?_⟩, ⟨⟨fun j hj => ?_, fun j hj => ?_, ?_⟩, fun j hj => ?_, fun j hj => ?_, ?_, bk_ok z1 ok c5, fun j j1 j2 => ?_⟩, IKp_tr (nc := nc) (fun q j u => key q j (by unfold uKp at u; unfold uA; omega) (by unfold uKp at u; unfold uCd; omega) (by unfold uKp at u; omega) (by unfold uKp at u; omega) (by unfold uKp at u; omega) (by unfold uKp at u; omega) (by unfold uKp at u; omega) (by unfold uKp at u; omega)) (by omega) h5, IPg_tr (fun q j u => key q j (by unfold uPg at u; unfold uA; omega) (by unfold uPg at u; unfold uCd; omega) (by unfold uPg at u; omega) (by unfold uPg at u; omega) (by unfold uPg at u; omega) (by unfold uPg at u; omega) (by unfold uPg at u; omega) (by unfold uPg at u; omega)) h6, ISe_tr (fun q j u => key q j (by unfold uSe at u; unfold uA; omega) (by unfold uSe at u; unfold uCd; omega) (by unfold uSe at u; omega) (by unfold uSe at u; omega) (by unfold uSe at u; omega) (by unfold uSe at u; omega) (by unfold uSe at u; omega) (by unfold uSe at u; omega)) h7⟩
        · rw [Mq 0 (by omega) (by omega) (by omega), Dq 0 (by omega) (by omega) (by omega) (by omega), q11]
        · have D132 : D 132 = F 132 := by rw [Dq 132 (by omega) (by omega) (by omega) (by omega), qm _ (by omega)]
          have D133 : D 133 = F 133 := by rw [Dq 133 (by omega) (by omega) (by omega) (by omega), qm _ (by omega)]
          rcases Nat.lt_or_ge a nc with q | q
          · obtain ⟨b1, b2, b3⟩ := d4 a q
            have kk : ∀ m, m = 49 + 3 * a + 1 ∨ m = 49 + 3 * a + 2 → M m = F m := fun m hm => by rw [xG m (by omega) (by omega), g1 m (by omega) (by omega) (by omega) (by omega) (by omega) (by omega) (by omega)]
            refine ⟨fun k hk => ?_, fun j hj => ?_, ?_⟩
            · rw [kk _ (Or.inr rfl), M132, seg_lt (by omega), D132, b1 k hk]
            · rw [kk _ (Or.inl rfl), M133, seg_lt (by omega), D133, b2 j hj]
            · rw [kk _ (Or.inr rfl)]; exact b3
          · have ea : a = nc := by omega
            subst ea
            refine ⟨fun k hk => ?_, fun j hj => ?_, ?_⟩
            · rw [xG _ (by omega) (by omega), g4 k hk, M132, seg_in hk, e2 _ (by omega), b5 k hk]
            · rw [xG _ (by omega) (by omega), g3 j hj, M133, seg_in (by omega), e1 143 (by omega) (by omega) (by omega), b4 j hj]
            · rw [xG _ (by omega) (by omega), g4 0 (by omega)]; exact kdO_sm _ _ _
        · rw [xG _ (by omega) (by omega)]; exact g2.1 j hj
        · rw [xG _ (by omega) (by omega)]; exact g2.2.1 j hj
        · rw [xG _ (by omega) (by omega)]; exact g2.2.2
        · rw [Mq 124 (by omega) (by omega) (by omega), e4 j (by omega)]; exact b3.1 j hj
        · rw [Mq 125 (by omega) (by omega) (by omega), e5 j (by omega)]; exact b3.2.1 j hj
        · rw [M121 7 (by omega), e3]; exact b3.2.2
        · rw [xG _ (by omega) (by omega), g5 j j1]; exact c6 j j1 j2
  · have e24 : nc = 24 := by omega
    refine if_n (nI_nlt (b := 24) (by omega) (by omega)) ?_
    unfold wp_X12_fry
    exact m_barsY y2 z5 (if_y rfl (if_y (by rw [d3, e24]; rfl) ⟨rfl, Inv_s hI⟩))
/-! tosses -/
def ld (x y : Int32) : Int32 := if (((x * y) / 10) - ((x * y) / 10) / 4 * 4) = 2 then 1 else 0
theorem s_over {x y : Int32} {F : gS} {Q : Int32 → Prop} (h : Q (ld x y)) : wp_X10_turnsOver x y F Q := by
  unfold wp_X10_turnsOver
  unfold ld at h
  refine if_c (fun q => ?_) (fun q => ?_)
  · rw [if_pos q] at h; exact h
  · rw [if_neg q] at h; exact h
theorem m_over {x y : Int32} {F : gS} {Q : Int32 → Prop} (h : Q (ld x y)) : wp_X12_landing x y F Q := by
  unfold wp_X12_landing
  unfold ld at h
  refine if_c (fun q => ?_) (fun q => ?_)
  · rw [if_pos q] at h; exact h
  · rw [if_neg q] at h; exact h
theorem ld_01 (x y : Int32) : ld x y = 0 ∨ ld x y = 1 := by unfold ld; split; exact Or.inr rfl; exact Or.inl rfl
theorem m_tossN {x y : Int32} {F : gS} {Q : Int32 → Prop} (h : ¬ (wtB x 1 30 = true ∧ wtB y 1 30 = true)) (q : Q 0) : wp_X12_isToss x y F Q := by
  unfold wp_X12_isToss
  by_cases w : wtB x 1 30 = true
  · exact wm_y w (if_n t10 (wm_n (fun z => h ⟨w, z⟩) (if_y rfl q)))
  · exact wm_n w (if_y rfl q)
theorem m_tossY {x y : Int32} {F : gS} {Q : Int32 → Prop} (h1 : wtB x 1 30 = true) (h2 : wtB y 1 30 = true) (q : Q 1) : wp_X12_isToss x y F Q := by
  unfold wp_X12_isToss
  exact wm_y h1 (if_n t10 (wm_y h2 (if_n t10 q)))
theorem T_toss {x1 x2 : Int32} {F : gS} : wp_X11_toss x1 x2 F (fun r => wp_X12_toss x1 x2 F (fun r' => r = r')) := by
  unfold wp_X11_toss wp_X12_toss
  by_cases w : wtB x1 1 30 = true
  · refine wx_y w (if_n t10 ?_)
    by_cases w2 : wtB x2 1 30 = true
    · refine wx_y w2 (if_n t10 (s_over ?_))
      refine if_c (fun q => m_tossY w w2 (if_n t10 (m_over q.symm))) (fun q => m_tossY w w2 (if_n t10 (m_over ?_)))
      rcases ld_01 x1 x2 with z | z
      · exact absurd z q
      · exact z.symm
    · exact wx_n w2 (if_y rfl (m_tossN (fun z => w2 z.2) (if_y rfl rfl)))
  · exact wx_n w (if_y rfl (m_tossN (fun z => w z.1) (if_y rfl rfl)))
def sl (a b : Nat) : Nat := if b < a then a - b else 1
theorem sl_x : ∀ a : Nat, a < 31 → ∀ b : Nat, b < 10 → (if (1 : Int32) < (nI a - nI b) then (nI a - nI b) else 1) = nI (sl a b) := by decide +kernel
theorem sl_m : ∀ a : Nat, a < 31 → ∀ b : Nat, b < 10 → (if 1 ≤ (nI a - nI b) then (nI a - nI b) else 1) = nI (sl a b) := by decide +kernel
theorem sl_le {a b : Nat} (h : 1 ≤ a) : 1 ≤ sl a b ∧ sl a b ≤ a := by unfold sl; split <;> omega
def laN (a b : Nat) (x : Int32) : Int32 := sN (fun k => ld (nI (sl a b + k)) x) (a + b + 1 - sl a b)
theorem sN_01 {f : Nat → Int32} (h : ∀ k, f k = 0 ∨ f k = 1) : ∀ n, sm n (sN f n)
  | 0 => ⟨0, by omega, rfl⟩
  | n + 1 => by
    obtain ⟨a, ha, e⟩ := sN_01 h n
    show sm (n + 1) (sN f n + f n)
    rw [e]
    rcases h n with z | z
    · rw [z]; exact ⟨a, by omega, by simp⟩
    · rw [z]; exact ⟨a + 1, by omega, nI_1 a⟩
theorem laN_sm (a b : Nat) (x : Int32) : sm (a + b + 1 - sl a b) (laN a b x) := sN_01 (fun k => ld_01 _ _) _
theorem s_landings {a b : Nat} {x : Int32} {F : gS} {Q : Int32 → Prop} (ha : a < 31) (hb : b < 10) (h1 : 1 ≤ a) (h : Q (laN a b x)) : wp_X10_landings (nI a) x (nI b) F Q := by
  have hs := sl_le (b := b) h1
  unfold wp_X10_landings wp_X10_slowest
  rw [sl_x a ha b hb]
  refine for2 (a + b + 1) (fun c y => sl a b ≤ c ∧ y = sN (fun k => ld (nI (sl a b + k)) x) (c - sl a b)) (by omega) (fun K c y hc hI hK => ?_) (fun K y hI => ?_) (sl a b) 0 (by omega) ⟨Nat.le_refl _, by rw [Nat.sub_self]; rfl⟩
  · obtain ⟨i1, i2⟩ := hI
    unfold wb_X10_landings_9
    rw [nI_add]
    have e : c + 1 - sl a b = (c - sl a b) + 1 := by omega
    have e2 : sl a b + (c - sl a b) = c := by omega
    have e3 : sN (fun k => ld (nI (sl a b + k)) x) (c + 1 - sl a b) = sN (fun k => ld (nI (sl a b + k)) x) (c - sl a b) + ld (nI c) x := by
      rw [e]; show _ + ld (nI (sl a b + (c - sl a b))) x = _; rw [e2]
    refine if_n (nI_nlt (by omega) (by omega)) (s_over (if_c (fun q => hK _ ⟨by omega, ?_⟩) (fun q => hK _ ⟨by omega, ?_⟩)))
    · rw [e3, q, i2]; simp
    · rcases ld_01 (nI c) x with z | z
      · exact absurd z q
      · rw [e3, z, i2]
  · obtain ⟨i1, i2⟩ := hI
    unfold wb_X10_landings_9
    rw [nI_add]
    refine if_y (nI_lt (by omega) (by omega)) ?_
    rw [i2]; exact h
theorem m_slow {a b : Nat} {F : gS} {Q : Int32 → Prop} (ha : a < 31) (hb : b < 10) (h : Q (nI (sl a b))) : wp_X12_slowest (nI a) (nI b) F Q := by
  unfold wp_X12_slowest
  rw [← sl_m a ha b hb] at h
  refine if_c (fun q => ?_) (fun q => ?_)
  · rw [if_pos q] at h; exact h
  · rw [if_neg q] at h; exact h
theorem m_landings {a b : Nat} {x : Int32} {F : gS} {Q : Int32 → Prop} (ha : a < 31) (hb : b < 10) (h1 : 1 ≤ a) (h : Q (laN a b x)) : wp_X12_landings (nI a) x (nI b) F Q := by
  have hs := sl_le (b := b) h1
  unfold wp_X12_landings
  refine m_slow ha hb ?_
  refine for2 (a + b + 1) (fun c y => sl a b ≤ c ∧ y = sN (fun k => ld (nI (sl a b + k)) x) (c - sl a b)) (by omega) (fun K c y hc hI hK => ?_) (fun K y hI => ?_) (sl a b) 0 (by omega) ⟨Nat.le_refl _, by rw [Nat.sub_self]; rfl⟩
  · obtain ⟨i1, i2⟩ := hI
    unfold wb_X12_landings_9
    rw [nI_add]
    have e : c + 1 - sl a b = (c - sl a b) + 1 := by omega
    have e2 : sl a b + (c - sl a b) = c := by omega
    have e3 : sN (fun k => ld (nI (sl a b + k)) x) (c + 1 - sl a b) = sN (fun k => ld (nI (sl a b + k)) x) (c - sl a b) + ld (nI c) x := by
      rw [e]; show _ + ld (nI (sl a b + (c - sl a b))) x = _; rw [e2]
    refine if_n (nI_nlt (by omega) (by omega)) (m_over (hK _ ⟨by omega, ?_⟩))
    rw [e3, i2]
  · obtain ⟨i1, i2⟩ := hI
    unfold wb_X12_landings_9
    rw [nI_add]
    refine if_y (nI_lt (by omega) (by omega)) ?_
    rw [i2]; exact h
theorem s_common {l m : Nat} {F : gS} {Q : Int32 → Prop} (hm : 1 ≤ m) (hm2 : m < 100) (hl : l < 100) (h : Q (nI (Nat.gcd l m))) : wp_X10_commonDivisor (nI l) (nI m) F Q := by
  have hg : 1 ≤ Nat.gcd l m := Nat.gcd_pos_of_pos_right l hm
  unfold wp_X10_commonDivisor
  refine LP1_of (fun x => ∃ d : Nat, x = nI d ∧ 1 ≤ d ∧ d ≤ m ∧ Nat.gcd l m ≤ d) (fun x => x.toNatClampNeg) (fun K x hI hK => ?_) (nI m) ⟨m, rfl, hm, Nat.le_refl _, Nat.le_of_dvd (by omega) (Nat.gcd_dvd_right l m)⟩
  obtain ⟨d, rfl, d1, d2, d3⟩ := hI
  unfold wb_X10_commonDivisor_2
  by_cases q : d ≤ 1
  · refine if_y (nI_le (b := 1) q (by omega)) ?_
    have : Nat.gcd l m = 1 := by omega
    rw [this] at h; exact h
  · have ne : ¬ nI d = 0 := nI_ne0 (by omega) (by omega)
    have nxt : ¬ (l % d = 0 ∧ m % d = 0) → K (nI d + (-1)) := by
      intro z
      obtain ⟨e, rfl⟩ : ∃ e, d = e + 1 := ⟨d - 1, by omega⟩
      refine hK _ ⟨e, pk_m1 e, by omega, by omega, ?_⟩ ?_
      · rcases Nat.lt_or_ge (Nat.gcd l m) (e + 1) with y | y
        · omega
        · exfalso
          have eg : Nat.gcd l m = e + 1 := by omega
          refine z ⟨Nat.mod_eq_zero_of_dvd ?_, Nat.mod_eq_zero_of_dvd ?_⟩
          · rw [← eg]; exact Nat.gcd_dvd_left l m
          · rw [← eg]; exact Nat.gcd_dvd_right l m
      · rw [pk_m1, nI_clamp (by omega), nI_clamp (by omega)]; omega
    rw [pk_rem (by omega) (by omega) (by omega), pk_rem (by omega) (by omega) (by omega)]
    have hld : l % d < d := Nat.mod_lt _ (by omega)
    have hmd : m % d < d := Nat.mod_lt _ (by omega)
    refine if_n (nI_ge (a := 1) (by omega) (by omega)) ⟨ne, if_c (fun z => ⟨ne, if_c (fun y => ?_) (fun y => nxt (fun u => y (by rw [u.2]; rfl)))⟩) (fun z => nxt (fun u => z (by rw [u.1]; rfl)))⟩
    have z' : l % d = 0 := (nI_eq (b := 0) (by omega) (by omega)).mp z
    have y' : m % d = 0 := (nI_eq (b := 0) (by omega) (by omega)).mp y
    have dv : d ∣ Nat.gcd l m := Nat.dvd_gcd (Nat.dvd_of_mod_eq_zero z') (Nat.dvd_of_mod_eq_zero y')
    have : d ≤ Nat.gcd l m := Nat.le_of_dvd (by omega) dv
    have : Nat.gcd l m = d := by omega
    rw [this] at h; exact h
theorem m_lowest {l m : Nat} {x2 : Int32} {F : gS} {Q : Int32 → Prop} (hm : 1 ≤ m) (hm2 : m < 100) (hl : l < 100) (h : if x2 = 0 then Q (nI l / nI (Nat.gcd l m)) else Q (nI m / nI (Nat.gcd l m))) : wp_X12_lowest (nI l) (nI m) x2 F Q := by
  have hg : 1 ≤ Nat.gcd l m := Nat.gcd_pos_of_pos_right l hm
  unfold wp_X12_lowest
  refine LP2_of (fun x y => ∃ u v : Nat, x = nI u ∧ y = nI v ∧ u < 100 ∧ v < 100 ∧ Nat.gcd u v = Nat.gcd l m) (fun _ y => y.toNatClampNeg) (fun K x y hI hK => ?_) (nI l) (nI m) ⟨l, m, rfl, rfl, hl, hm2, rfl⟩
  obtain ⟨u, v, rfl, rfl, u1, v1, g1⟩ := hI
  unfold wb_X12_lowest_5
  rcases Nat.eq_zero_or_pos v with q | q
  · subst q
    have eg : u = Nat.gcd l m := by rw [← g1, Nat.gcd_zero_right]
    refine if_y rfl ?_
    unfold wp_X12_lowest_26
    rw [← eg] at h
    have ne : ¬ nI u = 0 := nI_ne0 (by omega) (by omega)
    refine if_c (fun z => ⟨ne, ?_⟩) (fun z => ⟨ne, ?_⟩)
    · rw [if_pos z] at h; exact h
    · rw [if_neg z] at h; exact h
  · have ne : ¬ nI v = 0 := nI_ne0 (by omega) (by omega)
    have hv : u % v < v := Nat.mod_lt _ q
    refine if_n ne ⟨ne, ?_⟩
    rw [pk_rem (by omega) q (by omega)]
    refine hK _ _ ⟨v, u % v, rfl, rfl, v1, by omega, ?_⟩ ?_
    · rw [← g1, Nat.gcd_comm v, ← Nat.gcd_rec, Nat.gcd_comm]
    · show (nI (u % v)).toNatClampNeg < (nI v).toNatClampNeg
      rw [nI_clamp (by omega), nI_clamp (by omega)]; exact hv
theorem T_lands {x1 x2 x3 x4 : Int32} {F : gS} : wp_X11_lands x1 x2 x3 x4 F (fun r => wp_X12_lands x1 x2 x3 x4 F (fun r' => r = r')) := by
  unfold wp_X11_lands
  by_cases w1 : wtB x1 1 30 = true
  · refine wx_y w1 (if_n t10 ?_)
    by_cases w2 : wtB x2 1 30 = true
    · refine wx_y w2 (if_n t10 ?_)
      by_cases w3 : wtB x3 0 9 = true
      · refine wx_y w3 (if_n t10 ?_)
        by_cases w4 : wtB x4 0 1 = true
        · refine wx_y w4 (if_n t10 ?_)
          obtain ⟨a, a1, a2, rfl⟩ := wt_rng (a := 1) (b := 30) (by omega) (by omega) w1
          obtain ⟨b, -, b2, rfl⟩ := wt_rng (a := 0) (b := 9) (by omega) (by omega) w3
          have hs := sl_le (b := b) a1
          obtain ⟨l, hl, el⟩ := laN_sm a b x2
          refine s_landings (by omega) (by omega) a1 ?_
          unfold wp_X10_paces wp_X10_slowest
          rw [sl_x a (by omega) b (by omega), el]
          have ep : nI a + nI b - nI (sl a b) + 1 = nI (a + b + 1 - sl a b) := by
            rw [nI_add, pk_sub (by omega), nI_1]; congr 1; omega
          dsimp only
          rw [ep]
          refine s_common (by omega) (by omega) (by omega) ?_
          have ne : ¬ nI (Nat.gcd l (a + b + 1 - sl a b)) = 0 := nI_ne0 (Nat.gcd_pos_of_pos_right l (by omega)) (by have := Nat.le_of_dvd (by omega) (Nat.gcd_dvd_right l (a + b + 1 - sl a b)); omega)
          have e1 : (if (1 : Int32) < nI (Nat.gcd l (a + b + 1 - sl a b)) then nI (Nat.gcd l (a + b + 1 - sl a b)) else 1) = nI (Nat.gcd l (a + b + 1 - sl a b)) := cv_k (Nat.gcd_pos_of_pos_right l (by omega)) (by have := Nat.le_of_dvd (by omega) (Nat.gcd_dvd_right l (a + b + 1 - sl a b)); omega)
          rw [e1]
          have fin : ∀ r, (if x4 = 0 then r = nI l / nI (Nat.gcd l (a + b + 1 - sl a b)) else r = nI (a + b + 1 - sl a b) / nI (Nat.gcd l (a + b + 1 - sl a b))) → wp_X12_lands (nI a) x2 (nI b) x4 F (fun r' => r = r') := by
            intro r hr
            unfold wp_X12_lands
            refine m_tossY w1 w2 (if_n t10 (wm_y w3 (if_n t10 (wm_y w4 (if_n t10 (m_landings (by omega) (by omega) a1 (m_slow (by omega) (by omega) ?_)))))))
            dsimp only
            rw [el, ep]
            exact m_lowest (by omega) (by omega) (by omega) hr
          exact if_c (fun z => ⟨ne, fin _ (if_y z rfl)⟩) (fun z => ⟨ne, fin _ (if_n z rfl)⟩)
        · refine wx_n w4 (if_y rfl ?_)
          unfold wp_X12_lands
          exact m_tossY w1 w2 (if_n t10 (wm_y w3 (if_n t10 (wm_n w4 (if_y rfl rfl)))))
      · refine wx_n w3 (if_y rfl ?_)
        unfold wp_X12_lands
        exact m_tossY w1 w2 (if_n t10 (wm_n w3 (if_y rfl rfl)))
    · refine wx_n w2 (if_y rfl ?_)
      unfold wp_X12_lands
      exact m_tossN (fun z => w2 z.2) (if_y rfl rfl)
  · refine wx_n w1 (if_y rfl ?_)
    unfold wp_X12_lands
    exact m_tossN (fun z => w1 z.1) (if_y rfl rfl)
theorem T_bestSpin {x1 x2 : Int32} {F : gS} : wp_X11_bestSpin x1 x2 F (fun r => wp_X12_bestSpin x1 x2 F (fun r' => r = r')) := by
  unfold wp_X11_bestSpin
  have w1' : wtB 1 1 30 = true := by decide
  by_cases w1 : wtB x1 1 30 = true
  · refine wx_y w1 (if_n t10 ?_)
    by_cases w3 : wtB x2 0 9 = true
    · refine wx_y w3 (if_n t10 ?_)
      obtain ⟨a, a1, a2, rfl⟩ := wt_rng (a := 1) (b := 30) (by omega) (by omega) w1
      obtain ⟨b, -, b2, rfl⟩ := wt_rng (a := 0) (b := 9) (by omega) (by omega) w3
      have hs := sl_le (b := b) a1
      unfold wp_X10_likeliestSpin
      refine for3 31 (fun f y z => z = (bfN (fun f => laN a b (nI f)) (f - 1)).2 ∧ (2 ≤ f → y = (bfN (fun f => laN a b (nI f)) (f - 1)).1) ∧ 1 ≤ f) (by omega) (fun K f y z hf hI hK => ?_) (fun K y z hI => ?_) 1 1 (-1) (by omega) ⟨rfl, fun q => absurd q (by omega), by omega⟩
      · obtain ⟨i1, i2, i3⟩ := hI
        obtain ⟨m, rfl⟩ : ∃ m, f = m + 1 := ⟨f - 1, by omega⟩
        have eb : bfN (fun f => laN a b (nI f)) (m + 1) = if laN a b (nI (m + 1)) ≤ (bfN (fun f => laN a b (nI f)) m).2 then bfN (fun f => laN a b (nI f)) m else (nI (m + 1), laN a b (nI (m + 1))) := rfl
        unfold wb_X10_likeliestSpin_7
        refine if_n (nI_nlt (a := 30) (by omega) (by omega)) (s_landings (by omega) (by omega) a1 ?_)
        rw [i1]
        show if laN a b (nI (m + 1)) ≤ (bfN (fun f => laN a b (nI f)) m).2 then _ else _
        refine if_c (fun q => hK _ _ ⟨?_, fun _ => ?_, by omega⟩) (fun q => hK _ _ ⟨?_, fun _ => ?_, by omega⟩)
        · show _ = (bfN (fun f => laN a b (nI f)) (m + 1)).2; rw [eb, if_pos q]; rfl
        · have m1 : 2 ≤ m + 1 := by
            rcases Nat.eq_zero_or_pos m with u | u
            · subst u; exact absurd q (sm_nm1 (laN_sm _ _ _) (by omega))
            · omega
          show _ = (bfN (fun f => laN a b (nI f)) (m + 1)).1; rw [eb, if_pos q]; exact i2 m1
        · show _ = (bfN (fun f => laN a b (nI f)) (m + 1)).2; rw [eb, if_neg q]
        · show _ = (bfN (fun f => laN a b (nI f)) (m + 1)).1; rw [eb, if_neg q]
      · obtain ⟨i1, i2, i3⟩ := hI
        have i2' := i2 (by omega)
        unfold wb_X10_likeliestSpin_7
        refine if_y (nI_lt (a := 30) (b := 31) (by omega) (by omega)) ?_
        have e31 : (31 : Nat) - 1 = 30 := rfl
        rw [e31] at i2'
        rw [i2']
        unfold wp_X12_bestSpin
        refine m_tossY w1 w1' (if_n t10 (wm_y w3 (if_n t10 ?_)))
        refine for3 31 (fun f y z => z = (bfN (fun f => laN a b (nI f)) (f - 1)).2 ∧ y = (bfN (fun f => laN a b (nI f)) (f - 1)).1 ∧ 1 ≤ f) (by omega) (fun K f y z hf hI hK => ?_) (fun K y z hI => ?_) 1 0 (-1) (by omega) ⟨rfl, rfl, by omega⟩
        · obtain ⟨i1, i2, i3⟩ := hI
          obtain ⟨m, rfl⟩ : ∃ m, f = m + 1 := ⟨f - 1, by omega⟩
          have eb : bfN (fun f => laN a b (nI f)) (m + 1) = if laN a b (nI (m + 1)) ≤ (bfN (fun f => laN a b (nI f)) m).2 then bfN (fun f => laN a b (nI f)) m else (nI (m + 1), laN a b (nI (m + 1))) := rfl
          unfold wb_X12_bestSpin_29 wp_X12_bestSpin_58
          refine if_n (nI_ge (b := 31) (by omega) (by omega)) (m_landings (by omega) (by omega) a1 ?_)
          rw [i1, i2]
          show if laN a b (nI (m + 1)) ≤ (bfN (fun f => laN a b (nI f)) m).2 then _ else _
          refine if_c (fun q => if_y q (hK _ _ ⟨?_, ?_, by omega⟩)) (fun q => if_n q (hK _ _ ⟨?_, ?_, by omega⟩))
          · show _ = (bfN (fun f => laN a b (nI f)) (m + 1)).2; rw [eb, if_pos q]; rfl
          · show _ = (bfN (fun f => laN a b (nI f)) (m + 1)).1; rw [eb, if_pos q]; rfl
          · show _ = (bfN (fun f => laN a b (nI f)) (m + 1)).2; rw [eb, if_neg q]
          · show _ = (bfN (fun f => laN a b (nI f)) (m + 1)).1; rw [eb, if_neg q]
        · obtain ⟨i1, i2, i3⟩ := hI
          rw [e31] at i2
          unfold wb_X12_bestSpin_29
          refine if_y (nI_le (a := 31) (Nat.le_refl _) (by omega)) ?_
          rw [i2]
    · refine wx_n w3 (if_y rfl ?_)
      unfold wp_X12_bestSpin
      exact m_tossY w1 w1' (if_n t10 (wm_n w3 (if_y rfl rfl)))
  · refine wx_n w1 (if_y rfl ?_)
    unfold wp_X12_bestSpin
    exact m_tossN (fun z => w1 z.1) (if_y rfl rfl)
