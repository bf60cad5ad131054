/-! reading a plan; faults -/
noncomputable def tkF (c : Nat) (X : XS) : Option XS :=
  if 48 ≤ c ∧ c ≤ 57 then @ite _ (dgX c X) (Classical.propDecidable _) (some (X.1, uN X.2.1 X.1 (10 * X.2.1 X.1 + (c - 48)), X.2.2.1, X.2.2.2)) none
  else match swI c with
    | some d => @ite _ (swX X) (Classical.propDecidable _) (some (X.1, X.2.1, X.2.2.1 + 1, upd X.2.2.2 X.2.2.1 (nI d))) none
    | none => @ite _ (sgX c X) (Classical.propDecidable _) (some (X.1 + 1, X.2.1, X.2.2.1, X.2.2.2)) none
theorem tkF_tk (c : Nat) (X : XS) : tkX c X (tkF c X) := by
  unfold tkX tkF
  by_cases q : 48 ≤ c ∧ c ≤ 57
  · rw [if_pos q, if_pos q]
    by_cases z : dgX c X
    · rw [if_pos z]; exact Or.inl ⟨z, rfl⟩
    · rw [if_neg z]; exact Or.inr ⟨z, rfl⟩
  · rw [if_neg q, if_neg q]
    cases hs : swI c with
    | some d =>
      by_cases z : swX X
      · exact Or.inl ⟨z, by simp only [if_pos z]⟩
      · exact Or.inr ⟨z, by simp only [if_neg z]⟩
    | none =>
      by_cases z : sgX c X
      · exact Or.inl ⟨z, by simp only [if_pos z]⟩
      · exact Or.inr ⟨z, by simp only [if_neg z]⟩
theorem tkF_of {c : Nat} {X : XS} {R : Option XS} (h : tkX c X R) : tkF c X = R := tkX_u (tkF_tk c X) h
theorem tkX_ok {c : Nat} {X X' : XS} (h : okX X) (e : tkX c X (some X')) : okX X' := by
  obtain ⟨o1, o2, o3⟩ := h
  unfold tkX at e
  by_cases q : 48 ≤ c ∧ c ≤ 57
  · rw [if_pos q] at e
    rcases e with ⟨a, e⟩ | ⟨a, e⟩
    · have e' := Option.some.inj e
      subst e'
      refine ⟨o1, fun k hk => ?_, o3⟩
      show uN X.2.1 X.1 _ k ≤ 60
      by_cases z : k = X.1
      · rw [z, uN_s]; exact Nat.le_trans a.2.1 (mos_le _)
      · rw [uN_n z]; exact o2 k hk
    · cases e
  · rw [if_neg q] at e
    cases hs : swI c with
    | some d =>
      rw [hs] at e
      rcases e with ⟨a, e⟩ | ⟨a, e⟩
      · have e' := Option.some.inj e
        subst e'
        exact ⟨o1, o2, a.2.2⟩
      · cases e
    | none =>
      rw [hs] at e
      rcases e with ⟨a, e⟩ | ⟨a, e⟩
      · have e' := Option.some.inj e
        subst e'
        exact ⟨a.1, o2, o3⟩
      · cases e
noncomputable def rdL (cs : Nat → Nat) : Nat → Nat → XS → Nat × XS
  | 0, k, X => (k, X)
  | m + 1, k, X => match tkF (cs k) X with
    | none => (k, X)
    | some X' => rdL cs m (k + 1) X'
theorem rdL_n {cs : Nat → Nat} {m k : Nat} {X : XS} (h : tkX (cs k) X none) : rdL cs (m + 1) k X = (k, X) := by
  show (match tkF (cs k) X with | none => (k, X) | some X' => rdL cs m (k + 1) X') = _; rw [tkF_of h]
theorem rdL_s {cs : Nat → Nat} {m k : Nat} {X X' : XS} (h : tkX (cs k) X (some X')) : rdL cs (m + 1) k X = rdL cs m (k + 1) X' := by
  show (match tkF (cs k) X with | none => (k, X) | some X' => rdL cs m (k + 1) X') = _; rw [tkF_of h]
theorem rdL_le {cs : Nat → Nat} : ∀ m k X, (rdL cs m k X).1 ≤ k + m
  | 0, k, X => Nat.le_refl _
  | m + 1, k, X => by
    have ht := tkF_tk (cs k) X
    cases h : tkF (cs k) X with
    | none => rw [h] at ht; rw [rdL_n ht]; show k ≤ _; omega
    | some X' => rw [h] at ht; rw [rdL_s ht]; have := rdL_le (cs := cs) m (k + 1) X'; omega
def XS0 : XS := (0, fun _ => 0, 0, fun _ => 0)
theorem XS0_ok : okX XS0 := ⟨Nat.zero_le _, fun _ _ => Nat.zero_le _, Nat.zero_le _⟩
theorem XS0_lk : lkS 0 XS0 := ⟨Nat.zero_le _, rfl, fun _ _ _ => rfl, fun z => absurd (show 2 ≤ 0 from z) (by omega), fun z => absurd (show 3 ≤ 0 from z) (by omega), fun z => absurd (show 4 ≤ 0 from z) (by omega), fun _ => rfl, Or.inl ⟨rfl, rfl⟩⟩
theorem s_fill5 {k : Nat} {v : Int32} {F : gS} {Q : gS → Prop} (h : Q (upR F k (pt 5 (fun _ => v) (F k)))) : wp_J7_fill_53178_5 k v F Q := by
  unfold wp_J7_fill_53178_5
  refine for2 5 (fun c F' => F' = upR F k (pt c (fun _ => v) (F k))) (by omega) (fun K c F' hc e hK => ?_) (fun K F' e => ?_) 0 F (Nat.zero_le _) (by rw [pt_0, upR_self])
  · unfold wb_J7_fill_53178_5_5
    refine if_n (nI_ge (b := 5) hc (by omega)) ⟨vp_in_nI hc (by omega), hK _ ?_⟩
    rw [nI_clamp (by omega), e, upF_upR]
    exact congrArg (upR F k) (pt_s c _ _ rfl)
  · unfold wb_J7_fill_53178_5_5
    refine if_y (nI_le (a := 5) (Nat.le_refl _) (by omega)) ?_
    rw [e]; exact h
theorem s_readL {cs : Nat → Nat} {len : Nat} {F : gS} {Q : Int32 → gS → Prop} (hl : len ≤ 40) (e1 : F 1 1 = nI len) (hcs : ∀ j, j < len → F 2 j = nI (cs j) ∧ cs j ≤ 126)
    (h : ∀ G, (∀ q, q ≠ 6 → q ≠ 7 → q ≠ 8 → G q = F q) → LX G (rdL cs len 0 XS0).2 → okX (rdL cs len 0 XS0).2 → Q (nI (rdL cs len 0 XS0).1) G) : wp_X4_readAs_6 F Q := by
  unfold wp_X4_readAs_6 wp_X8_begin
  refine s_fill5 ?_
  dsimp only [Nm]
  generalize hR : rdL cs len 0 XS0 = Rf at h
  refine for2 len (fun k F' => (∀ q, q ≠ 6 → q ≠ 7 → q ≠ 8 → F' q = F q) ∧ ∃ X, LX F' X ∧ okX X ∧ rdL cs (len - k) k X = Rf) (by omega) (fun K k F' hk hI hK => ?_) (fun K F' hI => ?_) 0 _ (Nat.zero_le _) ⟨fun q a b d => by rw [upF_ne _ _ _ a, upF_ne _ _ _ a, upR_ne _ _ b], XS0, ⟨?_, fun k hk => ?_, ?_, fun j hj => absurd (show j < 0 from hj) (by omega)⟩, XS0_ok, hR⟩
  · obtain ⟨j1, X, j2, j3, j4⟩ := hI
    have f1 : F' 1 1 = nI len := by rw [j1 1 (by omega) (by omega) (by omega), e1]
    have f2 : F' 2 k = nI (cs k) := by rw [j1 2 (by omega) (by omega) (by omega), (hcs k hk).1]
    obtain ⟨m, em⟩ : ∃ m, len - k = m + 1 := ⟨len - k - 1, by omega⟩
    rw [em] at j4
    unfold wb_X4_readAs_6_6
    refine if_n (by rw [f1]; exact nI_ge hk (by omega)) ⟨vp_in_nI (by omega) (by omega), ?_⟩
    rw [nI_clamp (by omega), f2]
    refine s_takeL (hcs k hk).2 j3 j2 (fun hn => ?_) (fun X' G hs g1 g2 => ?_)
    · rw [rdL_n hn] at j4
      subst j4
      exact if_y rfl (h F' j1 j2 j3)
    · rw [rdL_s hs] at j4
      refine if_n t10 (hK _ ⟨fun q a b d => by rw [g1 q a b d, j1 q a b d], X', g2, tkX_ok j3 hs, ?_⟩)
      have : len - (k + 1) = m := by omega
      rw [this]; exact j4
  · obtain ⟨j1, X, j2, j3, j4⟩ := hI
    rw [Nat.sub_self] at j4
    have f1 : F' 1 1 = nI len := by rw [j1 1 (by omega) (by omega) (by omega), e1]
    have j4' : (len, X) = Rf := j4
    subst j4'
    unfold wb_X4_readAs_6_6
    rw [f1]
    exact if_y (nI_le (Nat.le_refl _) (by omega)) (h F' j1 j2 j3)
  · rw [upF_eq, pk_us]; rfl
  · rw [upF_ne _ _ _ (by omega), upF_ne _ _ _ (by omega), upR_eq, pt_lt _ _ hk]; rfl
  · rw [upF_eq, pk_un (by omega), upF_eq, pk_us]; rfl
def whL (len : Nat) (R : Nat × XS) : Prop := R.1 = len ∧ R.2.1 = 4 ∧ 1 ≤ R.2.2.1 4
theorem lk_wh {s : Nat} {X : XS} (h : lkS s X) : 9 < s ↔ (X.1 = 4 ∧ 1 ≤ X.2.1 4) := by
  obtain ⟨k1, k2, k3, k4, k5, k6, k7, k8⟩ := h
  omega
theorem m_readL {cs : Nat → Nat} {len : Nat} {F : gS} {Q : gS → Prop} (hl : len ≤ 40) (e19 : F 121 19 = nI len) (hcs : ∀ j, j < len → F 134 j = nI (cs j) ∧ cs j ≤ 126)
    (h : ∀ G, (∀ q, q ≠ 121 → q ≠ 139 → G q = F q) → (∀ k, (k < 27 ∨ 39 < k) → G 121 k = F 121 k) → G 121 27 = nI (rdL cs len 0 XS0).1 → (whL len (rdL cs len 0 XS0) → G 121 28 = 1 ∧ ∃ st, 10 ≤ st ∧ lkS st (rdL cs len 0 XS0).2 ∧ LM G st (rdL cs len 0 XS0).2) → (¬ whL len (rdL cs len 0 XS0) → G 121 28 = 0) → Q G) : wp_X12_readPlan F Q := by
  unfold wp_X12_readPlan
  have hle := rdL_le (cs := cs) len 0 XS0
  generalize hR : rdL cs len 0 XS0 = Rf at h hle
  have k74 : ∀ (F' : gS) (st : Nat) (j : Nat), frL F F' → j = Rf.1 → (j = len → lkS st Rf.2 ∧ LM F' st Rf.2) → st ≤ 11 → wp_X12_readPlan_74 Q F' (nI st) (nI j) := by
    intro F' st j f1 ej el hst
    unfold wp_X12_readPlan_74
    have u19 : (upF F' 121 27 (nI j)) 121 19 = nI len := by rw [upF_eq, pk_un (by omega), f1.2 19 (by omega), e19]
    dsimp only [Nm]
    rw [u19]
    have fin : ∀ v, (whL len Rf → v = 1 ∧ ∃ st, 10 ≤ st ∧ lkS st Rf.2 ∧ LM F' st Rf.2) → (¬ whL len Rf → v = 0) → Q (upF (upF F' 121 27 (nI j)) 121 28 v) := by
      intro v hy hn
      refine h _ (fun q a b => by rw [upF_ne _ _ _ a, upF_ne _ _ _ a, f1.1 q a b]) (fun k hk => by rw [upF_eq, pk_un (by omega), upF_eq, pk_un (by omega), f1.2 k (by omega)]) (by rw [upF_eq, pk_un (by omega), upF_eq, pk_us, ej]) (fun z => ?_) (fun z => by rw [upF_eq, pk_us, hn z])
      obtain ⟨a, st', b1, b2, m1, m2, m3, m4, m5, m6⟩ := hy z
      have uu : ∀ k, 35 ≤ k → (upF (upF F' 121 27 (nI j)) 121 28 v) 121 k = F' 121 k := fun k hk => by rw [upF_eq, pk_un (by omega), upF_eq, pk_un (by omega)]
      exact ⟨by rw [upF_eq, pk_us, a], st', b1, b2, fun w => by rw [uu _ (by omega), m1 w], fun w => by rw [uu _ (by omega), m2 w], fun w => by rw [uu _ (by omega), m3 w], fun w => by rw [uu _ (by omega), m4 w], by rw [uu _ (by omega), m5], fun i hi => by rw [upF_ne _ _ _ (by omega), upF_ne _ _ _ (by omega), m6 i hi]⟩
    refine if_c (fun z => ?_) (fun z => fin 0 (fun y => absurd (by rw [← y.1, ej]) z) (fun _ => rfl))
    have z' : j = len := (nI_eq (by omega) (by omega)).mp z
    obtain ⟨l1, l2⟩ := el z'
    have lw := lk_wh l1
    refine if_c (fun y => fin 0 (fun w => ?_) (fun _ => rfl)) (fun y => fin 1 (fun _ => ⟨rfl, st, ?_, l1, l2⟩) (fun w => ?_))
    · have y' := (nI_leI (b := 9) (by omega) (by omega)).mp y
      have := lw.mpr ⟨w.2.1, w.2.2⟩; omega
    · have : ¬ st ≤ 9 := fun w => y (nI_le (b := 9) w (by omega))
      omega
    · have : ¬ st ≤ 9 := fun t => y (nI_le (b := 9) t (by omega))
      obtain ⟨a, b⟩ := lw.mp (by omega)
      exact absurd ⟨by rw [← ej]; exact z', a, b⟩ w
  refine LP4_of (fun F' x1 x2 x3 => ∃ j X st, x2 = nI j ∧ j ≤ len ∧ x1 = nI st ∧ st ≤ 11 ∧ frL F F' ∧ ((x3 = 1 ∧ lkS st X ∧ LM F' st X ∧ rdL cs (len - j) j X = Rf) ∨ (x3 = 0 ∧ j = Rf.1 ∧ j < len))) (fun _ _ x2 x3 => if x3 = 0 then 0 else len - x2.toNatClampNeg + 1) (fun K F' x1 x2 x3 hI hK => ?_) _ 0 0 1 ⟨0, XS0, 0, rfl, Nat.zero_le _, rfl, by omega, frL.up (by omega), Or.inl ⟨rfl, XS0_lk, ⟨fun a => absurd a (by omega), fun a => absurd a (by omega), fun a => absurd a (by omega), fun a => absurd a (by omega), by rw [upF_eq, pk_us]; rfl, fun j hj => absurd (show j < 0 from hj) (by omega)⟩, hR⟩⟩
  obtain ⟨j, X, st, rfl, j1, rfl, j2, j3, j4⟩ := hI
  have f19 : F' 121 19 = nI len := by rw [j3.2 19 (by omega), e19]
  unfold wb_X12_readPlan_11
  rw [f19]
  rcases j4 with ⟨rfl, l1, l2, l3⟩ | ⟨rfl, l1, l2⟩
  · rcases Nat.lt_or_ge j len with hj | hj
    · obtain ⟨m, em⟩ : ∃ m, len - j = m + 1 := ⟨len - j - 1, by omega⟩
      rw [em] at l3
      refine if_n (nI_ge hj (by omega)) (if_n t10 ⟨vp_in_nI (by omega) (by omega), ?_⟩)
      have f134 : F' 134 j = nI (cs j) := by rw [j3.1 134 (by omega) (by omega), (hcs j hj).1]
      rw [nI_clamp (by omega), f134]
      refine m_next (hcs j hj).2 l1 l2 (fun hn G g1 => if_y rfl (if_y rfl ?_)) (fun s' X' G hs g1 g2 g3 => ?_)
      · rw [rdL_n hn] at l3
        unfold wp_X12_readPlan_58
        refine if_y rfl (hK _ _ _ _ ⟨j, X, st, by simp, j1, rfl, j2, ⟨fun q a b => by rw [g1.1 q a b, j3.1 q a b], fun k hk => by rw [g1.2 k hk, j3.2 k hk]⟩, Or.inr ⟨rfl, by rw [← l3], hj⟩⟩ ?_)
        show (if (0 : Int32) = 0 then 0 else _) < (if (1 : Int32) = 0 then 0 else _)
        rw [if_pos rfl, if_neg t10]; omega
      · rw [rdL_s hs] at l3
        have hs11 : s' ≤ 11 := by obtain ⟨_, _, _, _, _, _, _, q⟩ := g1; omega
        refine if_n (nI_m1 (by omega)) (if_n t10 ?_)
        unfold wp_X12_readPlan_58
        have em2 : len - (j + 1) = m := by omega
        refine if_n t10 (hK _ _ _ _ ⟨j + 1, X', s', nI_1 j, hj, rfl, hs11, ⟨fun q a b => by rw [g3.1 q a b, j3.1 q a b], fun k hk => by rw [g3.2 k hk, j3.2 k hk]⟩, Or.inl ⟨rfl, g1, g2, by rw [em2]; exact l3⟩⟩ ?_)
        show (if (1 : Int32) = 0 then 0 else len - (nI j + 1).toNatClampNeg + 1) < (if (1 : Int32) = 0 then 0 else len - (nI j).toNatClampNeg + 1)
        rw [if_neg t10, if_neg t10, nI_1, nI_clamp (by omega), nI_clamp (by omega)]; omega
    · have ej : j = len := by omega
      subst ej
      rw [Nat.sub_self] at l3
      have l3' : (j, X) = Rf := l3
      subst l3'
      exact if_y (nI_le (Nat.le_refl _) (by omega)) (k74 F' st j j3 rfl (fun _ => ⟨l1, l2⟩) j2)
  · refine if_n (nI_ge l2 (by omega)) (if_y rfl (k74 F' st j j3 l1 (fun z => absurd z (by omega)) j2))
theorem T_fault {i : Nat} {x : Int32} {F : gS} (h : Inv i F) : wp_X11_fault x F (fun r G => wp_X12_fault x G (fun r' H => r = r' ∧ Inv (i + 1) H)) := by
  have hI := h
  obtain ⟨P, p, np, nc, c, len, s, h1, h2, h3, h4, h5, h6, h7⟩ := h
  have hcs := cs_ok h6
  obtain ⟨p1, p2, p3, p4⟩ := h6
  unfold wp_X11_fault
  by_cases w : wtB x 0 1 = true
  · refine wx_y w (if_n t10 (if_c (fun z => ?_) (fun z => ?_)))
    · refine s_readP (cs := csF F) p1 p2 (fun j hj => ⟨(hcs j hj).1, (hcs j hj).2.2⟩) (fun G g1 g2 g3 => ?_)
      have gm : ∀ q, 6 ≤ q → G q = F q := fun q hq => g1 q (by omega) (by omega) (by omega)
      unfold wp_X12_fault
      refine wm_y w (if_n t10 (if_y z ?_))
      refine m_readP (cs := csF F) (len := len) p1 (by rw [gm _ (by omega), p3]) (fun j hj => ⟨by rw [gm _ (by omega)]; exact (hcs j hj).2.1, (hcs j hj).2.2⟩) (fun H k1 k2 k3 k4 k5 k6 => ⟨k3.symm, Inv_tr (fun q k u => ?_) (by omega) hI⟩)
      unfold uA at u
      by_cases y : q = 121
      · subst y; rw [k2 k (by omega), gm _ (by omega)]
      · rw [k1 q y (by omega) (by omega), g1 q (by omega) (by omega) (by omega)]
    · refine s_readL (cs := csF F) p1 p2 (fun j hj => ⟨(hcs j hj).1, (hcs j hj).2.2⟩) (fun G g1 g2 g3 => ?_)
      have gm : ∀ q, 9 ≤ q → G q = F q := fun q hq => g1 q (by omega) (by omega) (by omega)
      unfold wp_X12_fault
      refine wm_y w (if_n t10 (if_n z ?_))
      refine m_readL (cs := csF F) (len := len) p1 (by rw [gm _ (by omega), p3]) (fun j hj => ⟨by rw [gm _ (by omega)]; exact (hcs j hj).2.1, (hcs j hj).2.2⟩) (fun H k1 k2 k3 k4 k5 => ⟨k3.symm, Inv_tr (fun q k u => ?_) (by omega) hI⟩)
      unfold uA at u
      by_cases y : q = 121
      · subst y; rw [k2 k (by omega), gm _ (by omega)]
      · rw [k1 q y (by omega), g1 q (by omega) (by omega) (by omega)]
  · refine wx_n w (if_y rfl ?_)
    unfold wp_X12_fault
    exact wm_n w (if_y rfl ⟨rfl, Inv_s hI⟩)
theorem s_newPlan {k0 : Nat} {X : XS} {F : gS} {Q : gS → Prop} (hk : 37 ≤ k0 ∧ k0 < 48) (ok : okX X) (hx : LX F X)
    (h : ∀ G, (∀ q, q ≠ k0 → q ≠ k0 + 1 → G q = F q) → AgL G k0 (nI (X.2.1 1), nI (X.2.1 2), X.2.1 3, X.2.1 4, X.2.2.1, X.2.2.2) → Q G) : wp_X7_become k0 F Q := by
  obtain ⟨x1, x2, x3, x4⟩ := hx
  have ne : ∀ (F : gS) (j : Nat) (v : Int32) (q : Nat), q < 37 → (upF F k0 j v) q = F q := fun F j v q hq => upF_ne _ _ _ (by omega)
  have i5 : ∀ k, k < 5 → vp_in (nI k) 5 := fun k hk => vp_in_nI hk (by omega)
  have o3 := ok.2.2
  unfold wp_X7_become
  rw [t1c, t2c, t3c, t4c]
  refine ⟨i5 1 (by omega), i5 2 (by omega), i5 3 (by omega), i5 4 (by omega), ?_⟩
  dsimp only [Nm]
  simp only [ne _ _ _ 7 (by omega), ne _ _ _ 6 (by omega), ne _ _ _ 8 (by omega)]
  rw [cpy_pt, x2 1 (by omega), x2 2 (by omega), x2 3 (by omega), x2 4 (by omega), x3]
  refine h _ (fun q h1 h2 => ?_) ⟨?_, ?_, ?_, ?_, ?_, fun i hi => ?_⟩
  · rw [upR_ne _ _ h2, upF_ne _ _ _ h1, upF_ne _ _ _ h1, upF_ne _ _ _ h1, upF_ne _ _ _ h1, upF_ne _ _ _ h1]
  · rw [upR_ne _ _ (by omega), upF_eq, pk_un (by omega), upF_eq, pk_un (by omega), upF_eq, pk_un (by omega), upF_eq, pk_un (by omega), upF_eq, pk_us]
  · rw [upR_ne _ _ (by omega), upF_eq, pk_un (by omega), upF_eq, pk_un (by omega), upF_eq, pk_un (by omega), upF_eq, pk_us]
  · rw [upR_ne _ _ (by omega), upF_eq, pk_un (by omega), upF_eq, pk_un (by omega), upF_eq, pk_us]
  · rw [upR_ne _ _ (by omega), upF_eq, pk_un (by omega), upF_eq, pk_us]
  · rw [upR_ne _ _ (by omega), upF_eq, pk_us]
  · have hi' : i < X.2.2.1 := hi
    rw [upR_eq, pt_lt _ _ (by omega), x4 i hi']
