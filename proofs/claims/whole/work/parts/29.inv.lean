/-! what couples the two sides between calls -/
def MpL (F : gS) (i : Nat) (L : Pl) : Prop := F 126 i = L.1 ∧ F 127 i = L.2.1 ∧ F 128 i = nI L.2.2.1 ∧ F 129 i = nI L.2.2.2.1 ∧ F 130 i = nI L.2.2.2.2.1 ∧ ∀ j, j < L.2.2.2.2.1 → F 131 (6 * i + j) = L.2.2.2.2.2 j
def IPan (F : gS) (P : Pn) (p i : Nat) : Prop := AgP F P ∧ MgP F P ∧ F 0 14 = nI p ∧ F 121 2 = nI p ∧ p ≤ i ∧ ((p = 0 ∧ P.1 = 0 ∧ P.2.1 = 0) ∨ (1 ≤ p ∧ okP P))
def IPl (F : gS) (np : Nat) : Prop := np ≤ 6 ∧ F 0 10 = nI np ∧ F 121 8 = nI np ∧ ∀ i, i < np → ∃ L, okL L ∧ AgL F (37 + 2 * i) L ∧ MpL F i L
def ICk (F : gS) (P : Pn) (nc : Nat) : Prop := nc ≤ 24 ∧ F 0 11 = nI nc ∧ F 121 15 = nI nc ∧ ∀ i, i < nc → (∀ k, k < 7 → F (49 + 3 * i + 2) k = F 132 (7 * i + k)) ∧ (∀ j, j < nn P → F (49 + 3 * i + 1) j = F 133 (16 * i + j)) ∧ sm 5 (F (49 + 3 * i + 2) 0)
def ICd (F : gS) (P : Pn) (c : Cd) : Prop := AgC F 26 P c ∧ (∀ j, j < nn P → F 124 j = c.1 j) ∧ (∀ j, j < nn P → F 125 j = c.2.1 j) ∧ F 121 7 = c.2.2 ∧ okC P c ∧ (∀ j, nn P ≤ j → j < 16 → F 28 j = 0)
def IKy (F : gS) (P : Pn) (p nc : Nat) (kc : Cd) (ks : Nat) : Prop := F 0 13 = 1 ∧ F 121 21 = 1 ∧ F 121 22 = nI p ∧ AgC F 29 P kc ∧ (∀ j, j < nn P → F 135 j = kc.1 j) ∧ (∀ j, j < nn P → F 136 j = kc.2.1 j) ∧ F 121 23 = kc.2.2 ∧ okC P kc ∧ (∀ j, nn P ≤ j → j < 16 → F 31 j = 0) ∧ ks ≤ nc ∧ F 0 12 = nI ks ∧ F 121 24 = nI ks
def IKn (F : gS) (p : Nat) : Prop := F 0 13 = 0 ∧ (F 121 21 = 0 ∨ ∃ kp : Nat, kp < p ∧ F 121 22 = nI kp)
def IKp (F : gS) (P : Pn) (p nc : Nat) : Prop := IKn F p ∨ ∃ kc ks, IKy F P p nc kc ks
def IPg (F : gS) (len : Nat) : Prop := len ≤ 40 ∧ F 1 1 = nI len ∧ F 121 19 = nI len ∧ ∀ j, j < len → F 2 j = F 134 j ∧ sm 126 (F 2 j)
def ISe (F : gS) (s : Nat) : Prop := s ≤ 30 ∧ F 0 15 = nI s ∧ F 121 18 = nI s
def Inv (i : Nat) (F : gS) : Prop := ∃ P p np nc c len s, IPan F P p i ∧ IPl F np ∧ ICk F P nc ∧ ICd F P c ∧ IKp F P p nc ∧ IPg F len ∧ ISe F s
/-! pieces stay where their places stay -/
def uPan (q j : Nat) : Prop := (q = 9 ∨ q = 10 ∨ q = 11 ∨ q = 122 ∨ q = 123) ∨ (q = 0 ∧ j = 14) ∨ (q = 121 ∧ (j = 0 ∨ j = 1 ∨ j = 2))
def uPl (q j : Nat) : Prop := (37 ≤ q ∧ q ≤ 48) ∨ (126 ≤ q ∧ q ≤ 131) ∨ (q = 0 ∧ j = 10) ∨ (q = 121 ∧ j = 8)
def uCk (q j : Nat) : Prop := (49 ≤ q ∧ q ≤ 120) ∨ q = 132 ∨ q = 133 ∨ (q = 0 ∧ j = 11) ∨ (q = 121 ∧ j = 15)
def uCd (q j : Nat) : Prop := q = 26 ∨ q = 27 ∨ q = 28 ∨ q = 124 ∨ q = 125 ∨ (q = 121 ∧ j = 7)
def uKp (q j : Nat) : Prop := q = 29 ∨ q = 30 ∨ q = 31 ∨ q = 135 ∨ q = 136 ∨ (q = 0 ∧ (j = 12 ∨ j = 13)) ∨ (q = 121 ∧ (j = 21 ∨ j = 22 ∨ j = 23 ∨ j = 24))
def uPg (q j : Nat) : Prop := q = 1 ∨ q = 2 ∨ q = 134 ∨ (q = 121 ∧ j = 19)
def uSe (q j : Nat) : Prop := (q = 0 ∧ j = 15) ∨ (q = 121 ∧ j = 18)
theorem AgP_tr {F G : gS} {P : Pn} (e : ∀ q j, (q = 9 ∨ q = 10 ∨ q = 11) → G q j = F q j) (h : AgP F P) : AgP G P := by
  obtain ⟨h1, h2, h3, h4, h5⟩ := h
  exact ⟨by rw [e 9 2 (by omega), h1], by rw [e 9 3 (by omega), h2], by rw [e 9 4 (by omega), h3], fun j hj => by rw [e 10 j (by omega), h4 j hj], fun j hj => by rw [e 11 j (by omega), h5 j hj]⟩
theorem MgP_tr {F G : gS} {P : Pn} (e : ∀ q j, (q = 122 ∨ q = 123 ∨ (q = 121 ∧ j ≤ 1)) → G q j = F q j) (h : MgP F P) : MgP G P := by
  obtain ⟨h1, h2, h4, h5⟩ := h
  exact ⟨by rw [e 121 0 (by omega), h1], by rw [e 121 1 (by omega), h2], fun j hj => by rw [e 122 j (by omega), h4 j hj], fun j hj => by rw [e 123 j (by omega), h5 j hj]⟩
theorem AgL_tr {F G : gS} {k : Nat} {L : Pl} (e : ∀ q j, (q = k ∨ q = k + 1) → G q j = F q j) (h : AgL F k L) : AgL G k L := by
  obtain ⟨h1, h2, h3, h4, h5, h6⟩ := h
  exact ⟨by rw [e k 1 (by omega), h1], by rw [e k 2 (by omega), h2], by rw [e k 3 (by omega), h3], by rw [e k 4 (by omega), h4], by rw [e k 5 (by omega), h5], fun i hi => by rw [e (k + 1) i (by omega), h6 i hi]⟩
theorem AgC_tr {F G : gS} {k : Nat} {P : Pn} {c : Cd} (e : ∀ q j, (q = k ∨ q = k + 1 ∨ q = k + 2) → G q j = F q j) (h : AgC F k P c) : AgC G k P c := by
  obtain ⟨h1, h2, h3⟩ := h
  exact ⟨fun j hj => by rw [e (k + 1) j (by omega), h1 j hj], fun j hj => by rw [e (k + 2) j (by omega), h2 j hj], by rw [e k 2 (by omega), h3]⟩
theorem IPan_tr {F G : gS} {P : Pn} {p i i' : Nat} (e : ∀ q j, uPan q j → G q j = F q j) (hi : i ≤ i') (h : IPan F P p i) : IPan G P p i' := by
  obtain ⟨h1, h2, h3, h4, h5, h6⟩ := h
  exact ⟨AgP_tr (fun q j u => e q j (by unfold uPan; omega)) h1, MgP_tr (fun q j u => e q j (by unfold uPan; omega)) h2, by rw [e 0 14 (by unfold uPan; omega), h3], by rw [e 121 2 (by unfold uPan; omega), h4], by omega, h6⟩
theorem IPl_tr {F G : gS} {np : Nat} (e : ∀ q j, uPl q j → G q j = F q j) (h : IPl F np) : IPl G np := by
  obtain ⟨h1, h2, h3, h4⟩ := h
  refine ⟨h1, by rw [e 0 10 (by unfold uPl; omega), h2], by rw [e 121 8 (by unfold uPl; omega), h3], fun i hi => ?_⟩
  obtain ⟨L, l1, l2, m1, m2, m3, m4, m5, m6⟩ := h4 i hi
  exact ⟨L, l1, AgL_tr (fun q j u => e q j (by unfold uPl; omega)) l2, by rw [e 126 i (by unfold uPl; omega), m1], by rw [e 127 i (by unfold uPl; omega), m2], by rw [e 128 i (by unfold uPl; omega), m3], by rw [e 129 i (by unfold uPl; omega), m4], by rw [e 130 i (by unfold uPl; omega), m5], fun j hj => by rw [e 131 _ (by unfold uPl; omega), m6 j hj]⟩
theorem ICk_tr {F G : gS} {P : Pn} {nc : Nat} (e : ∀ q j, uCk q j → G q j = F q j) (h : ICk F P nc) : ICk G P nc := by
  obtain ⟨h1, h2, h3, h4⟩ := h
  refine ⟨h1, by rw [e 0 11 (by unfold uCk; omega), h2], by rw [e 121 15 (by unfold uCk; omega), h3], fun i hi => ?_⟩
  obtain ⟨k1, k2, k3⟩ := h4 i hi
  exact ⟨fun k hk => by rw [e _ k (by unfold uCk; omega), e 132 _ (by unfold uCk; omega), k1 k hk], fun j hj => by rw [e _ j (by unfold uCk; omega), e 133 _ (by unfold uCk; omega), k2 j hj], by rw [e _ 0 (by unfold uCk; omega)]; exact k3⟩
theorem ICd_tr {F G : gS} {P : Pn} {c : Cd} (e : ∀ q j, uCd q j → G q j = F q j) (h : ICd F P c) : ICd G P c := by
  obtain ⟨h1, h2, h3, h4, h5, h6⟩ := h
  exact ⟨AgC_tr (fun q j u => e q j (by unfold uCd; omega)) h1, fun j hj => by rw [e 124 j (by unfold uCd; omega), h2 j hj], fun j hj => by rw [e 125 j (by unfold uCd; omega), h3 j hj], by rw [e 121 7 (by unfold uCd; omega), h4], h5, fun j h7 h8 => by rw [e 28 j (by unfold uCd; omega), h6 j h7 h8]⟩
theorem IKy_tr {F G : gS} {P : Pn} {p nc nc' ks : Nat} {kc : Cd} (e : ∀ q j, uKp q j → G q j = F q j) (hn : nc ≤ nc') (h : IKy F P p nc kc ks) : IKy G P p nc' kc ks := by
  obtain ⟨h1, h2, h3, h4, h5, h6, h7, h8, h9, h10, h11, h12⟩ := h
  exact ⟨by rw [e 0 13 (by unfold uKp; omega), h1], by rw [e 121 21 (by unfold uKp; omega), h2], by rw [e 121 22 (by unfold uKp; omega), h3], AgC_tr (fun q j u => e q j (by unfold uKp; omega)) h4, fun j hj => by rw [e 135 j (by unfold uKp; omega), h5 j hj], fun j hj => by rw [e 136 j (by unfold uKp; omega), h6 j hj], by rw [e 121 23 (by unfold uKp; omega), h7], h8, fun j q1 q2 => by rw [e 31 j (by unfold uKp; omega), h9 j q1 q2], by omega, by rw [e 0 12 (by unfold uKp; omega), h11], by rw [e 121 24 (by unfold uKp; omega), h12]⟩
theorem IKp_tr {F G : gS} {P : Pn} {p nc nc' : Nat} (e : ∀ q j, uKp q j → G q j = F q j) (hn : nc ≤ nc') (h : IKp F P p nc) : IKp G P p nc' := by
  rcases h with ⟨h1, h2⟩ | ⟨kc, ks, h⟩
  · refine Or.inl ⟨by rw [e 0 13 (by unfold uKp; omega), h1], ?_⟩
    rw [e 121 21 (by unfold uKp; omega), e 121 22 (by unfold uKp; omega)]; exact h2
  · exact Or.inr ⟨kc, ks, IKy_tr e hn h⟩
theorem IPg_tr {F G : gS} {len : Nat} (e : ∀ q j, uPg q j → G q j = F q j) (h : IPg F len) : IPg G len := by
  obtain ⟨h1, h2, h3, h4⟩ := h
  exact ⟨h1, by rw [e 1 1 (by unfold uPg; omega), h2], by rw [e 121 19 (by unfold uPg; omega), h3], fun j hj => by rw [e 2 j (by unfold uPg; omega), e 134 j (by unfold uPg; omega)]; exact h4 j hj⟩
theorem ISe_tr {F G : gS} {s : Nat} (e : ∀ q j, uSe q j → G q j = F q j) (h : ISe F s) : ISe G s := by
  obtain ⟨h1, h2, h3⟩ := h
  exact ⟨h1, by rw [e 0 15 (by unfold uSe; omega), h2], by rw [e 121 18 (by unfold uSe; omega), h3]⟩
/-- places that count between calls -/
def uA (q j : Nat) : Prop := (q ≤ 2 ∨ (9 ≤ q ∧ q ≤ 11) ∨ (26 ≤ q ∧ q ≤ 31) ∨ (37 ≤ q ∧ q ≤ 120) ∨ (122 ≤ q ∧ q ≤ 136)) ∨ (q = 121 ∧ (j ≤ 2 ∨ j = 7 ∨ j = 8 ∨ j = 15 ∨ j = 18 ∨ j = 19 ∨ j = 21 ∨ j = 22 ∨ j = 23 ∨ j = 24))
theorem Inv_tr {F G : gS} {i i' : Nat} (e : ∀ q j, uA q j → G q j = F q j) (hi : i ≤ i') (h : Inv i F) : Inv i' G := by
  obtain ⟨P, p, np, nc, c, len, s, h1, h2, h3, h4, h5, h6, h7⟩ := h
  exact ⟨P, p, np, nc, c, len, s, IPan_tr (fun q j u => e q j (by unfold uPan at u; unfold uA; omega)) hi h1, IPl_tr (fun q j u => e q j (by unfold uPl at u; unfold uA; omega)) h2, ICk_tr (fun q j u => e q j (by unfold uCk at u; unfold uA; omega)) h3, ICd_tr (fun q j u => e q j (by unfold uCd at u; unfold uA; omega)) h4, IKp_tr (fun q j u => e q j (by unfold uKp at u; unfold uA; omega)) (Nat.le_refl _) h5, IPg_tr (fun q j u => e q j (by unfold uPg at u; unfold uA; omega)) h6, ISe_tr (fun q j u => e q j (by unfold uSe at u; unfold uA; omega)) h7⟩
theorem Inv_s {F : gS} {i : Nat} (h : Inv i F) : Inv (i + 1) F := Inv_tr (fun _ _ _ => rfl) (by omega) h
/-! ranges -/
theorem wtB_iff {x a b : Int32} : wtB x a b = true ↔ a ≤ x ∧ x ≤ b := by
  unfold wtB
  by_cases h1 : x < a
  · rw [if_pos h1]
    exact ⟨fun q => absurd q (by decide), fun q => absurd q.1 (Int32.not_le.mpr h1)⟩
  · rw [if_neg h1]
    by_cases h2 : b < x
    · rw [if_pos h2]
      exact ⟨fun q => absurd q (by decide), fun q => absurd q.2 (Int32.not_le.mpr h2)⟩
    · rw [if_neg h2]
      exact ⟨fun _ => ⟨Int32.not_lt.mp h1, Int32.not_lt.mp h2⟩, fun _ => rfl⟩
theorem wt_rng {x : Int32} {a b : Nat} (hb : b < 2 ^ 31) (hab : a ≤ b) (h : wtB x (nI a) (nI b) = true) : ∃ j : Nat, a ≤ j ∧ j ≤ b ∧ x = nI j := by
  obtain ⟨h1, h2⟩ := wtB_iff.mp h
  have h0 : ¬ x < 0 := Int32.not_lt.mpr (Int32.le_trans (nI_pos' (by omega)) h1)
  obtain ⟨j, hj, rfl⟩ := nI_of2 (nI_toInt hb) h0 h2
  exact ⟨j, (nI_leI (by omega) (by omega)).mp h1, hj, rfl⟩
theorem wt_cnt {x : Int32} {n : Nat} (hn : n < 2 ^ 31) (h : wtB x 0 (nI n - 1) = true) : ∃ j : Nat, j < n ∧ x = nI j := by
  obtain ⟨h1, h2⟩ := wtB_iff.mp h
  rcases Nat.eq_zero_or_pos n with q | q
  · subst q
    have e : nI 0 - 1 = -1 := by decide
    rw [e] at h2
    exact absurd (Int32.le_trans h1 h2) (by decide)
  · obtain ⟨m, rfl⟩ : ∃ m, n = m + 1 := ⟨n - 1, by omega⟩
    rw [nI_pred] at h2
    obtain ⟨j, hj, rfl⟩ := nI_of2 (nI_toInt (by omega)) (Int32.not_lt.mpr h1) h2
    exact ⟨j, by omega, rfl⟩
theorem wx_y {x a b : Int32} {F : gS} {Q : Int32 → Prop} (h : wtB x a b = true) (q : Q 1) : wp_X11_within x a b F Q := wt_i (by rw [if_pos h]; exact q)
theorem wx_n {x a b : Int32} {F : gS} {Q : Int32 → Prop} (h : ¬ wtB x a b = true) (q : Q 0) : wp_X11_within x a b F Q := wt_i (by rw [if_neg h]; exact q)
theorem wm_y {x a b : Int32} {F : gS} {Q : Int32 → Prop} (h : wtB x a b = true) (q : Q 1) : wp_X12_within x a b F Q := wt_m (by rw [if_pos h]; exact q)
theorem wm_n {x a b : Int32} {F : gS} {Q : Int32 → Prop} (h : ¬ wtB x a b = true) (q : Q 0) : wp_X12_within x a b F Q := wt_m (by rw [if_neg h]; exact q)
theorem t10 : ¬ (1 : Int32) = 0 := by decide
/-- there is a pan, or there is none -/
theorem pan_or {F : gS} {P : Pn} {p i : Nat} (hi : i < 2 ^ 20) (h : IPan F P p i) : (p = 0 ∧ nn P = 0 ∧ F 9 2 ≤ 0 ∧ F 121 2 = 0) ∨ (okP P ∧ 4 ≤ nn P ∧ nn P ≤ 16 ∧ ¬ F 9 2 ≤ 0 ∧ ¬ F 121 2 = 0 ∧ 1 ≤ p) := by
  obtain ⟨h1, h2, h3, h4, h5, h6⟩ := h
  rcases h6 with ⟨z, z1, z2⟩ | ⟨z, z1⟩
  · have e : nn P = 0 := by unfold nn; rw [z1]; omega
    refine Or.inl ⟨z, e, ?_, by rw [h4, z]; rfl⟩
    rw [h1.1, e]; decide
  · have h16 : nn P ≤ 16 := RC16 z1.1 z1.2.1
    have h44 : 2 * 2 ≤ P.1 * P.2.1 := Nat.mul_le_mul z1.2.2.1 z1.2.2.2.1
    have h4' : 4 ≤ nn P := h44
    exact Or.inr ⟨z1, h4', h16, by rw [h1.1]; exact nI_nle (by omega) (by omega), by rw [h4]; exact nI_ne0 (by omega) (by omega), z⟩
theorem x_panN {F : gS} {Q : Int32 → Prop} (h : F 9 2 ≤ 0) (q : Q 0) : wp_X11_hasPan F Q := if_y h q
theorem x_panY {F : gS} {Q : Int32 → Prop} (h : ¬ F 9 2 ≤ 0) (q : Q 1) : wp_X11_hasPan F Q := if_n h q
theorem isPlanB {F : gS} {np : Nat} (h : IPl F np) (x : Int32) : (¬ wtB x 0 (F 0 10 - 1) = true ∧ ¬ wtB x 0 (F 121 8 - 1) = true) ∨ (wtB x 0 (F 0 10 - 1) = true ∧ wtB x 0 (F 121 8 - 1) = true ∧ ∃ j : Nat, j < np ∧ x = nI j) := by
  obtain ⟨h1, h2, h3, h4⟩ := h
  rw [h2, h3]
  by_cases q : wtB x 0 (nI np - 1) = true
  · exact Or.inr ⟨q, q, wt_cnt (by omega) q⟩
  · exact Or.inl ⟨q, q⟩
/-! the simple calls -/
theorem T_blank {i : Nat} {F : gS} (h : Inv i F) : wp_X11_blank F (fun r G => wp_X12_blank G (fun r' H => r = r' ∧ Inv (i + 1) H)) := by
  obtain ⟨P, p, np, nc, c, len, s, h1, h2, h3, h4, h5, h6, h7⟩ := h
  have key : ∀ q j, ¬ (q = 1 ∧ j = 1) → ¬ (q = 121 ∧ j = 19) → (upF (upF F 1 1 0) 121 19 0) q j = F q j := by
    intro q j n1 n2
    by_cases q1 : q = 121
    · subst q1; rw [upF_eq, pk_un (by omega), upF_ne _ _ _ (by omega)]
    · rw [upF_ne _ _ _ q1]
      by_cases q2 : q = 1
      · subst q2; rw [upF_eq, pk_un (by omega)]
      · rw [upF_ne _ _ _ q2]
  refine ⟨?_, P, p, np, nc, c, 0, s, IPan_tr (fun q j u => key q j (by unfold uPan at u; omega) (by unfold uPan at u; omega)) (by omega) h1, IPl_tr (fun q j u => key q j (by unfold uPl at u; omega) (by unfold uPl at u; omega)) h2, ICk_tr (fun q j u => key q j (by unfold uCk at u; omega) (by unfold uCk at u; omega)) h3, ICd_tr (fun q j u => key q j (by unfold uCd at u; omega) (by unfold uCd at u; omega)) h4, IKp_tr (fun q j u => key q j (by unfold uKp at u; omega) (by unfold uKp at u; omega)) (Nat.le_refl _) h5, ⟨by omega, ?_, ?_, fun j hj => by omega⟩, ISe_tr (fun q j u => key q j (by unfold uSe at u; omega) (by unfold uSe at u; omega)) h7⟩
  · show F 1 1 = (upF F 1 1 0) 121 19
    rw [upF_ne _ _ _ (by omega), h6.2.1, h6.2.2.1]
  · rw [upF_ne _ _ _ (by omega), upF_eq, pk_us]; rfl
  · rw [upF_eq, pk_us]; rfl
theorem T_fat {i : Nat} {x : Int32} {F : gS} (hi : i < 2 ^ 20) (h : Inv i F) : wp_X11_fat x F (fun r G => wp_X12_fat x G (fun r' H => r = r' ∧ Inv (i + 1) H)) := by
  have hI := h
  obtain ⟨P, p, np, nc, c, len, s, h1, h2, h3, h4, h5, h6, h7⟩ := h
  unfold wp_X11_fat
  rcases pan_or hi h1 with ⟨z1, z2, z3, z4⟩ | ⟨z1, z2, z3, z4, z5, z6⟩
  · exact x_panN z3 (if_y rfl (if_y z4 ⟨rfl, Inv_s hI⟩))
  · refine x_panY z4 (if_n t10 ?_)
    by_cases w : wtB x 0 9 = true
    · refine wx_y w (if_n t10 ?_)
      obtain ⟨a, a1, a2, rfl⟩ := wt_rng (a := 0) (b := 9) (by omega) (by omega) w
      unfold wp_X12_fat
      have e2 : (upF F 26 2 (nI a)) 121 = F 121 := upF_ne _ _ _ (by omega)
      dsimp only [Nm]
      rw [e2]
      refine if_n z5 (wm_y w (if_n t10 ?_))
      have key : ∀ q j, ¬ (q = 26 ∧ j = 2) → ¬ (q = 121 ∧ j = 7) → (upF (upF F 26 2 (nI a)) 121 7 (nI a)) q j = F q j := by
        intro q j n1 n2
        by_cases q1 : q = 121
        · subst q1; rw [upF_eq, pk_un (by omega), upF_ne _ _ _ (by omega)]
        · rw [upF_ne _ _ _ q1]
          by_cases q2 : q = 26
          · subst q2; rw [upF_eq, pk_un (by omega)]
          · rw [upF_ne _ _ _ q2]
      obtain ⟨c1, c2, c3, c4, c5, c6⟩ := h4
      refine ⟨by rw [c1.2.2, c4], P, p, np, nc, (c.1, c.2.1, nI a), len, s, IPan_tr (fun q j u => key q j (by unfold uPan at u; omega) (by unfold uPan at u; omega)) (by omega) h1, IPl_tr (fun q j u => key q j (by unfold uPl at u; omega) (by unfold uPl at u; omega)) h2, ICk_tr (fun q j u => key q j (by unfold uCk at u; omega) (by unfold uCk at u; omega)) h3, ⟨⟨fun j hj => ?_, fun j hj => ?_, ?_⟩, fun j hj => ?_, fun j hj => ?_, ?_, ⟨c5.1, ⟨a, a2, rfl⟩⟩, fun j j1 j2 => ?_⟩, IKp_tr (fun q j u => key q j (by unfold uKp at u; omega) (by unfold uKp at u; omega)) (Nat.le_refl _) h5, IPg_tr (fun q j u => key q j (by unfold uPg at u; omega) (by unfold uPg at u; omega)) h6, ISe_tr (fun q j u => key q j (by unfold uSe at u; omega) (by unfold uSe at u; omega)) h7⟩
      · rw [key _ _ (by omega) (by omega), c1.1 j hj]
      · rw [key _ _ (by omega) (by omega), c1.2.1 j hj]
      · rw [upF_ne _ _ _ (by omega), upF_eq, pk_us]
      · rw [key _ _ (by omega) (by omega), c2 j hj]
      · rw [key _ _ (by omega) (by omega), c3 j hj]
      · rw [upF_eq, pk_us]
      · rw [key _ _ (by omega) (by omega), c6 j j1 j2]
    · refine wx_n w (if_y rfl ?_)
      unfold wp_X12_fat
      exact if_n z5 (wm_n w (if_y rfl ⟨rfl, Inv_s hI⟩))
