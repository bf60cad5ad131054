/-! one letter of a plan, the other side -/
def lkS (s : Nat) (X : XS) : Prop := X.2.2.1 ≤ 6 ∧ X.2.1 0 = 0 ∧ (∀ k, X.1 < k → k < 5 → X.2.1 k = 0) ∧ (2 ≤ X.1 → 1 ≤ X.2.1 1 ∧ X.2.1 1 ≤ 9) ∧ (3 ≤ X.1 → 1 ≤ X.2.1 2 ∧ X.2.1 2 ≤ 60) ∧ (4 ≤ X.1 → 1 ≤ X.2.1 3 ∧ X.2.1 3 ≤ 60) ∧ (X.1 < 2 → X.2.2.1 = 0) ∧
  ((s = 0 ∧ X.1 = 0) ∨ (s = 1 ∧ X.1 = 1 ∧ X.2.1 1 = 0) ∨ (s = 2 ∧ X.1 = 1 ∧ 1 ≤ X.2.1 1 ∧ X.2.1 1 ≤ 9) ∨ (s = 3 ∧ X.1 = 2 ∧ X.2.1 2 = 0 ∧ X.2.2.1 = 0) ∨ (s = 4 ∧ X.1 = 2 ∧ 1 ≤ X.2.1 2 ∧ X.2.1 2 ≤ 9 ∧ X.2.2.1 = 0) ∨ (s = 5 ∧ X.1 = 2 ∧ 1 ≤ X.2.1 2 ∧ X.2.1 2 ≤ 60 ∧ (10 ≤ X.2.1 2 ∨ 1 ≤ X.2.2.1)) ∨ (s = 6 ∧ X.1 = 3 ∧ X.2.1 3 = 0) ∨ (s = 7 ∧ X.1 = 3 ∧ 1 ≤ X.2.1 3 ∧ X.2.1 3 ≤ 9) ∨ (s = 8 ∧ X.1 = 3 ∧ 10 ≤ X.2.1 3 ∧ X.2.1 3 ≤ 60) ∨ (s = 9 ∧ X.1 = 4 ∧ X.2.1 4 = 0) ∨ (s = 10 ∧ X.1 = 4 ∧ 1 ≤ X.2.1 4 ∧ X.2.1 4 ≤ 9) ∨ (s = 11 ∧ X.1 = 4 ∧ 10 ≤ X.2.1 4 ∧ X.2.1 4 ≤ 60))
def LM (F : gS) (s : Nat) (X : XS) : Prop := (2 ≤ s → F 121 35 = nI (X.2.1 1)) ∧ (4 ≤ s → F 121 36 = nI (X.2.1 2)) ∧ (7 ≤ s → F 121 37 = nI (X.2.1 3)) ∧ (10 ≤ s → F 121 38 = nI (X.2.1 4)) ∧ F 121 39 = nI X.2.2.1 ∧ ∀ j, j < X.2.2.1 → F 139 j = X.2.2.2 j
def frL (F G : gS) : Prop := (∀ q, q ≠ 121 → q ≠ 139 → G q = F q) ∧ (∀ k, (k < 35 ∨ 39 < k) → G 121 k = F 121 k)
theorem frL.rf (F : gS) : frL F F := ⟨fun _ _ _ => rfl, fun _ _ => rfl⟩
theorem frL.up {F : gS} {k : Nat} {v : Int32} (h : 35 ≤ k ∧ k ≤ 39) : frL F (upF F 121 k v) := ⟨fun q a b => upF_ne _ _ _ a, fun j hj => by rw [upF_eq, pk_un (by omega)]⟩
theorem lk_ok {s : Nat} {X : XS} (h : lkS s X) : okX X := by
  obtain ⟨h1, h2, h3, h4, h5, h6, h7, h8⟩ := h
  have hp : X.1 ≤ 4 := by omega
  refine ⟨hp, fun k hk => ?_, h1⟩
  rcases (by omega : k = 0 ∨ k = 1 ∨ k = 2 ∨ k = 3 ∨ k = 4) with rfl | rfl | rfl | rfl | rfl
  · omega
  · rcases Nat.lt_or_ge X.1 1 with q | q
    · have := h3 1 q (by omega); omega
    · omega
  · rcases Nat.lt_or_ge X.1 2 with q | q
    · have := h3 2 q (by omega); omega
    · omega
  · rcases Nat.lt_or_ge X.1 3 with q | q
    · have := h3 3 q (by omega); omega
    · omega
  · rcases Nat.lt_or_ge X.1 4 with q | q
    · have := h3 4 q (by omega); omega
    · omega
theorem tkX_b0 {c : Nat} {X : XS} (hv : X.2.1 X.1 = 0) (hp : X.1 ≠ 0) (h : ¬ (49 ≤ c ∧ c ≤ 57)) : tkX c X none := by
  refine tkX_n (fun q z => ?_) (fun d _ z => ?_) (fun _ _ z => ?_)
  · have := z.1; rw [hv] at this; omega
  · obtain ⟨a, b, e⟩ := z; rw [a] at hv; omega
  · obtain ⟨a, b, e⟩ := z; omega
theorem tkX_b1 {c : Nat} {X : XS} (hv : X.2.1 X.1 = 0) (hm : 9 ≤ mos X.1) (hn : ¬ (X.1 = 2 ∧ 0 < X.2.2.1)) (h : 49 ≤ c ∧ c ≤ 57) : tkX c X (some (X.1, uN X.2.1 X.1 (c - 48), X.2.2.1, X.2.2.2)) := by
  have e : 10 * X.2.1 X.1 + (c - 48) = c - 48 := by rw [hv]; omega
  have := tkX_d (c := c) (X := X) (by omega) ⟨by rw [e]; omega, by rw [e]; omega, hn⟩
  rw [e] at this; exact this
theorem m_wt49 {c : Nat} {F : gS} {Q : Int32 → Prop} (hc : c ≤ 126) (h1 : 49 ≤ c ∧ c ≤ 57 → Q 1) (h0 : ¬ (49 ≤ c ∧ c ≤ 57) → Q 0) : wp_X12_within (nI c) 49 57 F Q := by
  by_cases w : wtB (nI c) 49 57 = true
  · obtain ⟨a, b⟩ := wtB_iff.mp w
    exact wm_y w (h1 ⟨(nI_leI (a := 49) (by omega) (by omega)).mp a, (nI_leI (b := 57) (by omega) (by omega)).mp b⟩)
  · exact wm_n w (h0 (fun z => w (wtB_iff.mpr ⟨nI_le (a := 49) z.1 (by omega), nI_le (b := 57) z.2 (by omega)⟩)))
theorem m_set {w : Nat} {v : Int32} {F : gS} {Q : gS → Prop} (hw : w ≤ 2) (h : Q (upF F 121 (36 + w) v)) : wp_X12_setNumber (nI w) v F Q := by
  unfold wp_X12_setNumber
  rcases (by omega : w = 0 ∨ w = 1 ∨ w = 2) with rfl | rfl | rfl
  · exact if_y (by decide) h
  · exact if_n (by decide) (if_y (by decide) h)
  · exact if_n (by decide) (if_n (by decide) h)
theorem m_num {w : Nat} {F : gS} {Q : Int32 → Prop} (hw : w ≤ 2) (h : Q (F 121 (36 + w))) : wp_X12_number (nI w) F Q := by
  unfold wp_X12_number
  rcases (by omega : w = 0 ∨ w = 1 ∨ w = 2) with rfl | rfl | rfl
  · exact if_y (by decide) h
  · exact if_n (by decide) (if_y (by decide) h)
  · exact if_n (by decide) (if_n (by decide) h)
theorem m_begin {w c : Nat} {F : gS} {Q : Int32 → gS → Prop} (hc : c ≤ 126) (hw : w ≤ 2) (h1 : 49 ≤ c ∧ c ≤ 57 → Q 1 (upF F 121 (36 + w) (nI (c - 48)))) (h0 : ¬ (49 ≤ c ∧ c ≤ 57) → ∀ v, Q 0 (upF F 121 (36 + w) v)) : wp_X12_beginNumber (nI w) (nI c) F Q := by
  unfold wp_X12_beginNumber
  refine m_set hw (m_wt49 hc (fun q => ?_) (fun q => h0 q _))
  have e : nI c - 48 = nI (c - 48) := pk_sub (b := 48) (by omega)
  rw [e]; exact h1 q
theorem m_goOn {w c v : Nat} {F : gS} {Q : Int32 → gS → Prop} (hc : c ≤ 126) (hw : w ≤ 2) (hv : F 121 (36 + w) = nI v) (hv9 : v ≤ 9) (h1 : 48 ≤ c ∧ c ≤ 57 → 10 * v + (c - 48) ≤ 60 → Q 1 (upF F 121 (36 + w) (nI (10 * v + (c - 48))))) (h0 : (48 ≤ c ∧ c ≤ 57 → ¬ 10 * v + (c - 48) ≤ 60) → Q 0 F) : wp_X12_goOnNumber (nI w) (nI c) F Q := by
  have k0 : (48 ≤ c ∧ c ≤ 57 → ¬ 10 * v + (c - 48) ≤ 60) → wp_X12_goOnNumber_30 Q F (nI w) (nI c) 0 := by
    intro z
    unfold wp_X12_goOnNumber_30
    refine if_y rfl (m_num hw (m_set hw ⟨Or.inl rfl, ?_⟩))
    rw [upF_self rfl]; exact h0 z
  unfold wp_X12_goOnNumber
  refine m_digit (by omega) (fun q => ?_) (fun q => if_y rfl (k0 (fun z => absurd z q)))
  have e : 10 * nI v + nI c - 48 = nI (10 * v + (c - 48)) := by
    have z1 : 10 * nI v = nI (10 * v) := pk_mul 10 v
    have z2 : nI (10 * v + c) - 48 = nI (10 * v + c - 48) := pk_sub (b := 48) (by omega)
    rw [z1, nI_add, z2]; congr 1; omega
  refine if_n t10 (m_num hw ?_)
  rw [hv, e]
  refine if_c (fun z => k0 (fun _ => ?_)) (fun z => ?_)
  · have := (nI_ltI (a := 60) (by omega) (by omega)).mp z; omega
  · have z' : 10 * v + (c - 48) ≤ 60 := by
      rcases Nat.lt_or_ge 60 (10 * v + (c - 48)) with y | y
      · exact absurd (nI_lt (a := 60) y (by omega)) z
      · exact y
    unfold wp_X12_goOnNumber_30
    refine if_n t10 (m_num hw ?_)
    rw [hv, e]
    exact m_set hw ⟨Or.inr rfl, h1 q z'⟩
theorem m_swingBy {c : Nat} {F : gS} {Q : Int32 → Prop} (hc : c ≤ 126) (hs : ∀ d, swI c = some d → Q (nI d)) (hn : swI c = none → Q (-1)) : wp_X12_swingBy (nI c) F Q := by
  unfold wp_X12_swingBy
  by_cases q0 : c = 110
  · subst q0; exact if_y rfl (hs 0 rfl)
  by_cases q1 : c = 101
  · subst q1; exact if_n (by decide) (if_y rfl (hs 1 rfl))
  by_cases q2 : c = 115
  · subst q2; exact if_n (by decide) (if_n (by decide) (if_y rfl (hs 2 rfl)))
  by_cases q3 : c = 119
  · subst q3; exact if_n (by decide) (if_n (by decide) (if_n (by decide) (if_y rfl (hs 3 rfl))))
  exact if_n (c_ne (k := 110) (by omega) (by omega) q0) (if_n (c_ne (k := 101) (by omega) (by omega) q1) (if_n (c_ne (k := 115) (by omega) (by omega) q2) (if_n (c_ne (k := 119) (by omega) (by omega) q3) (hn (sw_no ⟨q0, q1, q2, q3⟩)))))
theorem m_after {c s : Nat} {X : XS} {F : gS} {Q : Int32 → gS → Prop} (hc : c ≤ 126) (hs : s = 4 ∨ s = 5) (hlk : lkS s X) (hm : LM F s X) (hnd : 48 ≤ c ∧ c ≤ 57 → ¬ dgX c X) (h0 : tkX c X none → Q (-1) F) (h1 : ∀ s' X' G, tkX c X (some X') → lkS s' X' → LM G s' X' → frL F G → Q (nI s') G) : wp_X12_afterAmount (nI c) F Q := by
  have hlk' := hlk
  obtain ⟨k1, k2, k3, k4, k5, k6, k7, k8⟩ := hlk
  obtain ⟨m1, m2, m3, m4, m5, m6⟩ := hm
  have hp : X.1 = 2 := by omega
  have hv : 1 ≤ X.2.1 2 ∧ X.2.1 2 ≤ 60 := by omega
  have k4' := k4 (by omega)
  have tee : swI c = none ∨ ¬ X.2.2.1 < 6 → (if nI c = 116 then Q 6 F else Q (-1) F) := by
    intro z
    refine if_c (fun y => ?_) (fun y => h0 (tkX_n hnd (fun d hd w => ?_) (fun _ _ w => ?_)))
    · have y' : c = 116 := (nI_eq (b := 116) (by omega) (by omega)).mp y
      subst y'
      refine h1 6 _ F (tkX_g (by omega) (by decide) ⟨by omega, by rw [hp]; rfl, Or.inr (by rw [hp]; exact hv.1)⟩) ⟨k1, k2, fun k a b => k3 k (by have a' : X.1 + 1 < k := a; omega) b, fun _ => k4', fun _ => hv, fun a => absurd (show 4 ≤ X.1 + 1 from a) (by omega), fun a => absurd (show X.1 + 1 < 2 from a) (by omega), ?_⟩ ⟨fun _ => m1 (by omega), fun _ => m2 (by omega), fun a => absurd a (by omega), fun a => absurd a (by omega), m5, m6⟩ (frL.rf F)
      have e3 : X.2.1 3 = 0 := k3 3 (by omega) (by omega)
      exact Or.inr (Or.inr (Or.inr (Or.inr (Or.inr (Or.inr (Or.inl ⟨rfl, by show X.1 + 1 = 3; omega, e3⟩))))))
    · rcases z with z | z
      · rw [z] at hd; cases hd
      · exact z w.2.2
    · obtain ⟨w1, w2, w3⟩ := w
      rw [hp] at w2
      exact y (by rw [w2]; rfl)
  unfold wp_X12_afterAmount
  refine m_swingBy hc (fun d hd => ?_) (fun hn => if_y rfl (tee (Or.inl hn)))
  have hdd := sw_dig hd
  refine if_n (nI_m1 (by omega)) ?_
  rw [m5]
  by_cases z : X.2.2.1 < 6
  · refine if_n (nI_ge (b := 6) z (by omega)) (m_swingBy hc (fun d' hd' => ⟨vp_in_nI z (by omega), ?_⟩) (fun hn => by rw [hn] at hd; cases hd))
    have u39 : ∀ v, (upF F 139 (nI X.2.2.1).toNatClampNeg v) 121 39 = nI X.2.2.1 := fun v => by rw [upF_ne _ _ _ (by omega), m5]
    dsimp only [Nm]
    rw [u39, nI_1, nI_clamp (by omega)]
    refine h1 5 _ _ (tkX_w (by omega) hd' ⟨hp, hv.1, z⟩) ⟨by show X.2.2.1 + 1 ≤ 6; omega, k2, k3, k4, k5, k6, fun a => absurd (show X.1 < 2 from a) (by omega), ?_⟩ ⟨fun _ => ?_, fun _ => ?_, fun a => absurd a (by omega), fun a => absurd a (by omega), ?_, fun j hj => ?_⟩ ⟨fun q a b => by rw [upF_ne _ _ _ a, upF_ne _ _ _ b], fun k hk => by rw [upF_eq, pk_un (by omega), upF_ne _ _ _ (by omega)]⟩
    · exact Or.inr (Or.inr (Or.inr (Or.inr (Or.inr (Or.inl ⟨rfl, hp, hv.1, hv.2, Or.inr (by show 1 ≤ X.2.2.1 + 1; omega)⟩)))))
    · rw [upF_eq, pk_un (by omega), upF_ne _ _ _ (by omega), m1 (by omega)]
    · rw [upF_eq, pk_un (by omega), upF_ne _ _ _ (by omega), m2 (by omega)]
    · rw [upF_eq, pk_us]
    · have hj' : j < X.2.2.1 + 1 := hj
      rw [upF_ne _ _ _ (by omega), upF_eq]
      show upd (F 139) X.2.2.1 (nI d') j = upd X.2.2.2 X.2.2.1 (nI d') j
      by_cases y : j = X.2.2.1
      · rw [y, pk_us, pk_us]
      · rw [pk_un y, pk_un y, m6 j (by omega)]
  · exact if_y (nI_le (a := 6) (by omega) (by omega)) (tee (Or.inr z))
theorem m_next {s c : Nat} {X : XS} {F : gS} {Q : Int32 → gS → Prop} (hc : c ≤ 126) (hlk : lkS s X) (hm : LM F s X) (h0 : tkX c X none → ∀ G, frL F G → Q (-1) G) (h1 : ∀ s' X' G, tkX c X (some X') → lkS s' X' → LM G s' X' → frL F G → Q (nI s') G) : wp_X12_nextPlan (nI s) (nI c) F Q := by
  have hlk' := hlk
  have hm' := hm
  obtain ⟨k1, k2, k3, k4, k5, k6, k7, k8⟩ := hlk
  obtain ⟨m1, m2, m3, m4, m5, m6⟩ := hm
  have u5 : ∀ k v, k ≠ 39 → (upF F 121 k v) 121 39 = nI X.2.2.1 := fun k v hk => by rw [upF_eq, pk_un (by omega), m5]
  have u6 : ∀ k v j, j < X.2.2.1 → (upF F 121 k v) 139 j = X.2.2.2 j := fun k v j hj => by rw [upF_ne _ _ _ (by omega), m6 j hj]
  unfold wp_X12_nextPlan
  rcases k8 with ⟨rfl, hp⟩ | ⟨rfl, hp, hv⟩ | ⟨rfl, hp, hv⟩ | ⟨rfl, hp, hv, hn⟩ | ⟨rfl, hp, hv, hv9, hn⟩ | ⟨rfl, hp, hv, hv9, hn⟩ | ⟨rfl, hp, hv⟩ | ⟨rfl, hp, hv, hv9⟩ | ⟨rfl, hp, hv, hv9⟩ | ⟨rfl, hp, hv⟩ | ⟨rfl, hp, hv, hv9⟩ | ⟨rfl, hp, hv, hv9⟩
  · refine if_y (by decide) (if_c (fun y => ?_) (fun y => h0 (tkX_n (fun q z => ?_) (fun d _ z => ?_) (fun _ _ z => ?_)) F (frL.rf F)))
    · have y' : c = 102 := (nI_eq (b := 102) (by omega) (by omega)).mp y
      subst y'
      have e1 : X.2.1 1 = 0 := k3 1 (by omega) (by omega)
      refine h1 1 _ F (tkX_g (by omega) (by decide) ⟨by omega, by rw [hp]; rfl, Or.inl hp⟩) ⟨k1, k2, fun k a b => k3 k (by have a' : X.1 + 1 < k := a; omega) b, fun a => absurd (show 2 ≤ X.1 + 1 from a) (by omega), fun a => absurd (show 3 ≤ X.1 + 1 from a) (by omega), fun a => absurd (show 4 ≤ X.1 + 1 from a) (by omega), fun _ => k7 (by omega), Or.inr (Or.inl ⟨rfl, by show X.1 + 1 = 1; omega, e1⟩)⟩ ⟨fun a => absurd a (by omega), fun a => absurd a (by omega), fun a => absurd a (by omega), fun a => absurd a (by omega), m5, m6⟩ (frL.rf F)
    · obtain ⟨z1, z2, z3⟩ := z
      have e : mos X.1 = 0 := by rw [hp]; rfl
      omega
    · have := z.1; omega
    · obtain ⟨z1, z2, z3⟩ := z
      rw [hp] at z2; exact y (by rw [z2]; rfl)
  · have hv' : X.2.1 X.1 = 0 := by rw [hp]; exact hv
    have hmo : mos X.1 = 9 := by rw [hp]; rfl
    refine if_n (by decide) (if_y (by decide) (m_wt49 hc (fun q => if_n t10 ?_) (fun q => if_y rfl (h0 (tkX_b0 hv' (by omega) q) _ (frL.up (by omega))))))
    have e : nI c - 48 = nI (c - 48) := pk_sub (b := 48) (by omega)
    rw [e]
    refine h1 2 _ _ (tkX_b1 hv' (by omega) (by omega) q) ⟨k1, ?_, fun k a b => ?_, fun a => absurd (show 2 ≤ X.1 from a) (by omega), fun a => absurd (show 3 ≤ X.1 from a) (by omega), fun a => absurd (show 4 ≤ X.1 from a) (by omega), k7, Or.inr (Or.inr (Or.inl ⟨rfl, hp, ?_, ?_⟩))⟩ ⟨fun _ => ?_, fun a => absurd a (by omega), fun a => absurd a (by omega), fun a => absurd a (by omega), u5 _ _ (by omega), u6 _ _⟩ (frL.up (by omega))
    · show uN X.2.1 X.1 (c - 48) 0 = 0; rw [uN_n (by omega)]; exact k2
    · have a' : X.1 < k := a
      show uN X.2.1 X.1 (c - 48) k = 0; rw [uN_n (by omega)]; exact k3 k a' b
    · show 1 ≤ uN X.2.1 X.1 (c - 48) 1; rw [hp, uN_s]; omega
    · show uN X.2.1 X.1 (c - 48) 1 ≤ 9; rw [hp, uN_s]; omega
    · rw [upF_eq, pk_us]; show _ = nI (uN X.2.1 X.1 (c - 48) 1); rw [hp, uN_s]
  · have hmo : mos X.1 = 9 := by rw [hp]; rfl
    have hv' : X.2.1 X.1 = X.2.1 1 := by rw [hp]
    refine if_n (by decide) (if_n (by decide) (if_y (by decide) (if_c (fun y => ?_) (fun y => h0 (tkX_n (fun q z => ?_) (fun d _ z => ?_) (fun _ _ z => ?_)) F (frL.rf F)))))
    · have y' : c = 97 := (nI_eq (b := 97) (by omega) (by omega)).mp y
      subst y'
      have e1 : X.2.1 2 = 0 := k3 2 (by omega) (by omega)
      refine h1 3 _ F (tkX_g (by omega) (by decide) ⟨by omega, by rw [hp]; rfl, Or.inr (by rw [hp]; exact hv.1)⟩) ⟨k1, k2, fun k a b => k3 k (by have a' : X.1 + 1 < k := a; omega) b, fun _ => hv, fun a => absurd (show 3 ≤ X.1 + 1 from a) (by omega), fun a => absurd (show 4 ≤ X.1 + 1 from a) (by omega), fun a => absurd (show X.1 + 1 < 2 from a) (by omega), Or.inr (Or.inr (Or.inr (Or.inl ⟨rfl, by show X.1 + 1 = 2; omega, e1, k7 (by omega)⟩)))⟩ ⟨fun _ => m1 (by omega), fun a => absurd a (by omega), fun a => absurd a (by omega), fun a => absurd a (by omega), m5, m6⟩ (frL.rf F)
    · obtain ⟨z1, z2, z3⟩ := z
      rw [hv', hmo] at z2; omega
    · have := z.1; omega
    · obtain ⟨z1, z2, z3⟩ := z
      rw [hp] at z2; exact y (by rw [z2]; rfl)
  · have hv' : X.2.1 X.1 = 0 := by rw [hp]; exact hv
    have hmo : mos X.1 = 60 := by rw [hp]; rfl
    refine if_n (by decide) (if_n (by decide) (if_n (by decide) (if_y (by decide) (m_begin (w := 0) hc (by omega) (fun q => if_n t10 ?_) (fun q v => if_y rfl (h0 (tkX_b0 hv' (by omega) q) _ (frL.up (by omega))))))))
    refine h1 4 _ _ (tkX_b1 hv' (by omega) (by omega) q) ⟨k1, ?_, fun k a b => ?_, fun _ => ?_, fun a => absurd (show 3 ≤ X.1 from a) (by omega), fun a => absurd (show 4 ≤ X.1 from a) (by omega), k7, Or.inr (Or.inr (Or.inr (Or.inr (Or.inl ⟨rfl, hp, ?_, ?_, hn⟩))))⟩ ⟨fun _ => ?_, fun _ => ?_, fun a => absurd a (by omega), fun a => absurd a (by omega), u5 _ _ (by omega), u6 _ _⟩ (frL.up (by omega))
    · show uN X.2.1 X.1 (c - 48) 0 = 0; rw [uN_n (by omega)]; exact k2
    · have a' : X.1 < k := a
      show uN X.2.1 X.1 (c - 48) k = 0; rw [uN_n (by omega)]; exact k3 k a' b
    · show 1 ≤ uN X.2.1 X.1 (c - 48) 1 ∧ uN X.2.1 X.1 (c - 48) 1 ≤ 9; rw [uN_n (by omega)]; exact k4 (by omega)
    · show 1 ≤ uN X.2.1 X.1 (c - 48) 2; rw [hp, uN_s]; omega
    · show uN X.2.1 X.1 (c - 48) 2 ≤ 9; rw [hp, uN_s]; omega
    · rw [upF_eq, pk_un (by omega), m1 (by omega)]; show _ = nI (uN X.2.1 X.1 (c - 48) 1); rw [uN_n (by omega)]
    · rw [upF_eq, pk_us]; show _ = nI (uN X.2.1 X.1 (c - 48) 2); rw [hp, uN_s]
  · have hmo : mos X.1 = 60 := by rw [hp]; rfl
    have hv' : X.2.1 X.1 = X.2.1 2 := by rw [hp]
    refine if_n (by decide) (if_n (by decide) (if_n (by decide) (if_n (by decide) (if_y (by decide) (m_goOn (w := 0) (v := X.2.1 2) hc (by omega) (m2 (by omega)) hv9 (fun q z => if_n t10 ?_) (fun z => if_y rfl (m_after hc (Or.inl rfl) hlk' hm' (fun q y => ?_) (fun y => h0 y F (frL.rf F)) h1)))))))
    · have td := tkX_d (c := c) (X := X) q ⟨by rw [hv']; omega, by rw [hv', hmo]; exact z, fun w => by omega⟩
      refine h1 5 _ _ td ⟨k1, ?_, fun k a b => ?_, fun _ => ?_, fun a => absurd (show 3 ≤ X.1 from a) (by omega), fun a => absurd (show 4 ≤ X.1 from a) (by omega), k7, Or.inr (Or.inr (Or.inr (Or.inr (Or.inr (Or.inl ⟨rfl, hp, ?_, ?_, Or.inl ?_⟩)))))⟩ ⟨fun _ => ?_, fun _ => ?_, fun a => absurd a (by omega), fun a => absurd a (by omega), u5 _ _ (by omega), u6 _ _⟩ (frL.up (by omega))
      · show uN X.2.1 X.1 _ 0 = 0; rw [uN_n (by omega)]; exact k2
      · have a' : X.1 < k := a
        show uN X.2.1 X.1 _ k = 0; rw [uN_n (by omega)]; exact k3 k a' b
      · show 1 ≤ uN X.2.1 X.1 _ 1 ∧ uN X.2.1 X.1 _ 1 ≤ 9; rw [uN_n (by omega)]; exact k4 (by omega)
      · show 1 ≤ uN X.2.1 X.1 _ 2; rw [hp, uN_s]; omega
      · show uN X.2.1 X.1 _ 2 ≤ 60; rw [hp, uN_s]; omega
      · show 10 ≤ uN X.2.1 X.1 _ 2; rw [hp, uN_s]; omega
      · rw [upF_eq, pk_un (by omega), m1 (by omega)]; show _ = nI (uN X.2.1 X.1 _ 1); rw [uN_n (by omega)]
      · rw [upF_eq, pk_us]; show _ = nI (uN X.2.1 X.1 _ 2); rw [hp, uN_s]
    · have y2 := y.2.1
      rw [hv', hmo] at y2; exact z q y2
  · have hmo : mos X.1 = 60 := by rw [hp]; rfl
    have hv' : X.2.1 X.1 = X.2.1 2 := by rw [hp]
    refine if_n (by decide) (if_n (by decide) (if_n (by decide) (if_n (by decide) (if_n (by decide) (if_y (by decide) (m_after hc (Or.inr rfl) hlk' hm' (fun q y => ?_) (fun y => h0 y F (frL.rf F)) h1))))))
    obtain ⟨y1, y2, y3⟩ := y
    rw [hv', hmo] at y2
    rcases hn with w | w
    · omega
    · exact y3 ⟨hp, by omega⟩
  · have hv' : X.2.1 X.1 = 0 := by rw [hp]; exact hv
    have hmo : mos X.1 = 60 := by rw [hp]; rfl
    refine if_n (by decide) (if_n (by decide) (if_n (by decide) (if_n (by decide) (if_n (by decide) (if_n (by decide) (if_y (by decide) (m_begin (w := 1) hc (by omega) (fun q => if_n t10 ?_) (fun q v => if_y rfl (h0 (tkX_b0 hv' (by omega) q) _ (frL.up (by omega)))))))))))
    refine h1 7 _ _ (tkX_b1 hv' (by omega) (by omega) q) ⟨k1, ?_, fun k a b => ?_, fun _ => ?_, fun _ => ?_, fun a => absurd (show 4 ≤ X.1 from a) (by omega), k7, Or.inr (Or.inr (Or.inr (Or.inr (Or.inr (Or.inr (Or.inr (Or.inl ⟨rfl, hp, ?_, ?_⟩)))))))⟩ ⟨fun _ => ?_, fun _ => ?_, fun _ => ?_, fun a => absurd a (by omega), u5 _ _ (by omega), u6 _ _⟩ (frL.up (by omega))
    · show uN X.2.1 X.1 (c - 48) 0 = 0; rw [uN_n (by omega)]; exact k2
    · have a' : X.1 < k := a
      show uN X.2.1 X.1 (c - 48) k = 0; rw [uN_n (by omega)]; exact k3 k a' b
    · show 1 ≤ uN X.2.1 X.1 (c - 48) 1 ∧ uN X.2.1 X.1 (c - 48) 1 ≤ 9; rw [uN_n (by omega)]; exact k4 (by omega)
    · show 1 ≤ uN X.2.1 X.1 (c - 48) 2 ∧ uN X.2.1 X.1 (c - 48) 2 ≤ 60; rw [uN_n (by omega)]; exact k5 (by omega)
    · show 1 ≤ uN X.2.1 X.1 (c - 48) 3; rw [hp, uN_s]; omega
    · show uN X.2.1 X.1 (c - 48) 3 ≤ 9; rw [hp, uN_s]; omega
    · rw [upF_eq, pk_un (by omega), m1 (by omega)]; show _ = nI (uN X.2.1 X.1 (c - 48) 1); rw [uN_n (by omega)]
    · rw [upF_eq, pk_un (by omega), m2 (by omega)]; show _ = nI (uN X.2.1 X.1 (c - 48) 2); rw [uN_n (by omega)]
    · rw [upF_eq, pk_us]; show _ = nI (uN X.2.1 X.1 (c - 48) 3); rw [hp, uN_s]
  · have hmo : mos X.1 = 60 := by rw [hp]; rfl
    have hv' : X.2.1 X.1 = X.2.1 3 := by rw [hp]
    refine if_n (by decide) (if_n (by decide) (if_n (by decide) (if_n (by decide) (if_n (by decide) (if_n (by decide) (if_n (by decide) (if_y (by decide) (m_goOn (w := 1) (v := X.2.1 3) hc (by omega) (m3 (by omega)) hv9 (fun q z => if_n t10 ?_) (fun z => if_y rfl (if_c (fun y => ?_) (fun y => h0 (tkX_n (fun q w => ?_) (fun d _ w => ?_) (fun _ _ w => ?_)) F (frL.rf F))))))))))))
    · have td := tkX_d (c := c) (X := X) q ⟨by rw [hv']; omega, by rw [hv', hmo]; exact z, fun w => by omega⟩
      refine h1 8 _ _ td ⟨k1, ?_, fun k a b => ?_, fun _ => ?_, fun _ => ?_, fun a => absurd (show 4 ≤ X.1 from a) (by omega), k7, Or.inr (Or.inr (Or.inr (Or.inr (Or.inr (Or.inr (Or.inr (Or.inr (Or.inl ⟨rfl, hp, ?_, ?_⟩))))))))⟩ ⟨fun _ => ?_, fun _ => ?_, fun _ => ?_, fun a => absurd a (by omega), u5 _ _ (by omega), u6 _ _⟩ (frL.up (by omega))
      · show uN X.2.1 X.1 _ 0 = 0; rw [uN_n (by omega)]; exact k2
      · have a' : X.1 < k := a
        show uN X.2.1 X.1 _ k = 0; rw [uN_n (by omega)]; exact k3 k a' b
      · show 1 ≤ uN X.2.1 X.1 _ 1 ∧ uN X.2.1 X.1 _ 1 ≤ 9; rw [uN_n (by omega)]; exact k4 (by omega)
      · show 1 ≤ uN X.2.1 X.1 _ 2 ∧ uN X.2.1 X.1 _ 2 ≤ 60; rw [uN_n (by omega)]; exact k5 (by omega)
      · show 10 ≤ uN X.2.1 X.1 _ 3; rw [hp, uN_s]; omega
      · show uN X.2.1 X.1 _ 3 ≤ 60; rw [hp, uN_s]; omega
      · rw [upF_eq, pk_un (by omega), m1 (by omega)]; show _ = nI (uN X.2.1 X.1 _ 1); rw [uN_n (by omega)]
      · rw [upF_eq, pk_un (by omega), m2 (by omega)]; show _ = nI (uN X.2.1 X.1 _ 2); rw [uN_n (by omega)]
      · rw [upF_eq, pk_us]; show _ = nI (uN X.2.1 X.1 _ 3); rw [hp, uN_s]
    · have y' : c = 117 := (nI_eq (b := 117) (by omega) (by omega)).mp y
      subst y'
      have e1 : X.2.1 4 = 0 := k3 4 (by omega) (by omega)
      exact h1 9 _ F (tkX_g (by omega) (by decide) ⟨by omega, by rw [hp]; rfl, Or.inr (by rw [hp]; exact hv)⟩) ⟨k1, k2, fun k a b => k3 k (by have a' : X.1 + 1 < k := a; omega) b, fun _ => k4 (by omega), fun _ => k5 (by omega), fun _ => ⟨hv, show X.2.1 3 ≤ 60 by omega⟩, fun a => absurd (show X.1 + 1 < 2 from a) (by omega), Or.inr (Or.inr (Or.inr (Or.inr (Or.inr (Or.inr (Or.inr (Or.inr (Or.inr (Or.inl ⟨rfl, by show X.1 + 1 = 4; omega, e1⟩)))))))))⟩ ⟨fun _ => m1 (by omega), fun _ => m2 (by omega), fun _ => m3 (by omega), fun a => absurd a (by omega), m5, m6⟩ (frL.rf F)
    · obtain ⟨w1, w2, w3⟩ := w
      rw [hv', hmo] at w2; exact z q w2
    · have := w.1; omega
    · obtain ⟨w1, w2, w3⟩ := w
      rw [hp] at w2; exact y (by rw [w2]; rfl)
  · have hmo : mos X.1 = 60 := by rw [hp]; rfl
    have hv' : X.2.1 X.1 = X.2.1 3 := by rw [hp]
    refine if_n (by decide) (if_n (by decide) (if_n (by decide) (if_n (by decide) (if_n (by decide) (if_n (by decide) (if_n (by decide) (if_n (by decide) (if_y (by decide) (if_c (fun y => ?_) (fun y => h0 (tkX_n (fun q w => ?_) (fun d _ w => ?_) (fun _ _ w => ?_)) F (frL.rf F)))))))))))
    · have y' : c = 117 := (nI_eq (b := 117) (by omega) (by omega)).mp y
      subst y'
      have e1 : X.2.1 4 = 0 := k3 4 (by omega) (by omega)
      exact h1 9 _ F (tkX_g (by omega) (by decide) ⟨by omega, by rw [hp]; rfl, Or.inr (by rw [hp]; omega)⟩) ⟨k1, k2, fun k a b => k3 k (by have a' : X.1 + 1 < k := a; omega) b, fun _ => k4 (by omega), fun _ => k5 (by omega), fun _ => ⟨show 1 ≤ X.2.1 3 by omega, hv9⟩, fun a => absurd (show X.1 + 1 < 2 from a) (by omega), Or.inr (Or.inr (Or.inr (Or.inr (Or.inr (Or.inr (Or.inr (Or.inr (Or.inr (Or.inl ⟨rfl, by show X.1 + 1 = 4; omega, e1⟩)))))))))⟩ ⟨fun _ => m1 (by omega), fun _ => m2 (by omega), fun _ => m3 (by omega), fun a => absurd a (by omega), m5, m6⟩ (frL.rf F)
    · obtain ⟨w1, w2, w3⟩ := w
      rw [hv', hmo] at w2; omega
    · have := w.1; omega
    · obtain ⟨w1, w2, w3⟩ := w
      rw [hp] at w2; exact y (by rw [w2]; rfl)
  · have hv' : X.2.1 X.1 = 0 := by rw [hp]; exact hv
    have hmo : mos X.1 = 60 := by rw [hp]; rfl
    refine if_n (by decide) (if_n (by decide) (if_n (by decide) (if_n (by decide) (if_n (by decide) (if_n (by decide) (if_n (by decide) (if_n (by decide) (if_n (by decide) (if_y (by decide) (m_begin (w := 2) hc (by omega) (fun q => if_n t10 ?_) (fun q v => if_y rfl (h0 (tkX_b0 hv' (by omega) q) _ (frL.up (by omega))))))))))))))
    refine h1 10 _ _ (tkX_b1 hv' (by omega) (by omega) q) ⟨k1, ?_, fun k a b => absurd (show X.1 < k from a) (by omega), fun _ => ?_, fun _ => ?_, fun _ => ?_, k7, Or.inr (Or.inr (Or.inr (Or.inr (Or.inr (Or.inr (Or.inr (Or.inr (Or.inr (Or.inr (Or.inl ⟨rfl, hp, ?_, ?_⟩))))))))))⟩ ⟨fun _ => ?_, fun _ => ?_, fun _ => ?_, fun _ => ?_, u5 _ _ (by omega), u6 _ _⟩ (frL.up (by omega))
    · show uN X.2.1 X.1 (c - 48) 0 = 0; rw [uN_n (by omega)]; exact k2
    · show 1 ≤ uN X.2.1 X.1 (c - 48) 1 ∧ uN X.2.1 X.1 (c - 48) 1 ≤ 9; rw [uN_n (by omega)]; exact k4 (by omega)
    · show 1 ≤ uN X.2.1 X.1 (c - 48) 2 ∧ uN X.2.1 X.1 (c - 48) 2 ≤ 60; rw [uN_n (by omega)]; exact k5 (by omega)
    · show 1 ≤ uN X.2.1 X.1 (c - 48) 3 ∧ uN X.2.1 X.1 (c - 48) 3 ≤ 60; rw [uN_n (by omega)]; exact k6 (by omega)
    · show 1 ≤ uN X.2.1 X.1 (c - 48) 4; rw [hp, uN_s]; omega
    · show uN X.2.1 X.1 (c - 48) 4 ≤ 9; rw [hp, uN_s]; omega
    · rw [upF_eq, pk_un (by omega), m1 (by omega)]; show _ = nI (uN X.2.1 X.1 (c - 48) 1); rw [uN_n (by omega)]
    · rw [upF_eq, pk_un (by omega), m2 (by omega)]; show _ = nI (uN X.2.1 X.1 (c - 48) 2); rw [uN_n (by omega)]
    · rw [upF_eq, pk_un (by omega), m3 (by omega)]; show _ = nI (uN X.2.1 X.1 (c - 48) 3); rw [uN_n (by omega)]
    · rw [upF_eq, pk_us]; show _ = nI (uN X.2.1 X.1 (c - 48) 4); rw [hp, uN_s]
  · have hmo : mos X.1 = 60 := by rw [hp]; rfl
    have hv' : X.2.1 X.1 = X.2.1 4 := by rw [hp]
    refine if_n (by decide) (if_n (by decide) (if_n (by decide) (if_n (by decide) (if_n (by decide) (if_n (by decide) (if_n (by decide) (if_n (by decide) (if_n (by decide) (if_n (by decide) (if_y (by decide) (m_goOn (w := 2) (v := X.2.1 4) hc (by omega) (m4 (by omega)) hv9 (fun q z => if_n t10 ?_) (fun z => if_y rfl (h0 (tkX_n (fun q w => ?_) (fun d _ w => ?_) (fun _ _ w => ?_)) F (frL.rf F))))))))))))))
    · have td := tkX_d (c := c) (X := X) q ⟨by rw [hv']; omega, by rw [hv', hmo]; exact z, fun w => by omega⟩
      refine h1 11 _ _ td ⟨k1, ?_, fun k a b => absurd (show X.1 < k from a) (by omega), fun _ => ?_, fun _ => ?_, fun _ => ?_, k7, Or.inr (Or.inr (Or.inr (Or.inr (Or.inr (Or.inr (Or.inr (Or.inr (Or.inr (Or.inr (Or.inr ⟨rfl, hp, ?_, ?_⟩))))))))))⟩ ⟨fun _ => ?_, fun _ => ?_, fun _ => ?_, fun _ => ?_, u5 _ _ (by omega), u6 _ _⟩ (frL.up (by omega))
      · show uN X.2.1 X.1 _ 0 = 0; rw [uN_n (by omega)]; exact k2
      · show 1 ≤ uN X.2.1 X.1 _ 1 ∧ uN X.2.1 X.1 _ 1 ≤ 9; rw [uN_n (by omega)]; exact k4 (by omega)
      · show 1 ≤ uN X.2.1 X.1 _ 2 ∧ uN X.2.1 X.1 _ 2 ≤ 60; rw [uN_n (by omega)]; exact k5 (by omega)
      · show 1 ≤ uN X.2.1 X.1 _ 3 ∧ uN X.2.1 X.1 _ 3 ≤ 60; rw [uN_n (by omega)]; exact k6 (by omega)
      · show 10 ≤ uN X.2.1 X.1 _ 4; rw [hp, uN_s]; omega
      · show uN X.2.1 X.1 _ 4 ≤ 60; rw [hp, uN_s]; omega
      · rw [upF_eq, pk_un (by omega), m1 (by omega)]; show _ = nI (uN X.2.1 X.1 _ 1); rw [uN_n (by omega)]
      · rw [upF_eq, pk_un (by omega), m2 (by omega)]; show _ = nI (uN X.2.1 X.1 _ 2); rw [uN_n (by omega)]
      · rw [upF_eq, pk_un (by omega), m3 (by omega)]; show _ = nI (uN X.2.1 X.1 _ 3); rw [uN_n (by omega)]
      · rw [upF_eq, pk_us]; show _ = nI (uN X.2.1 X.1 _ 4); rw [hp, uN_s]
    · obtain ⟨w1, w2, w3⟩ := w
      rw [hv', hmo] at w2; exact z q w2
    · have := w.1; omega
    · have := w.1; omega
  · have hmo : mos X.1 = 60 := by rw [hp]; rfl
    have hv' : X.2.1 X.1 = X.2.1 4 := by rw [hp]
    refine if_n (by decide) (if_n (by decide) (if_n (by decide) (if_n (by decide) (if_n (by decide) (if_n (by decide) (if_n (by decide) (if_n (by decide) (if_n (by decide) (if_n (by decide) (if_n (by decide) (h0 (tkX_n (fun q w => ?_) (fun d _ w => ?_) (fun _ _ w => ?_)) F (frL.rf F))))))))))))
    · obtain ⟨w1, w2, w3⟩ := w
      rw [hv', hmo] at w2; omega
    · have := w.1; omega
    · have := w.1; omega
