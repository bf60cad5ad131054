/-! frying, the first side: heat, lie, fasten, run, pour -/
theorem s_39 {k0 : Nat} {K : Int32 → Int32 → Int32 → Prop} {Q : Int32 → gS → Prop} {F : gS} {x1 x2 x4 x5 x6 x7 x8 t0 : Int32} (ht : 0 < x4 → ¬ (x4 + 2) = 0) (h : wp_X1_heat_78 k0 K Q F x1 x2 x4 (x5 + x8) (x6 + t0 * bO x4 (x5 + x8)) x7 x8) : wp_X1_heat_39 k0 K Q F x1 x2 x4 x5 x6 x7 x8 t0 := by
  unfold wp_X1_heat_39
  show if x4 ≤ 0 then _ else _
  unfold bO at h
  refine if_c (fun q => ?_) (fun q => ?_)
  · rw [if_pos q] at h
    have e : x6 + t0 * 0 = x6 := by simp
    rw [e] at h; exact h
  · rw [if_neg q] at h
    refine if_c (fun q2 => ?_) (fun q2 => ?_)
    · rw [if_pos q2] at h
      have e : x6 + t0 * 0 = x6 := by simp
      rw [e] at h; exact h
    · rw [if_neg q2] at h
      exact ⟨ht (Int32.not_le.mp q), h⟩
theorem s_heat {k0 c n : Nat} {x2 x4 : Int32} {F : gS} {Q : Int32 → gS → Prop} (hc : c < 16) (hn : n < 2 ^ 31) (ht : 0 < x4 → ¬ (x4 + 2) = 0)
    (h : Q (bN n x2 x4 (F (k0 + 1) c)) (upF F (k0 + 1) c (wN n x2 (F (k0 + 1) c)))) : wp_X1_heat k0 (nI c) x2 (nI n) x4 F Q := by
  unfold wp_X1_heat
  refine ⟨vp_in_nI hc (by omega), ?_⟩
  show LP3 _ (F (k0 + 1) (nI c).toNatClampNeg) 0 (nI n)
  rw [nI_clamp (by omega)]
  generalize hw : F (k0 + 1) c = w0 at h ⊢
  refine LP3_of (fun x5 x6 x7 => ∃ m : Nat, m ≤ n ∧ x7 = nI m ∧ wN n x2 w0 = wN m x2 x5 ∧ bN n x2 x4 w0 = x6 + bN m x2 x4 x5) (fun _ _ x => x.toNatClampNeg) (fun K x5 x6 x7 hI hK => ?_) w0 0 (nI n) ⟨n, Nat.le_refl n, rfl, rfl, by simp⟩
  obtain ⟨m, hm, rfl, e1, e2⟩ := hI
  unfold wb_X1_heat_14
  rcases Nat.eq_zero_or_pos m with q | q
  · subst q
    refine if_y (nI_le (b := 0) (Nat.le_refl 0) (by omega)) ⟨vp_in_nI hc (by omega), ?_⟩
    show Q x6 (upF F (k0 + 1) (nI c).toNatClampNeg x5)
    rw [nI_clamp (by omega)]
    rw [e1, e2] at h
    have e : x6 + bN 0 x2 x4 x5 = x6 := by show x6 + 0 = x6; simp
    rw [e] at h
    exact h
  · refine if_n (nI_ge (a := 0) q (by omega)) ?_
    show if (x2 - x5 / 10) = 0 then _ else _
    refine if_c (fun z => ?_) (fun z => ?_)
    · refine s_39 ht ?_
      have et : tk x2 x5 = x5 := by unfold tk; rw [z]; simp
      have e3 : x5 + (x2 - x5 / 10) = x5 := et
      unfold wp_X1_heat_78
      refine if_y z ⟨vp_in_nI hc (by omega), ?_⟩
      show Q (x6 + nI m * bO x4 (x5 + (x2 - x5 / 10))) (upF F (k0 + 1) (nI c).toNatClampNeg (x5 + (x2 - x5 / 10)))
      rw [nI_clamp (by omega), e3]
      rw [e1, e2, wN_fix et, bN_fix et] at h
      exact h
    · refine s_39 ht ?_
      unfold wp_X1_heat_78
      refine if_n z ?_
      obtain ⟨m', rfl⟩ : ∃ m', m = m' + 1 := ⟨m - 1, by omega⟩
      refine hK _ _ _ ⟨m', by omega, pk_m1 m', e1, ?_⟩ ?_
      · rw [e2]
        show x6 + (bO x4 (tk x2 x5) + bN m' x2 x4 (tk x2 x5)) = x6 + 1 * bO x4 (tk x2 x5) + bN m' x2 x4 (tk x2 x5)
        grind
      · show (nI (m' + 1) + (-1)).toNatClampNeg < (nI (m' + 1)).toNatClampNeg
        rw [pk_m1, nI_clamp (by omega), nI_clamp (by omega)]; omega
theorem s_lie {k1 k4 n t : Nat} {x2 : Int32} {F : gS} {Q : Int32 → gS → Prop} (hn : n ≤ 16) (hF : F 9 2 = nI n) (ht : t < 2 ^ 31) (h2 : ∀ c, c < n → 0 < F (k4 + 1) c → ¬ F (k4 + 1) c + 2 = 0) (a1 : k1 + 1 ≠ 9) (a2 : k1 + 1 ≠ 10) (a3 : k1 ≠ k4)
    (h : Q (sN (fun c => bN t (x2 * F 10 c) (F (k4 + 1) c) (F (k1 + 1) c)) n) (upR F (k1 + 1) (pt n (fun c => wN t (x2 * F 10 c) (F (k1 + 1) c)) (F (k1 + 1))))) : wp_X5_lie k1 k4 x2 (nI t) F Q := by
  unfold wp_X5_lie
  refine for3 n (fun c F' x5 => F' = upR F (k1 + 1) (pt c (fun c => wN t (x2 * F 10 c) (F (k1 + 1) c)) (F (k1 + 1))) ∧ x5 = sN (fun c => bN t (x2 * F 10 c) (F (k4 + 1) c) (F (k1 + 1) c)) c) (by omega) (fun K c F' x5 hc hI hK => ?_) (fun K F' x5 hI => ?_) 0 F 0 (Nat.zero_le _) ⟨by rw [pt_0, upR_self], rfl⟩
  · obtain ⟨e1, e2⟩ := hI
    have r9 : F' 9 = F 9 := by rw [e1]; exact upR_ne _ _ (by omega)
    have r10 : F' 10 = F 10 := by rw [e1]; exact upR_ne _ _ (by omega)
    have r4 : F' (k4 + 1) = F (k4 + 1) := by rw [e1]; exact upR_ne _ _ (by omega)
    have rw1 : F' (k1 + 1) c = F (k1 + 1) c := by rw [e1, upR_eq]; exact pt_ge _ _ (Nat.le_refl c)
    unfold wb_X5_lie_6
    refine if_n (by rw [r9, hF]; exact nI_ge hc (by omega)) ⟨vp_in_nI (by omega) (by omega), vp_in_nI (by omega) (by omega), ?_⟩
    rw [nI_clamp (by omega), r10, r4]
    refine s_heat (by omega) ht (h2 c hc) ?_
    refine hK _ _ ⟨?_, ?_⟩
    · rw [rw1, e1, upF_upR]
      exact congrArg (upR F (k1 + 1)) (pt_s c _ _ rfl)
    · rw [rw1, e2]; rfl
  · obtain ⟨e1, e2⟩ := hI
    have r9 : F' 9 = F 9 := by rw [e1]; exact upR_ne _ _ (by omega)
    unfold wb_X5_lie_6
    refine if_y (by rw [r9, hF]; exact nI_le (Nat.le_refl n) (by omega)) ?_
    rw [e1, e2]; exact h
def fs (a t w : Int32) : Int32 := if t ≤ 0 then a else if w < 100 then a else 1
theorem s_fasten {k1 k2 n : Nat} {F : gS} {Q : gS → Prop} (hn : n ≤ 16) (hF : F 9 2 = nI n) (a1 : k1 + 1 ≠ 12) (a2 : k2 + 1 ≠ 12)
    (h : Q (upR F 12 (pt n (fun c => fs (F 12 c) (F (k2 + 1) c) (F (k1 + 1) c)) (F 12)))) : wp_X5_fasten k1 k2 F Q := by
  unfold wp_X5_fasten
  refine for2 n (fun c F' => F' = upR F 12 (pt c (fun c => fs (F 12 c) (F (k2 + 1) c) (F (k1 + 1) c)) (F 12))) (by omega) (fun K c F' hc e1 hK => ?_) (fun K F' e1 => ?_) 0 F (Nat.zero_le _) (by rw [pt_0, upR_self])
  · have r9 : F' 9 = F 9 := by rw [e1]; exact upR_ne _ _ (by omega)
    have r1 : F' (k1 + 1) = F (k1 + 1) := by rw [e1]; exact upR_ne _ _ (by omega)
    have r2 : F' (k2 + 1) = F (k2 + 1) := by rw [e1]; exact upR_ne _ _ (by omega)
    have st : ∀ v, v = fs (F 12 c) (F (k2 + 1) c) (F (k1 + 1) c) → upF F' 12 c v = upR F 12 (pt (c + 1) (fun c => fs (F 12 c) (F (k2 + 1) c) (F (k1 + 1) c)) (F 12)) := by
      intro v hv
      rw [e1, upF_upR]
      exact congrArg (upR F 12) (pt_s c _ _ hv)
    have sk : F 12 c = fs (F 12 c) (F (k2 + 1) c) (F (k1 + 1) c) → F' = upR F 12 (pt (c + 1) (fun c => fs (F 12 c) (F (k2 + 1) c) (F (k1 + 1) c)) (F 12)) := by
      intro hv
      rw [← st _ hv, upF_R]
      have : F' 12 c = F 12 c := by rw [e1, upR_eq]; exact pt_ge _ _ (Nat.le_refl c)
      rw [upd_self _ _ this.symm, upR_self]
    have ci : (nI c).toNatClampNeg = c := nI_clamp (by omega)
    unfold wb_X5_fasten_2
    refine if_n (by rw [r9, hF]; exact nI_ge hc (by omega)) ⟨vp_in_nI (by omega) (by omega), ?_⟩
    rw [ci, r1, r2]
    refine if_c (fun q => ?_) (fun q => ⟨vp_in_nI (by omega) (by omega), if_c (fun q2 => ?_) (fun q2 => ⟨vp_in_nI (by omega) (by omega), ?_⟩)⟩)
    · exact hK _ (sk (by unfold fs; rw [if_pos q]))
    · exact hK _ (sk (by unfold fs; rw [if_neg q, if_pos q2]))
    · refine hK _ (st _ ?_)
      rw [nb1]; unfold fs; rw [if_neg q, if_neg q2]
  · have r9 : F' 9 = F 9 := by rw [e1]; exact upR_ne _ _ (by omega)
    unfold wb_X5_fasten_2
    refine if_y (by rw [r9, hF]; exact nI_le (Nat.le_refl n) (by omega)) ?_
    rw [e1]; exact h
/-! where a swing leads -/
def bs (R C : Nat) (s : Int32) (c : Nat) : Option Nat :=
  if s = 0 then (if c < C then none else some (c - C))
  else if s = 1 then (if c % C + 1 = C then none else some (c + 1))
  else if s = 2 then (if c + C < R * C then some (c + C) else none)
  else if s = 3 then (if c % C = 0 then none else some (c - 1))
  else some c
def bi : Option Nat → Int32
  | none => -1
  | some d => nI d
def wtB (x a b : Int32) : Bool := if x < a then false else if b < x then false else true
def besC (s r q R C : Int32) : Int32 :=
  let a := r + (if s = 0 then -1 else if s = 2 then 1 else 0)
  let b := q + (if s = 3 then -1 else if s = 1 then 1 else 0)
  if wtB a 0 (R - 1) && wtB b 0 (C - 1) then a * C + b else -1
theorem besC_ok : ∀ R : Nat, R < 5 → ∀ C : Nat, C < 5 → ∀ r : Nat, r < R → ∀ q : Nat, q < C → ∀ s : Nat, s < 5 → besC (nI s) (nI r) (nI q) (nI R) (nI C) = bi (bs R C (nI s) (r * C + q)) := by decide +kernel
theorem bs_lt0 : ∀ R : Nat, R < 5 → ∀ C : Nat, C < 5 → ∀ c : Nat, c < R * C → ∀ s : Nat, s < 5 → ∀ d ∈ bs R C (nI s) c, d < R * C := by decide +kernel
theorem sw_cases (s : Int32) : (∃ k : Nat, k < 4 ∧ s = nI k) ∨ (s ≠ 0 ∧ s ≠ 1 ∧ s ≠ 2 ∧ s ≠ 3) := by
  by_cases h0 : s = 0
  · exact Or.inl ⟨0, by omega, h0⟩
  by_cases h1 : s = 1
  · exact Or.inl ⟨1, by omega, h1⟩
  by_cases h2 : s = 2
  · exact Or.inl ⟨2, by omega, h2⟩
  by_cases h3 : s = 3
  · exact Or.inl ⟨3, by omega, h3⟩
  exact Or.inr ⟨h0, h1, h2, h3⟩
theorem bs_o {R C c : Nat} {s : Int32} (h : s ≠ 0 ∧ s ≠ 1 ∧ s ≠ 2 ∧ s ≠ 3) : bs R C s c = bs R C (nI 4) c := by
  obtain ⟨h0, h1, h2, h3⟩ := h
  have z0 : ¬ nI 4 = 0 := by decide
  have z1 : ¬ nI 4 = 1 := by decide
  have z2 : ¬ nI 4 = 2 := by decide
  have z3 : ¬ nI 4 = 3 := by decide
  unfold bs
  rw [if_neg h0, if_neg h1, if_neg h2, if_neg h3, if_neg z0, if_neg z1, if_neg z2, if_neg z3]
theorem besC_o {s r q R C : Int32} (h : s ≠ 0 ∧ s ≠ 1 ∧ s ≠ 2 ∧ s ≠ 3) : besC s r q R C = besC (nI 4) r q R C := by
  obtain ⟨h0, h1, h2, h3⟩ := h
  have z0 : ¬ nI 4 = 0 := by decide
  have z1 : ¬ nI 4 = 1 := by decide
  have z2 : ¬ nI 4 = 2 := by decide
  have z3 : ¬ nI 4 = 3 := by decide
  unfold besC
  rw [if_neg h0, if_neg h1, if_neg h2, if_neg h3, if_neg z0, if_neg z1, if_neg z2, if_neg z3]
theorem bs_lt {R C c d : Nat} {s : Int32} (hR : R < 5) (hC : C < 5) (hc : c < R * C) (h : bs R C s c = some d) : d < R * C := by
  rcases sw_cases s with ⟨k, hk, rfl⟩ | q
  · exact bs_lt0 R hR C hC c hc k (by omega) d h
  · rw [bs_o q] at h; exact bs_lt0 R hR C hC c hc 4 (by omega) d h
theorem wt_i {x a b : Int32} {F : gS} {Q : Int32 → Prop} (h : Q (if wtB x a b = true then 1 else 0)) : wp_X11_within x a b F Q := by
  unfold wp_X11_within wtB at *
  by_cases h1 : x < a
  · simp only [h1, if_true] at h ⊢; exact h
  · by_cases h2 : b < x
    · simp only [h1, h2, if_true, if_false] at h ⊢; exact h
    · simp only [h1, h2, if_false] at h ⊢; exact h
theorem s_beside0 {s r q : Int32} {F : gS} {Q : Int32 → Prop} (h : Q (besC s r q (F 9 3) (F 9 4))) : wp_X5_beside r q s F Q := by
  have k42 : ∀ a t0 t1 : Int32, Q (if wtB a 0 ((F 9 3) - 1) && wtB (t1 + t0) 0 ((F 9 4) - 1) then a * (F 9 4) + (t1 + t0) else -1) → wp_X5_beside_42 Q F a t0 t1 := by
    intro a t0 t1 hq
    unfold wp_X5_beside_42
    refine wt_i ?_
    by_cases h1 : wtB a 0 ((F 9 3) - 1) = true
    · rw [h1] at hq
      rw [if_pos h1]
      refine if_n (by decide) (wt_i ?_)
      by_cases h2 : wtB (t1 + t0) 0 ((F 9 4) - 1) = true
      · rw [h2] at hq
        rw [if_pos h2]
        refine if_n (by decide) ?_
        unfold wp_X5_beside_80
        exact if_n (by decide) hq
      · rw [Bool.not_eq_true] at h2
        rw [h2] at hq
        rw [h2]
        refine if_y rfl ?_
        unfold wp_X5_beside_80
        exact if_y rfl hq
    · rw [Bool.not_eq_true] at h1
      rw [h1] at hq
      rw [h1]
      refine if_y rfl ?_
      unfold wp_X5_beside_80
      exact if_y rfl hq
  have k19 : ∀ t0 : Int32, Q (if wtB (r + t0) 0 ((F 9 3) - 1) && wtB (q + (if s = 3 then -1 else if s = 1 then 1 else 0)) 0 ((F 9 4) - 1) then (r + t0) * (F 9 4) + (q + (if s = 3 then -1 else if s = 1 then 1 else 0)) else -1) → wp_X5_beside_19 Q F q s t0 r := by
    intro t0 hq
    unfold wp_X5_beside_19
    show if s = 3 then _ else _
    by_cases h3 : s = 3
    · rw [if_pos h3] at hq ⊢; exact k42 _ _ _ hq
    · rw [if_neg h3] at hq ⊢
      by_cases h1 : s = 1
      · rw [if_pos h1] at hq ⊢; exact k42 _ _ _ hq
      · rw [if_neg h1] at hq ⊢; exact k42 _ _ _ hq
  unfold wp_X5_beside
  unfold besC at h
  by_cases h0 : s = 0
  · simp only [if_pos h0] at h
    exact if_y h0 (k19 _ h)
  · simp only [if_neg h0] at h
    refine if_n h0 ?_
    by_cases h2 : s = 2
    · simp only [if_pos h2] at h
      exact if_y h2 (k19 _ h)
    · simp only [if_neg h2] at h
      exact if_n h2 (k19 _ h)
theorem s_beside {R C r q : Nat} {s : Int32} {F : gS} {Q : Int32 → Prop} (hR : R < 5) (hC : C < 5) (hr : r < R) (hq : q < C) (e3 : F 9 3 = nI R) (e4 : F 9 4 = nI C) (h : Q (bi (bs R C s (r * C + q)))) : wp_X5_beside (nI r) (nI q) s F Q := by
  refine s_beside0 ?_
  rw [e3, e4]
  rcases sw_cases s with ⟨k, hk, rfl⟩ | z
  · rw [besC_ok R hR C hC r hr q hq k (by omega)]; exact h
  · rw [besC_o z, besC_ok R hR C hC r hr q hq 4 (by omega), ← bs_o z]; exact h
