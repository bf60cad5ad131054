/-! the text of a pan -/
abbrev PS : Type := Nat × Nat × Nat × Nat × (Nat → Int32) × (Nat → Int32)
def tkP (c : Nat) (S : PS) : Option PS :=
  if 48 ≤ c ∧ c ≤ 57 then (if (if S.1 = 0 then 4 else S.2.1) ≤ S.2.2.1 then none else some (S.1, S.2.1, S.2.2.1 + 1, 1, upd S.2.2.2.2.1 (S.1 * S.2.1 + S.2.2.1) (nI (c - 48)), upd S.2.2.2.2.2 (S.1 * S.2.1 + S.2.2.1) 0))
  else if c = 115 then (if S.2.2.2.1 = 0 then none else some (S.1, S.2.1, S.2.2.1, 0, S.2.2.2.2.1, upd S.2.2.2.2.2 (S.1 * S.2.1 + S.2.2.1 - 1) 1))
  else if c = 47 then (if S.1 < 3 ∧ (if S.1 = 0 then 1 < S.2.2.1 else S.2.2.1 = S.2.1) then some (S.1 + 1, S.2.2.1, 0, 0, S.2.2.2.2.1, S.2.2.2.2.2) else none)
  else none
def okPS (S : PS) : Prop := S.1 ≤ 3 ∧ S.2.2.2.1 ≤ 1 ∧ (S.1 = 0 → S.2.1 = 0 ∧ S.2.2.1 ≤ 4) ∧ (1 ≤ S.1 → 2 ≤ S.2.1 ∧ S.2.1 ≤ 4 ∧ S.2.2.1 ≤ S.2.1) ∧ (S.2.2.2.1 = 1 → 1 ≤ S.1 * S.2.1 + S.2.2.1) ∧ ∀ j, j < S.1 * S.2.1 + S.2.2.1 → sm 9 (S.2.2.2.2.1 j) ∧ (S.2.2.2.2.2 j = 0 ∨ S.2.2.2.2.2 j = 1)
theorem ps_le {S : PS} (h : okPS S) : S.1 * S.2.1 ≤ 12 ∧ S.2.2.1 ≤ 4 ∧ S.2.1 ≤ 4 := by
  obtain ⟨h1, h2, h3, h4, h5, h6⟩ := h
  rcases Nat.eq_zero_or_pos S.1 with q | q
  · obtain ⟨a, b⟩ := h3 q
    rw [q, a]; omega
  · obtain ⟨a, b, d⟩ := h4 q
    have := Nat.mul_le_mul h1 b
    omega
theorem tkP_ok {c : Nat} {S S' : PS} (h : okPS S) (e : tkP c S = some S') : okPS S' := by
  have hle := ps_le h
  obtain ⟨h1, h2, h3, h4, h5, h6⟩ := h
  unfold tkP at e
  by_cases q1 : 48 ≤ c ∧ c ≤ 57
  · rw [if_pos q1] at e
    by_cases q2 : (if S.1 = 0 then 4 else S.2.1) ≤ S.2.2.1
    · rw [if_pos q2] at e; cases e
    · rw [if_neg q2] at e
      have e' := Option.some.inj e
      subst e'
      have q3 : S.1 = 0 → S.2.2.1 < 4 := fun z => by rw [if_pos z] at q2; omega
      have q4 : 1 ≤ S.1 → S.2.2.1 < S.2.1 := fun z => by rw [if_neg (by omega)] at q2; omega
      refine ⟨h1, Nat.le_refl _, fun z => ⟨(h3 z).1, by show S.2.2.1 + 1 ≤ 4; have := q3 z; omega⟩, fun z => ⟨(h4 z).1, (h4 z).2.1, by show S.2.2.1 + 1 ≤ S.2.1; have := q4 z; omega⟩, fun _ => by show 1 ≤ S.1 * S.2.1 + (S.2.2.1 + 1); omega, fun j hj => ?_⟩
      have hj' : j < S.1 * S.2.1 + (S.2.2.1 + 1) := hj
      show sm 9 (upd S.2.2.2.2.1 (S.1 * S.2.1 + S.2.2.1) (nI (c - 48)) j) ∧ (upd S.2.2.2.2.2 (S.1 * S.2.1 + S.2.2.1) 0 j = 0 ∨ upd S.2.2.2.2.2 (S.1 * S.2.1 + S.2.2.1) 0 j = 1)
      by_cases z : j = S.1 * S.2.1 + S.2.2.1
      · rw [z, pk_us, pk_us]; exact ⟨⟨c - 48, by omega, rfl⟩, Or.inl rfl⟩
      · rw [pk_un z, pk_un z]; exact h6 j (by omega)
  · rw [if_neg q1] at e
    by_cases q2 : c = 115
    · rw [if_pos q2] at e
      by_cases q3 : S.2.2.2.1 = 0
      · rw [if_pos q3] at e; cases e
      · rw [if_neg q3] at e
        have e' := Option.some.inj e
        subst e'
        refine ⟨h1, Nat.zero_le _, h3, h4, fun z => absurd (show (0 : Nat) = 1 from z) (by omega), fun j hj => ⟨(h6 j hj).1, ?_⟩⟩
        show upd S.2.2.2.2.2 (S.1 * S.2.1 + S.2.2.1 - 1) 1 j = 0 ∨ upd S.2.2.2.2.2 (S.1 * S.2.1 + S.2.2.1 - 1) 1 j = 1
        by_cases z : j = S.1 * S.2.1 + S.2.2.1 - 1
        · rw [z, pk_us]; exact Or.inr rfl
        · rw [pk_un z]; exact (h6 j hj).2
    · rw [if_neg q2] at e
      by_cases q3 : c = 47
      · rw [if_pos q3] at e
        by_cases q4 : S.1 < 3 ∧ (if S.1 = 0 then 1 < S.2.2.1 else S.2.2.1 = S.2.1)
        · rw [if_pos q4] at e
          have e' := Option.some.inj e
          subst e'
          have hc : (S.1 + 1) * S.2.2.1 + 0 = S.1 * S.2.1 + S.2.2.1 := by
            rcases Nat.eq_zero_or_pos S.1 with z | z
            · rw [z]; omega
            · have := q4.2
              rw [if_neg (by omega)] at this
              rw [this, Nat.succ_mul]; omega
          have hh : 2 ≤ S.2.2.1 ∧ S.2.2.1 ≤ 4 := by
            rcases Nat.eq_zero_or_pos S.1 with z | z
            · have := q4.2
              rw [if_pos z] at this
              have := (h3 z).2; omega
            · have := q4.2
              rw [if_neg (by omega)] at this
              have := h4 z; omega
          refine ⟨by show S.1 + 1 ≤ 3; omega, Nat.zero_le _, fun z => absurd (show S.1 + 1 = 0 from z) (by omega), fun _ => ⟨hh.1, hh.2, Nat.zero_le _⟩, fun z => absurd (show (0 : Nat) = 1 from z) (by omega), fun j hj => h6 j ?_⟩
          have hj' : j < (S.1 + 1) * S.2.2.1 + 0 := hj
          rw [hc] at hj'; exact hj'
        · rw [if_neg q4] at e; cases e
      · rw [if_neg q3] at e; cases e
def PX (F : gS) (S : PS) : Prop := F 3 2 = nI (S.1 + 1) ∧ F 3 3 = nI (S.1 * S.2.1 + S.2.2.1) ∧ F 3 4 = nI S.2.1 ∧ F 3 5 = nI S.2.2.1 ∧ F 3 6 = nI S.2.2.2.1 ∧ ∀ j, j < S.1 * S.2.1 + S.2.2.1 → F 4 j = S.2.2.2.2.1 j ∧ F 5 j = S.2.2.2.2.2 j
def PM (F : gS) (S : PS) : Prop := F 121 29 = nI S.1 ∧ F 121 30 = nI S.2.1 ∧ F 121 31 = nI S.2.2.1 ∧ F 121 32 = nI S.2.2.2.1 ∧ ∀ j, j < S.1 * S.2.1 + S.2.2.1 → F 137 j = S.2.2.2.2.1 j ∧ F 138 j = S.2.2.2.2.2 j
theorem s_digit {c : Nat} {F : gS} {Q : Int32 → Prop} (hc : c < 2 ^ 20) (h1 : 48 ≤ c ∧ c ≤ 57 → Q 1) (h0 : ¬ (48 ≤ c ∧ c ≤ 57) → Q 0) : wp_X9_isDigit (nI c) F Q := by
  unfold wp_X9_isDigit
  refine if_c (fun q => h0 ?_) (fun q => if_c (fun q2 => h0 ?_) (fun q2 => h1 ?_))
  · have := (nI_ltI (b := 48) (by omega) (by omega)).mp q; omega
  · have := (nI_ltI (a := 57) (by omega) (by omega)).mp q2; omega
  · have a : ¬ c < 48 := fun z => q (nI_lt (b := 48) z (by omega))
    have b : ¬ 57 < c := fun z => q2 (nI_lt (a := 57) z (by omega))
    omega
theorem m_digit {c : Nat} {F : gS} {Q : Int32 → Prop} (hc : c < 2 ^ 20) (h1 : 48 ≤ c ∧ c ≤ 57 → Q 1) (h0 : ¬ (48 ≤ c ∧ c ≤ 57) → Q 0) : wp_X12_isDigit (nI c) F Q := by
  unfold wp_X12_isDigit
  by_cases w : wtB (nI c) 48 57 = true
  · obtain ⟨a, b⟩ := wtB_iff.mp w
    exact wm_y w (h1 ⟨(nI_leI (a := 48) (by omega) (by omega)).mp a, (nI_leI (b := 57) (by omega) (by omega)).mp b⟩)
  · exact wm_n w (h0 (fun z => w (wtB_iff.mpr ⟨nI_le (a := 48) z.1 (by omega), nI_le (b := 57) z.2 (by omega)⟩)))
theorem c_ne {c k : Nat} (hc : c < 2 ^ 20) (hk : k < 2 ^ 20) (h : ¬ c = k) : ¬ nI c = nI k := fun z => h ((nI_eq (by omega) (by omega)).mp z)
theorem s_takeP {c : Nat} {S : PS} {F : gS} {Q : Int32 → gS → Prop} (hc : c ≤ 126) (ok : okPS S) (hx : PX F S) (h0 : tkP c S = none → Q 0 F) (h1 : ∀ S' G, tkP c S = some S' → (∀ q, q ≠ 3 → q ≠ 4 → q ≠ 5 → G q = F q) → PX G S' → Q 1 G) : wp_X6_take (nI c) F Q := by
  have hle := ps_le ok
  obtain ⟨o1, o2, o3, o4, o5, o6⟩ := ok
  obtain ⟨x1, x2, x3, x4, x5, x6⟩ := hx
  unfold wp_X6_take
  refine s_digit (by omega) (fun q => ?_) (fun q => ?_)
  · refine if_n t10 ?_
    have e48 : nI c - 48 = nI (c - 48) := pk_sub (b := 48) q.1
    have k16 : ∀ t0, t0 = nI (if S.1 = 0 then 4 else S.2.1) → wp_X6_takeRing_16 (fun r9 F10 => Q r9 F10) F (nI c - 48) t0 := by
      intro t0 ht
      have hr : (if S.1 = 0 then 4 else S.2.1) ≤ 4 := by split <;> omega
      unfold wp_X6_takeRing_16
      rw [x4, ht, e48]
      refine if_c (fun z => h0 ?_) (fun z => ?_)
      · have z' := (nI_leI (by omega) (by omega)).mp z
        unfold tkP; rw [if_pos q, if_pos z']
      · have z' : ¬ (if S.1 = 0 then 4 else S.2.1) ≤ S.2.2.1 := fun y => z (nI_le y (by omega))
        have hcl : S.1 * S.2.1 + S.2.2.1 < 16 := by omega
        rw [x2]
        refine if_y (nI_lt (b := 16) hcl (by omega)) ⟨vp_in_nI hcl (by omega), ?_⟩
        have a33 : ∀ v, (upF F 4 (nI (S.1 * S.2.1 + S.2.2.1)).toNatClampNeg v) 3 3 = nI (S.1 * S.2.1 + S.2.2.1) := fun v => by rw [upF_ne _ _ _ (by omega), x2]
        dsimp only [Nm]
        rw [a33]
        refine ⟨vp_in_nI hcl (by omega), ?_⟩
        rw [nI_clamp (by omega), nb0]
        generalize hF2 : upF (upF F 4 (S.1 * S.2.1 + S.2.2.1) (nI (c - 48))) 5 (S.1 * S.2.1 + S.2.2.1) 0 = F2
        have f3 : F2 3 = F 3 := by rw [← hF2, upF_ne _ _ _ (by omega), upF_ne _ _ _ (by omega)]
        have f4 : F2 4 = upd (F 4) (S.1 * S.2.1 + S.2.2.1) (nI (c - 48)) := by rw [← hF2, upF_ne _ _ _ (by omega), upF_eq]
        have f5 : F2 5 = upd (F 5) (S.1 * S.2.1 + S.2.2.1) 0 := by rw [← hF2, upF_eq, upF_ne _ _ _ (by omega)]
        have fq : ∀ q, q ≠ 3 → q ≠ 4 → q ≠ 5 → F2 q = F q := fun q a b d => by rw [← hF2, upF_ne _ _ _ d, upF_ne _ _ _ b]
        clear hF2
        have g35 : ∀ v, (upF F2 3 3 v) 3 5 = nI S.2.2.1 := fun v => by rw [upF_eq, pk_un (by omega), f3, x4]
        rw [f3, x2, nI_1, g35, nI_1]
        refine h1 _ _ (by unfold tkP; rw [if_pos q, if_neg z']) (fun q a b d => by rw [upF_ne _ _ _ a, upF_ne _ _ _ a, upF_ne _ _ _ a, fq q a b d]) ⟨?_, ?_, ?_, ?_, ?_, fun j hj => ?_⟩
        · rw [upF_eq, pk_un (by omega), upF_eq, pk_un (by omega), upF_eq, pk_un (by omega), f3, x1]
        · rw [upF_eq, pk_un (by omega), upF_eq, pk_un (by omega), upF_eq, pk_us]; rfl
        · rw [upF_eq, pk_un (by omega), upF_eq, pk_un (by omega), upF_eq, pk_un (by omega), f3, x3]
        · rw [upF_eq, pk_un (by omega), upF_eq, pk_us]
        · rw [upF_eq, pk_us]; rfl
        · rw [upF_ne _ _ _ (by omega), upF_ne _ _ _ (by omega), upF_ne _ _ _ (by omega), upF_ne _ _ _ (by omega), upF_ne _ _ _ (by omega), upF_ne _ _ _ (by omega), f4, f5]
          have hj' : j < S.1 * S.2.1 + (S.2.2.1 + 1) := hj
          show upd (F 4) (S.1 * S.2.1 + S.2.2.1) (nI (c - 48)) j = upd S.2.2.2.2.1 (S.1 * S.2.1 + S.2.2.1) (nI (c - 48)) j ∧ upd (F 5) (S.1 * S.2.1 + S.2.2.1) 0 j = upd S.2.2.2.2.2 (S.1 * S.2.1 + S.2.2.1) 0 j
          by_cases z : j = S.1 * S.2.1 + S.2.2.1
          · rw [z, pk_us, pk_us, pk_us, pk_us]; exact ⟨rfl, rfl⟩
          · rw [pk_un z, pk_un z, pk_un z, pk_un z]; exact x6 j (by omega)
    unfold wp_X6_takeRing
    rw [x1]
    by_cases z : S.1 = 0
    · exact if_y (by rw [z]; rfl) (k16 _ (by rw [if_pos z]; rfl))
    · exact if_n (c_ne (k := 1) (by omega) (by omega) (by omega)) (k16 _ (by rw [if_neg z, x3]))
  · refine if_y rfl ?_
    by_cases q2 : c = 115
    · refine if_y (by rw [q2]; rfl) ?_
      unfold wp_X6_takeSticky
      rw [x5]
      by_cases q3 : S.2.2.2.1 = 0
      · exact if_y (by rw [q3]; rfl) (h0 (by unfold tkP; rw [if_neg q, if_pos q2, if_pos q3]))
      · have hb : S.2.2.2.1 = 1 := by omega
        have hpos := o5 hb
        refine if_n (nI_ne0 (by omega) (by omega)) ?_
        rw [x2]
        have em : nI (S.1 * S.2.1 + S.2.2.1) - 1 = nI (S.1 * S.2.1 + S.2.2.1 - 1) := pk_sub (b := 1) hpos
        rw [em]
        refine if_y (nI_le (a := 1) hpos (by omega)) ⟨vp_in_nI (by omega) (by omega), ?_⟩
        rw [nI_clamp (by omega), nb1]
        refine h1 _ _ (by unfold tkP; rw [if_neg q, if_pos q2, if_neg q3]) (fun q a b d => by rw [upF_ne _ _ _ a, upF_ne _ _ _ d]) ⟨?_, ?_, ?_, ?_, ?_, fun j hj => ?_⟩
        · rw [upF_eq, pk_un (by omega), upF_ne _ _ _ (by omega), x1]
        · rw [upF_eq, pk_un (by omega), upF_ne _ _ _ (by omega), x2]
        · rw [upF_eq, pk_un (by omega), upF_ne _ _ _ (by omega), x3]
        · rw [upF_eq, pk_un (by omega), upF_ne _ _ _ (by omega), x4]
        · rw [upF_eq, pk_us]; rfl
        · rw [upF_ne _ _ _ (by omega), upF_ne _ _ _ (by omega), upF_ne _ _ _ (by omega), upF_eq]
          refine ⟨(x6 j hj).1, ?_⟩
          show upd (F 5) (S.1 * S.2.1 + S.2.2.1 - 1) 1 j = upd S.2.2.2.2.2 (S.1 * S.2.1 + S.2.2.1 - 1) 1 j
          by_cases z : j = S.1 * S.2.1 + S.2.2.1 - 1
          · rw [z, pk_us, pk_us]
          · rw [pk_un z, pk_un z]; exact (x6 j hj).2
    · refine if_n (c_ne (k := 115) (by omega) (by omega) q2) ?_
      by_cases q3 : c = 47
      · refine if_y (by rw [q3]; rfl) ?_
        have k40n : ¬ (S.1 < 3 ∧ (if S.1 = 0 then 1 < S.2.2.1 else S.2.2.1 = S.2.1)) → Q 0 F := fun z => h0 (by unfold tkP; rw [if_neg q, if_neg q2, if_pos q3, if_neg z])
        have k40y : (if S.1 = 0 then 1 < S.2.2.1 else S.2.2.1 = S.2.1) → wp_X6_takeRowEnd_40 (fun r3 F4 => if r3 = 0 then Q 0 F4 else Q 1 F4) F 1 := by
          intro y
          unfold wp_X6_takeRowEnd_40
          refine if_n t10 ?_
          rw [x1]
          by_cases z : S.1 < 3
          · refine if_y (nI_lt (b := 4) (by omega) (by omega)) ?_
            have u32 : (upF F 3 4 (F 3 5)) 3 2 = nI (S.1 + 1) := by rw [upF_eq, pk_un (by omega), x1]
            dsimp only [Nm]
            rw [u32, x4, nI_1]
            have hc2 : (S.1 + 1) * S.2.2.1 + 0 = S.1 * S.2.1 + S.2.2.1 := by
              rcases Nat.eq_zero_or_pos S.1 with u | u
              · rw [u]; omega
              · rw [if_neg (by omega)] at y
                rw [y, Nat.succ_mul]; omega
            refine if_n t10 (h1 _ _ (by unfold tkP; rw [if_neg q, if_neg q2, if_pos q3, if_pos ⟨z, y⟩]) (fun q a b d => by rw [upF_ne _ _ _ a, upF_ne _ _ _ a, upF_ne _ _ _ a, upF_ne _ _ _ a]) ⟨?_, ?_, ?_, ?_, ?_, fun j hj => ?_⟩)
            · rw [upF_eq, pk_un (by omega), upF_eq, pk_un (by omega), upF_eq, pk_us]
            · rw [upF_eq, pk_un (by omega), upF_eq, pk_un (by omega), upF_eq, pk_un (by omega), upF_eq, pk_un (by omega), x2]
              show _ = nI ((S.1 + 1) * S.2.2.1 + 0); rw [hc2]
            · rw [upF_eq, pk_un (by omega), upF_eq, pk_un (by omega), upF_eq, pk_un (by omega), upF_eq, pk_us]
            · rw [upF_eq, pk_un (by omega), upF_eq, pk_us]; rfl
            · rw [upF_eq, pk_us]; rfl
            · have hj' : j < (S.1 + 1) * S.2.2.1 + 0 := hj
              rw [hc2] at hj'
              rw [upF_ne _ _ _ (by omega), upF_ne _ _ _ (by omega), upF_ne _ _ _ (by omega), upF_ne _ _ _ (by omega), upF_ne _ _ _ (by omega), upF_ne _ _ _ (by omega), upF_ne _ _ _ (by omega), upF_ne _ _ _ (by omega)]
              exact x6 j hj'
          · exact if_n (nI_nlt (b := 4) (by omega) (by omega)) (if_y rfl (k40n (fun u => z u.1)))
        have k400 : ¬ (if S.1 = 0 then 1 < S.2.2.1 else S.2.2.1 = S.2.1) → wp_X6_takeRowEnd_40 (fun r3 F4 => if r3 = 0 then Q 0 F4 else Q 1 F4) F 0 := by
          intro y
          unfold wp_X6_takeRowEnd_40
          exact if_y rfl (if_y rfl (k40n (fun u => y u.2)))
        unfold wp_X6_takeRowEnd
        rw [x1, x4, x3]
        by_cases z : S.1 = 0
        · rw [if_pos z] at k40y k400
          refine if_y (by rw [z]; rfl) (if_c (fun y => k400 ?_) (fun y => k40y ?_))
          · have := (nI_ltI (b := 2) (by omega) (by omega)).mp y; omega
          · have : ¬ S.2.2.1 < 2 := fun u => y (nI_lt (b := 2) u (by omega))
            omega
        · rw [if_neg z] at k40y k400
          refine if_n (c_ne (k := 1) (by omega) (by omega) (by omega)) (if_c (fun y => k40y ?_) (fun y => k400 ?_))
          · exact (nI_eq (by omega) (by omega)).mp y
          · exact fun u => y (by rw [u])
      · exact if_n (c_ne (k := 47) (by omega) (by omega) q3) (h0 (by unfold tkP; rw [if_neg q, if_neg q2, if_neg q3]))
theorem m_takeP {c : Nat} {S : PS} {F : gS} {Q : Int32 → gS → Prop} (hc : c ≤ 126) (ok : okPS S) (hx : PM F S) (h0 : tkP c S = none → Q 0 F) (h1 : ∀ S' G, tkP c S = some S' → (∀ q, q ≠ 121 → q ≠ 137 → q ≠ 138 → G q = F q) → (∀ k, (k < 29 ∨ 32 < k) → G 121 k = F 121 k) → PM G S' → Q 1 G) : wp_X12_takePan (nI c) F Q := by
  have hle := ps_le ok
  obtain ⟨o1, o2, o3, o4, o5, o6⟩ := ok
  obtain ⟨x1, x2, x3, x4, x6⟩ := hx
  unfold wp_X12_takePan
  rw [x1, x2, x3, x4, pk_mul, nI_add]
  have k109 : ¬ (48 ≤ c ∧ c ≤ 57) → ¬ (c = 115 ∧ ¬ S.2.2.2.1 = 0) → wp_X12_takePan_109 Q F (nI c) := by
    intro q q2
    unfold wp_X12_takePan_109
    rw [x1, x2, x3]
    have k0 : tkP c S = none → wp_X12_takePan_157 Q F 0 := by
      intro z
      unfold wp_X12_takePan_157
      exact if_y rfl ⟨Or.inl rfl, h0 z⟩
    by_cases q3 : c = 47
    · refine if_y (by rw [q3]; rfl) ?_
      have q4 : ¬ c = 115 := by omega
      have k1 : S.1 < 3 ∧ (if S.1 = 0 then 1 < S.2.2.1 else S.2.2.1 = S.2.1) → wp_X12_takePan_157 Q F 1 := by
        intro y
        unfold wp_X12_takePan_157
        refine if_n t10 ?_
        have u29 : (upF F 121 30 (F 121 31)) 121 29 = nI S.1 := by rw [upF_eq, pk_un (by omega), x1]
        dsimp only [Nm]
        rw [u29, x3, nI_1]
        have hc2 : (S.1 + 1) * S.2.2.1 + 0 = S.1 * S.2.1 + S.2.2.1 := by
          rcases Nat.eq_zero_or_pos S.1 with u | u
          · rw [u]; omega
          · have y2 := y.2
            rw [if_neg (by omega)] at y2
            rw [y2, Nat.succ_mul]; omega
        refine ⟨Or.inr rfl, h1 _ _ (by unfold tkP; rw [if_neg q, if_neg q4, if_pos q3, if_pos y]) (fun q a b d => by rw [upF_ne _ _ _ a, upF_ne _ _ _ a, upF_ne _ _ _ a, upF_ne _ _ _ a]) (fun k hk => by rw [upF_eq, pk_un (by omega), upF_eq, pk_un (by omega), upF_eq, pk_un (by omega), upF_eq, pk_un (by omega)]) ⟨?_, ?_, ?_, ?_, fun j hj => ?_⟩⟩
        · rw [upF_eq, pk_un (by omega), upF_eq, pk_un (by omega), upF_eq, pk_us]
        · rw [upF_eq, pk_un (by omega), upF_eq, pk_un (by omega), upF_eq, pk_un (by omega), upF_eq, pk_us]
        · rw [upF_eq, pk_un (by omega), upF_eq, pk_us]; rfl
        · rw [upF_eq, pk_us]; rfl
        · have hj' : j < (S.1 + 1) * S.2.2.1 + 0 := hj
          rw [hc2] at hj'
          rw [upF_ne _ _ _ (by omega), upF_ne _ _ _ (by omega), upF_ne _ _ _ (by omega), upF_ne _ _ _ (by omega), upF_ne _ _ _ (by omega), upF_ne _ _ _ (by omega), upF_ne _ _ _ (by omega), upF_ne _ _ _ (by omega)]
          exact x6 j hj'
      have kn : ¬ (S.1 < 3 ∧ (if S.1 = 0 then 1 < S.2.2.1 else S.2.2.1 = S.2.1)) → tkP c S = none := fun z => by unfold tkP; rw [if_neg q, if_neg q4, if_pos q3, if_neg z]
      by_cases z : S.1 < 3
      · refine if_n (nI_ge (b := 3) (by omega) (by omega)) ?_
        by_cases y : S.1 = 0
        · refine if_y (by rw [y]; rfl) (if_c (fun u => k0 (kn ?_)) (fun u => k1 ?_))
          · have := (nI_leI (b := 1) (by omega) (by omega)).mp u
            rw [if_pos y]; omega
          · have : ¬ S.2.2.1 ≤ 1 := fun v => u (nI_le (b := 1) v (by omega))
            rw [if_pos y]; omega
        · refine if_n (c_ne (k := 0) (by omega) (by omega) y) (if_c (fun u => k1 ?_) (fun u => k0 (kn ?_)))
          · rw [if_neg y]; exact ⟨z, (nI_eq (by omega) (by omega)).mp u⟩
          · rw [if_neg y]; exact fun v => u (by rw [v.2])
      · exact if_y (nI_le (a := 3) (by omega) (by omega)) (k0 (kn (fun u => z u.1)))
    · refine if_n (c_ne (k := 47) (by omega) (by omega) q3) (k0 ?_)
      unfold tkP
      rw [if_neg q]
      by_cases q4 : c = 115
      · rw [if_pos q4, if_pos (Classical.byContradiction (fun u => q2 ⟨q4, u⟩))]
      · rw [if_neg q4, if_neg q3]
  refine m_digit (by omega) (fun q => ?_) (fun q => ?_)
  · refine if_n t10 ?_
    have k41 : ∀ t0, t0 = nI (if S.1 = 0 then 4 else S.2.1) → wp_X12_takePan_41 Q F (nI c) (nI (S.1 * S.2.1 + S.2.2.1)) t0 (nI S.2.2.1) := by
      intro t0 ht
      have hr : (if S.1 = 0 then 4 else S.2.1) ≤ 4 ∧ S.2.2.1 ≤ (if S.1 = 0 then 4 else S.2.1) := by
        by_cases z : S.1 = 0
        · rw [if_pos z]; exact ⟨Nat.le_refl _, (o3 z).2⟩
        · rw [if_neg z]; exact ⟨(o4 (by omega)).2.1, (o4 (by omega)).2.2⟩
      unfold wp_X12_takePan_41
      rw [ht]
      refine if_c (fun z => h0 ?_) (fun z => ?_)
      · have z' := (nI_eq (by omega) (by omega)).mp z
        unfold tkP; rw [if_pos q, if_pos (by omega)]
      · have z' : ¬ (if S.1 = 0 then 4 else S.2.1) ≤ S.2.2.1 := fun y => z (by congr 1; omega)
        have hcl : S.1 * S.2.1 + S.2.2.1 < 16 := by omega
        have e48 : nI c - 48 = nI (c - 48) := pk_sub (b := 48) q.1
        refine ⟨vp_in_nI hcl (by omega), vp_in_nI hcl (by omega), ?_⟩
        rw [nI_clamp (by omega), nb0, e48]
        have u31 : ∀ v w, (upF (upF (upF F 137 (S.1 * S.2.1 + S.2.2.1) v) 138 (S.1 * S.2.1 + S.2.2.1) w) 121 32 1) 121 31 = nI S.2.2.1 := fun v w => by rw [upF_eq, pk_un (by omega), upF_ne _ _ _ (by omega), upF_ne _ _ _ (by omega), x3]
        dsimp only [Nm]
        rw [u31, nI_1]
        refine h1 _ _ (by unfold tkP; rw [if_pos q, if_neg z']) (fun q a b d => by rw [upF_ne _ _ _ a, upF_ne _ _ _ a, upF_ne _ _ _ d, upF_ne _ _ _ b]) (fun k hk => by rw [upF_eq, pk_un (by omega), upF_eq, pk_un (by omega), upF_ne _ _ _ (by omega), upF_ne _ _ _ (by omega)]) ⟨?_, ?_, ?_, ?_, fun j hj => ?_⟩
        · rw [upF_eq, pk_un (by omega), upF_eq, pk_un (by omega), upF_ne _ _ _ (by omega), upF_ne _ _ _ (by omega), x1]
        · rw [upF_eq, pk_un (by omega), upF_eq, pk_un (by omega), upF_ne _ _ _ (by omega), upF_ne _ _ _ (by omega), x2]
        · rw [upF_eq, pk_us]
        · rw [upF_eq, pk_un (by omega), upF_eq, pk_us]; rfl
        · have hj' : j < S.1 * S.2.1 + (S.2.2.1 + 1) := hj
          rw [upF_ne _ _ _ (by omega), upF_ne _ _ _ (by omega), upF_ne _ _ _ (by omega), upF_eq, upF_ne _ _ _ (by omega), upF_ne _ _ _ (by omega), upF_eq, upF_ne _ _ _ (by omega)]
          show upd (F 137) (S.1 * S.2.1 + S.2.2.1) (nI (c - 48)) j = upd S.2.2.2.2.1 (S.1 * S.2.1 + S.2.2.1) (nI (c - 48)) j ∧ upd (F 138) (S.1 * S.2.1 + S.2.2.1) 0 j = upd S.2.2.2.2.2 (S.1 * S.2.1 + S.2.2.1) 0 j
          by_cases z : j = S.1 * S.2.1 + S.2.2.1
          · rw [z, pk_us, pk_us, pk_us, pk_us]; exact ⟨rfl, rfl⟩
          · rw [pk_un z, pk_un z, pk_un z, pk_un z]; exact x6 j (by omega)
    by_cases z : S.1 = 0
    · exact if_y (by rw [z]; rfl) (k41 _ (by rw [if_pos z]; rfl))
    · exact if_n (c_ne (k := 0) (by omega) (by omega) z) (k41 _ (by rw [if_neg z]))
  · refine if_y rfl ?_
    by_cases q2 : c = 115
    · refine if_y (by rw [q2]; rfl) ?_
      by_cases q3 : S.2.2.2.1 = 0
      · exact if_y (by rw [q3]; rfl) (k109 q (fun u => u.2 q3))
      · have hb : S.2.2.2.1 = 1 := by omega
        have hpos := o5 hb
        have em : nI (S.1 * S.2.1 + S.2.2.1) - 1 = nI (S.1 * S.2.1 + S.2.2.1 - 1) := pk_sub (b := 1) hpos
        refine if_n (nI_ne0 (by omega) (by omega)) ?_
        rw [em]
        refine ⟨vp_in_nI (by omega) (by omega), ?_⟩
        rw [nI_clamp (by omega), nb1]
        refine h1 _ _ (by unfold tkP; rw [if_neg q, if_pos q2, if_neg q3]) (fun q a b d => by rw [upF_ne _ _ _ a, upF_ne _ _ _ d]) (fun k hk => by rw [upF_eq, pk_un (by omega), upF_ne _ _ _ (by omega)]) ⟨?_, ?_, ?_, ?_, fun j hj => ?_⟩
        · rw [upF_eq, pk_un (by omega), upF_ne _ _ _ (by omega), x1]
        · rw [upF_eq, pk_un (by omega), upF_ne _ _ _ (by omega), x2]
        · rw [upF_eq, pk_un (by omega), upF_ne _ _ _ (by omega), x3]
        · rw [upF_eq, pk_us]; rfl
        · rw [upF_ne _ _ _ (by omega), upF_ne _ _ _ (by omega), upF_ne _ _ _ (by omega), upF_eq]
          refine ⟨(x6 j hj).1, ?_⟩
          show upd (F 138) (S.1 * S.2.1 + S.2.2.1 - 1) 1 j = upd S.2.2.2.2.2 (S.1 * S.2.1 + S.2.2.1 - 1) 1 j
          by_cases z : j = S.1 * S.2.1 + S.2.2.1 - 1
          · rw [z, pk_us, pk_us]
          · rw [pk_un z, pk_un z]; exact (x6 j hj).2
    · exact if_n (c_ne (k := 115) (by omega) (by omega) q2) (k109 q (fun u => q2 u.1))
