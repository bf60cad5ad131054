/-! taking out and judging, the other side; a whole cake there -/
theorem nb_m {t s b f : Int32} (h1 : ¬ t ≤ 0) (h2 : ¬ s = 0) (h3 : ¬ b < f) (hb : sm 9 b) : nb t s b f = if 9 ≤ b then b + 0 else b + 1 := by
  unfold nb
  rw [if_neg h1, if_neg h2, if_neg h3]
  obtain ⟨a, ha, rfl⟩ := hb
  rcases (by omega : a = 0 ∨ a = 1 ∨ a = 2 ∨ a = 3 ∨ a = 4 ∨ a = 5 ∨ a = 6 ∨ a = 7 ∨ a = 8 ∨ a = 9) with rfl | rfl | rfl | rfl | rfl | rfl | rfl | rfl | rfl | rfl <;> decide
theorem m_takeOut {R C : Nat} {F : gS} {Q : gS → Prop} (hR : R < 5) (hC : C < 5) (e0 : F 121 0 = nI R) (e1 : F 121 1 = nI C) (hb : ∀ c, c < R * C → sm 9 (F 141 c))
    (h : ∀ G, (∀ q, q ≠ 121 → q ≠ 141 → G q = F q) → (∀ j, j ≠ 59 → j ≠ 43 → G 121 j = F 121 j) → G 121 59 = sN (fun c => sk (F 143 c) (F 123 c) (F 141 c) (F 121 43)) (R * C) → G 121 43 = mx (F 121 43 - 1) → (∀ c, c < R * C → G 141 c = nb (F 143 c) (F 123 c) (F 141 c) (F 121 43)) → Q G) : wp_X12_takeOut F Q := by
  have h16 := RC16 hR hC
  unfold wp_X12_takeOut
  refine for2 (R * C) (fun c F' => (∀ q, q ≠ 121 → q ≠ 141 → F' q = F q) ∧ (∀ j, j ≠ 59 → F' 121 j = F 121 j) ∧ F' 121 59 = sN (fun c => sk (F 143 c) (F 123 c) (F 141 c) (F 121 43)) c ∧ F' 141 = pt c (fun c => nb (F 143 c) (F 123 c) (F 141 c) (F 121 43)) (F 141)) (by omega) (fun K c F' hc hI hK => ?_) (fun K F' hI => ?_) 0 _ (Nat.zero_le _) ⟨fun q h1 h2 => upF_ne _ _ _ h1, fun j hj => by rw [upF_eq, pk_un hj], by rw [upF_eq, pk_us]; rfl, by rw [upF_ne _ _ _ (by omega), pt_0]⟩
  · obtain ⟨i1, i2, i3, i4⟩ := hI
    have r143 : F' 143 = F 143 := i1 143 (by omega) (by omega)
    have r123 : F' 123 = F 123 := i1 123 (by omega) (by omega)
    have r141 : F' 141 c = F 141 c := by rw [i4, pt_ge _ _ (Nat.le_refl c)]
    have r43 : F' 121 43 = F 121 43 := i2 43 (by omega)
    have ci : (nI c).toNatClampNeg = c := nI_clamp (by omega)
    have i16 : vp_in (nI c) 16 := vp_in_nI (by omega) (by omega)
    have skp : sk (F 143 c) (F 123 c) (F 141 c) (F 121 43) = 0 → nb (F 143 c) (F 123 c) (F 141 c) (F 121 43) = F 141 c → K F' (nI c + 1) := by
      intro q1 q2
      refine hK _ ⟨i1, i2, ?_, ?_⟩
      · rw [i3]; show _ = _ + sk (F 143 c) (F 123 c) (F 141 c) (F 121 43); rw [q1]; simp
      · rw [i4, ← pt_s c (fun c => nb (F 143 c) (F 123 c) (F 141 c) (F 121 43)) (F 141) rfl]
        refine (upd_self _ _ ?_).symm
        rw [pt_ge _ _ (Nat.le_refl c)]; exact q2
    unfold wb_X12_takeOut_7
    refine m_cells (R := R) (C := C) (by rw [i2 0 (by omega), e0]) (by rw [i2 1 (by omega), e1]) ?_
    refine if_n (nI_ge hc (by omega)) ⟨i16, ?_⟩
    rw [ci, r143, r123, r141, r43]
    refine if_c (fun q => ?_) (fun q => ⟨i16, if_c (fun q2 => ?_) (fun q2 => ⟨i16, if_c (fun q3 => ?_) (fun q3 => ⟨i16, i16, ?_⟩)⟩)⟩)
    · exact skp (by unfold sk; rw [if_pos q]) (by unfold nb; rw [if_pos q])
    · exact skp (by unfold sk; rw [if_neg q, if_pos q2]) (by unfold nb; rw [if_neg q, if_pos q2])
    · exact skp (by unfold sk; rw [if_neg q, if_neg q2, if_pos q3]) (by unfold nb; rw [if_neg q, if_neg q2, if_pos q3])
    · have w141 : (upF F' 121 59 (F' 121 59 + 1)) 141 = F' 141 := upF_ne _ _ _ (by omega)
      rw [w141, r141]
      have en := nb_m q q2 q3 (hb c hc)
      have es : sk (F 143 c) (F 123 c) (F 141 c) (F 121 43) = 1 := by unfold sk; rw [if_neg q, if_neg q2, if_neg q3]
      have fin : ∀ v, v = nb (F 143 c) (F 123 c) (F 141 c) (F 121 43) → K (upF (upF F' 121 59 (F' 121 59 + 1)) 141 c v) (nI c + 1) := by
        intro v hv
        refine hK _ ⟨fun q h1 h2 => ?_, fun j hj => ?_, ?_, ?_⟩
        · rw [upF_ne _ _ _ h2, upF_ne _ _ _ h1, i1 q h1 h2]
        · rw [upF_ne _ _ _ (by omega), upF_eq, pk_un hj, i2 j hj]
        · rw [upF_ne _ _ _ (by omega), upF_eq, pk_us, i3]
          show _ = _ + sk (F 143 c) (F 123 c) (F 141 c) (F 121 43)
          rw [es]
        · rw [upF_eq, w141, i4]; exact pt_s c _ _ hv
      refine if_c (fun q4 => ⟨i16, ?_⟩) (fun q4 => ⟨i16, ?_⟩)
      · exact fin _ (by rw [en, if_pos q4])
      · exact fin _ (by rw [en, if_neg q4])
  · obtain ⟨i1, i2, i3, i4⟩ := hI
    unfold wb_X12_takeOut_7
    refine m_cells (R := R) (C := C) (by rw [i2 0 (by omega), e0]) (by rw [i2 1 (by omega), e1]) ?_
    refine if_y (nI_le (Nat.le_refl _) (by omega)) (m_atLeast ?_)
    refine h _ (fun q h1 h2 => ?_) (fun j h1 h2 => ?_) ?_ ?_ (fun c hc => ?_)
    · rw [upF_ne _ _ _ h1, i1 q h1 h2]
    · rw [upF_eq, pk_un h2, i2 j h1]
    · rw [upF_eq, pk_un (by omega), i3]
    · rw [upF_eq, pk_us, i2 43 (by omega)]
    · rw [upF_ne _ _ _ (by omega), i4, pt_lt _ _ hc]
theorem m_worthOf {k : Int32} {F : gS} {Q : Int32 → Prop} (hk : sm 5 k) (h : Q (wO k)) : wp_X12_worthOf k F Q := by
  obtain ⟨a, ha, rfl⟩ := hk
  unfold wp_X12_worthOf
  rcases (by omega : a = 0 ∨ a = 1 ∨ a = 2 ∨ a = 3 ∨ a = 4 ∨ a = 5) with rfl | rfl | rfl | rfl | rfl | rfl
  · exact if_n (by decide) (if_n (by decide) (if_n (by decide) (if_n (by decide) (if_n (by decide) h))))
  · exact if_y (by decide) h
  · exact if_n (by decide) (if_y (by decide) h)
  · exact if_n (by decide) (if_n (by decide) (if_y (by decide) h))
  · exact if_n (by decide) (if_n (by decide) (if_n (by decide) (if_y (by decide) h)))
  · exact if_n (by decide) (if_n (by decide) (if_n (by decide) (if_n (by decide) (if_y (by decide) h))))
def byM (me : Int32) : Int32 := if 20 ≤ me then (if me ≤ 100 then (if me ≤ 60 then 0 else 2) else 3) else 1
theorem m_j196 {F : gS} {Q : gS → Prop} {me : Int32} (h : Q (upF (upF F 121 54 (kdO (F 121 59) (F 121 57) me)) 121 60 (wO (kdO (F 121 59) (F 121 57) me)))) : wp_X12_judge_196 Q F (byM me) := by
  have hs := kdO_sm (F 121 59) (F 121 57) me
  unfold wp_X12_judge_196
  have e54 : ∀ v, (upF F 121 54 v) 121 54 = v := fun v => by rw [upF_eq, pk_us]
  have hk : ∀ v, v = kdO (F 121 59) (F 121 57) me → wp_X12_worthOf ((upF F 121 54 v) 121 54) (upF F 121 54 v) (fun r => Q (upF (upF F 121 54 v) 121 60 r)) := by
    intro v hv
    subst hv
    rw [e54]
    exact m_worthOf hs h
  refine if_c (fun q => if_c (fun q2 => ?_) (fun q2 => ?_)) (fun q => ?_)
  · exact hk _ (by unfold kdO byM; rw [if_pos q, if_pos q2])
  · exact hk _ (by unfold kdO; rw [if_pos q, if_neg q2])
  · exact hk _ (by unfold kdO; rw [if_neg q])
theorem m_j128 {F : gS} {Q : gS → Prop} {x1 x2 x3 x4 : Int32} (hm : ¬ F 121 58 = 0)
    (h : ∀ G, (∀ q, q ≠ 121 → G q = F q) → (∀ j, (j < 54 ∨ 60 < j ∨ j = 59 ∨ j = 58) → G 121 j = F 121 j) → G 121 55 = x1 / F 121 58 → G 121 56 = x2 / F 121 58 → G 121 57 = x4 - x3 → G 121 54 = kdO (F 121 59) (x4 - x3) (x1 / F 121 58) → G 121 60 = wO (kdO (F 121 59) (x4 - x3) (x1 / F 121 58)) → Q G) : wp_X12_judge_128 Q F x1 x2 x3 x4 := by
  unfold wp_X12_judge_128
  have a58 : ∀ v, (upF F 121 55 v) 121 58 = F 121 58 := fun v => by rw [upF_eq, pk_un (by decide)]
  refine ⟨hm, ?_⟩
  dsimp only [Nm]
  rw [a58]
  refine ⟨hm, ?_⟩
  generalize hF3 : upF (upF (upF F 121 55 (x1 / F 121 58)) 121 56 (x2 / F 121 58)) 121 57 (x4 - x3) = F3
  have b55 : F3 121 55 = x1 / F 121 58 := by rw [← hF3, upF_eq, pk_un (by decide), upF_eq, pk_un (by decide), upF_eq, pk_us]
  have b56 : F3 121 56 = x2 / F 121 58 := by rw [← hF3, upF_eq, pk_un (by decide), upF_eq, pk_us]
  have b57 : F3 121 57 = x4 - x3 := by rw [← hF3, upF_eq, pk_us]
  have bj : ∀ j, (j < 54 ∨ 60 < j ∨ j = 59 ∨ j = 58) → F3 121 j = F 121 j := fun j hj => by rw [← hF3, upF_eq, pk_un (by omega), upF_eq, pk_un (by omega), upF_eq, pk_un (by omega)]
  have bf : ∀ q, q ≠ 121 → F3 q = F q := fun q hq => by rw [← hF3, upF_ne _ _ _ hq, upF_ne _ _ _ hq, upF_ne _ _ _ hq]
  clear hF3
  have hj : wp_X12_judge_196 Q F3 (byM (F3 121 55)) := by
    refine m_j196 ?_
    rw [b57, b55, bj 59 (by omega)]
    refine h _ (fun q hq => ?_) (fun j hj => ?_) ?_ ?_ ?_ ?_ ?_
    · rw [upF_ne _ _ _ hq, upF_ne _ _ _ hq, bf q hq]
    · rw [upF_eq, pk_un (by omega), upF_eq, pk_un (by omega), bj j hj]
    · rw [upF_eq, pk_un (by decide), upF_eq, pk_un (by decide), b55]
    · rw [upF_eq, pk_un (by decide), upF_eq, pk_un (by decide), b56]
    · rw [upF_eq, pk_un (by decide), upF_eq, pk_un (by decide), b57]
    · rw [upF_eq, pk_un (by decide), upF_eq, pk_us]
    · rw [upF_eq, pk_us]
  unfold byM at hj
  refine if_c (fun q => if_c (fun q2 => if_c (fun q3 => ?_) (fun q3 => ?_)) (fun q2 => ?_)) (fun q => ?_)
  · rw [if_pos q, if_pos q2, if_pos q3] at hj; exact hj
  · rw [if_pos q, if_pos q2, if_neg q3] at hj; exact hj
  · rw [if_pos q, if_neg q2] at hj; exact hj
  · rw [if_neg q] at hj; exact hj
theorem m_judge {R C : Nat} {F : gS} {Q : gS → Prop} (hR : R < 5) (hC : C < 5) (e0 : F 121 0 = nI R) (e1 : F 121 1 = nI C) (hm : ¬ coN (F 143) (R * C) = 0)
    (h : ∀ G, (∀ q, q ≠ 121 → G q = F q) → (∀ j, (j < 54 ∨ 60 < j ∨ j = 59) → G 121 j = F 121 j) → G 121 58 = coN (F 143) (R * C) → G 121 55 = sN (fun c => if F 143 c ≤ 0 then 0 else F 146 (2 * c)) (R * C) / coN (F 143) (R * C) → G 121 56 = sN (fun c => if F 143 c ≤ 0 then 0 else F 146 (2 * c + 1)) (R * C) / coN (F 143) (R * C) → G 121 57 = hiN (F 143) (R * C) - loN 268435456 (F 143) (R * C) → G 121 54 = kdO (F 121 59) (hiN (F 143) (R * C) - loN 268435456 (F 143) (R * C)) (sN (fun c => if F 143 c ≤ 0 then 0 else F 146 (2 * c)) (R * C) / coN (F 143) (R * C)) → G 121 60 = wO (kdO (F 121 59) (hiN (F 143) (R * C) - loN 268435456 (F 143) (R * C)) (sN (fun c => if F 143 c ≤ 0 then 0 else F 146 (2 * c)) (R * C) / coN (F 143) (R * C))) → Q G) : wp_X12_judge F Q := by
  have h16 := RC16 hR hC
  unfold wp_X12_judge
  refine for6 (R * C) (fun c F' x1 x2 x3 x4 => (∀ q, q ≠ 121 → F' q = F q) ∧ (∀ j, j ≠ 58 → F' 121 j = F 121 j) ∧ F' 121 58 = coN (F 143) c ∧ x1 = sN (fun c => if F 143 c ≤ 0 then 0 else F 146 (2 * c)) c ∧ x2 = sN (fun c => if F 143 c ≤ 0 then 0 else F 146 (2 * c + 1)) c ∧ x3 = loN 268435456 (F 143) c ∧ x4 = hiN (F 143) c) (by omega) (fun K c F' x1 x2 x3 x4 hc hI hK => ?_) (fun K F' x1 x2 x3 x4 hI => ?_) 0 _ _ _ _ _ (Nat.zero_le _) ⟨fun q hq => upF_ne _ _ _ hq, fun j hj => by rw [upF_eq, pk_un hj], by rw [upF_eq, pk_us]; rfl, rfl, rfl, rfl, rfl⟩
  · obtain ⟨i1, i2, i3, rfl, rfl, rfl, rfl⟩ := hI
    have r143 : F' 143 = F 143 := i1 143 (by omega)
    have r146 : F' 146 = F 146 := i1 146 (by omega)
    have ci : (nI c).toNatClampNeg = c := nI_clamp (by omega)
    have i16 : vp_in (nI c) 16 := vp_in_nI (by omega) (by omega)
    have ek : 2 * nI c = nI (2 * c) := pk_mul 2 c
    have ek1 : nI (2 * c) + 1 = nI (2 * c + 1) := nI_1 (2 * c)
    unfold wb_X12_judge_18
    refine m_cells (R := R) (C := C) (by rw [i2 0 (by omega), e0]) (by rw [i2 1 (by omega), e1]) ?_
    refine if_n (nI_ge hc (by omega)) ⟨i16, ?_⟩
    rw [ci, r143, ek, ek1]
    refine if_c (fun q => ?_) (fun q => ⟨vp_in_nI (by omega) (by omega), vp_in_nI (by omega) (by omega), i16, ?_⟩)
    · refine hK _ _ _ _ _ ⟨i1, i2, ?_, ?_, ?_, ?_, ?_⟩
      · rw [i3]; show _ = if F 143 c ≤ 0 then _ else _; rw [if_pos q]
      · show _ = sN _ c + (if F 143 c ≤ 0 then 0 else F 146 (2 * c)); rw [if_pos q]; simp
      · show _ = sN _ c + (if F 143 c ≤ 0 then 0 else F 146 (2 * c + 1)); rw [if_pos q]; simp
      · show _ = if F 143 c ≤ 0 then _ else _; rw [if_pos q]
      · show _ = if F 143 c ≤ 0 then _ else _; rw [if_pos q]
    · have w143 : (upF F' 121 58 (F' 121 58 + 1)) 143 = F 143 := by rw [upF_ne _ _ _ (by omega), r143]
      have w146 : (upF F' 121 58 (F' 121 58 + 1)) 146 = F 146 := by rw [upF_ne _ _ _ (by omega), r146]
      rw [w143, w146, nI_clamp (by omega), nI_clamp (by omega)]
      have fin : ∀ lo hi, lo = loN 268435456 (F 143) (c + 1) → hi = hiN (F 143) (c + 1) → K (upF F' 121 58 (F' 121 58 + 1)) (sN (fun c => if F 143 c ≤ 0 then 0 else F 146 (2 * c)) c + F 146 (2 * c)) (sN (fun c => if F 143 c ≤ 0 then 0 else F 146 (2 * c + 1)) c + F 146 (2 * c + 1)) lo hi (nI c + 1) := by
        intro lo hi hlo hhi
        refine hK _ _ _ _ _ ⟨fun q hq => ?_, fun j hj => ?_, ?_, ?_, ?_, hlo, hhi⟩
        · rw [upF_ne _ _ _ hq, i1 q hq]
        · rw [upF_eq, pk_un hj, i2 j hj]
        · rw [upF_eq, pk_us, i3]; show _ = if F 143 c ≤ 0 then _ else _; rw [if_neg q]
        · show _ = sN _ c + (if F 143 c ≤ 0 then 0 else F 146 (2 * c)); rw [if_neg q]
        · show _ = sN _ c + (if F 143 c ≤ 0 then 0 else F 146 (2 * c + 1)); rw [if_neg q]
      have k95 : ∀ t0, t0 = loN 268435456 (F 143) (c + 1) → wp_X12_judge_95 K Q (upF F' 121 58 (F' 121 58 + 1)) (sN (fun c => if F 143 c ≤ 0 then 0 else F 146 (2 * c)) c + F 146 (2 * c)) (sN (fun c => if F 143 c ≤ 0 then 0 else F 146 (2 * c + 1)) c + F 146 (2 * c + 1)) (hiN (F 143) c) (nI c) t0 := by
        intro t0 ht
        unfold wp_X12_judge_95
        refine ⟨i16, ?_⟩
        rw [ci, w143]
        refine if_c (fun q2 => ?_) (fun q2 => ⟨i16, ?_⟩)
        · refine fin _ _ ht ?_
          show _ = if F 143 c ≤ 0 then _ else if hiN (F 143) c < F 143 c then _ else _
          rw [if_neg q, if_neg (Int32.not_lt.mpr q2)]
        · refine fin _ _ ht ?_
          show _ = if F 143 c ≤ 0 then _ else if hiN (F 143) c < F 143 c then _ else _
          rw [if_neg q, if_pos (Int32.not_le.mp q2)]
      refine if_c (fun q2 => k95 _ ?_) (fun q2 => ⟨i16, k95 _ ?_⟩)
      · show _ = if F 143 c ≤ 0 then _ else if F 143 c < loN 268435456 (F 143) c then _ else _
        rw [if_neg q, if_neg (Int32.not_lt.mpr q2)]
      · show _ = if F 143 c ≤ 0 then _ else if F 143 c < loN 268435456 (F 143) c then _ else _
        rw [if_neg q, if_pos (Int32.not_le.mp q2)]
  · obtain ⟨i1, i2, i3, rfl, rfl, rfl, rfl⟩ := hI
    unfold wb_X12_judge_18
    refine m_cells (R := R) (C := C) (by rw [i2 0 (by omega), e0]) (by rw [i2 1 (by omega), e1]) ?_
    refine if_y (nI_le (Nat.le_refl _) (by omega)) (m_j128 (by rw [i3]; exact hm) (fun G g1 g2 g3 g4 g5 g6 g7 => ?_))
    rw [i3] at g3 g4 g6 g7
    rw [i2 59 (by omega)] at g6 g7
    exact h G (fun q hq => by rw [g1 q hq, i1 q hq]) (fun j hj => by rw [g2 j (by omega), i2 j (by omega)]) (by rw [g2 58 (by omega), i3]) g3 g4 g5 g6 g7
/-! low and high -/
theorem lohi {th : Nat → Int32} {B n : Nat} (hB : B < 61) (h : ∀ j, j < n → sm B (th j)) : ∀ c, c ≤ n → (coN th c = 0 ∧ loN 268435456 th c = 268435456 ∧ loN 61 th c = 61 ∧ hiN th c = 0 ∧ ∀ j, j < c → th j ≤ 0) ∨ (∃ k l hh : Nat, 1 ≤ k ∧ k ≤ c ∧ coN th c = nI k ∧ loN 268435456 th c = nI l ∧ loN 61 th c = nI l ∧ hiN th c = nI hh ∧ l ≤ hh ∧ hh ≤ B)
  | 0, _ => Or.inl ⟨rfl, rfl, rfl, rfl, fun j hj => absurd hj (Nat.not_lt_zero j)⟩
  | c + 1, hc => by
    have ih := lohi hB h c (by omega)
    have eC : coN th (c + 1) = if th c ≤ 0 then coN th c else coN th c + 1 := rfl
    have eF : loN 268435456 th (c + 1) = if th c ≤ 0 then loN 268435456 th c else if th c < loN 268435456 th c then th c else loN 268435456 th c := rfl
    have eM : loN 61 th (c + 1) = if th c ≤ 0 then loN 61 th c else if th c < loN 61 th c then th c else loN 61 th c := rfl
    have eH : hiN th (c + 1) = if th c ≤ 0 then hiN th c else if hiN th c < th c then th c else hiN th c := rfl
    by_cases q : th c ≤ 0
    · rw [if_pos q] at eC eF eM eH
      rw [eC, eF, eM, eH]
      rcases ih with ⟨a1, a2, a3, a4, a5⟩ | ⟨k, l, hh, b1, b2, b3⟩
      · refine Or.inl ⟨a1, a2, a3, a4, fun j hj => ?_⟩
        rcases Nat.lt_or_ge j c with z | z
        · exact a5 j z
        · have : j = c := by omega
          rw [this]; exact q
      · exact Or.inr ⟨k, l, hh, b1, by omega, b3⟩
    · rw [if_neg q] at eC eF eM eH
      obtain ⟨a, ha, e⟩ := h c (by omega)
      rw [e] at q eF eM eH
      rw [eC, eF, eM, eH]
      rcases ih with ⟨a1, a2, a3, a4, a5⟩ | ⟨k, l, hh, b1, b2, b3, b4, b5, b6, b7, b8⟩
      · have y1 : nI a < 268435456 := nI_lt (b := 268435456) (by omega) (by omega)
        have y2 : nI a < 61 := nI_lt (b := 61) (by omega) (by omega)
        have y3 : (0 : Int32) < nI a := Int32.not_le.mp q
        rw [a1, a2, a3, a4, if_pos y1, if_pos y2, if_pos y3]
        exact Or.inr ⟨1, a, a, by omega, by omega, rfl, rfl, rfl, rfl, by omega, by omega⟩
      · rw [b3, b4, b5, b6]
        refine Or.inr ⟨k + 1, if a < l then a else l, if hh < a then a else hh, by omega, by omega, nI_1 k, ?_, ?_, ?_, ?_, ?_⟩
        · by_cases z : a < l
          · rw [if_pos (nI_lt z (by omega)), if_pos z]
          · rw [if_neg (nI_nlt (by omega) (by omega)), if_neg z]
        · by_cases z : a < l
          · rw [if_pos (nI_lt z (by omega)), if_pos z]
          · rw [if_neg (nI_nlt (by omega) (by omega)), if_neg z]
        · by_cases z : hh < a
          · rw [if_pos (nI_lt z (by omega)), if_pos z]
          · rw [if_neg (nI_nlt (by omega) (by omega)), if_neg z]
        · split <;> split <;> omega
        · split <;> omega
