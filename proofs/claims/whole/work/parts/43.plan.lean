/-! the text of a plan -/
abbrev XS : Type := Nat × (Nat → Nat) × Nat × (Nat → Int32)
def swI (c : Nat) : Option Nat := if c = 110 then some 0 else if c = 101 then some 1 else if c = 115 then some 2 else if c = 119 then some 3 else none
def sgn : Nat → Nat
  | 0 => 102
  | 1 => 97
  | 2 => 116
  | _ => 117
def mos : Nat → Nat
  | 0 => 0
  | 1 => 9
  | _ => 60
def dgX (c : Nat) (X : XS) : Prop := 1 ≤ 10 * X.2.1 X.1 + (c - 48) ∧ 10 * X.2.1 X.1 + (c - 48) ≤ mos X.1 ∧ ¬ (X.1 = 2 ∧ 0 < X.2.2.1)
def swX (X : XS) : Prop := X.1 = 2 ∧ 1 ≤ X.2.1 2 ∧ X.2.2.1 < 6
def sgX (c : Nat) (X : XS) : Prop := X.1 < 4 ∧ c = sgn X.1 ∧ (X.1 = 0 ∨ 1 ≤ X.2.1 X.1)
/-- what a letter makes of what was read -/
def tkX (c : Nat) (X : XS) (R : Option XS) : Prop :=
  if 48 ≤ c ∧ c ≤ 57 then (dgX c X ∧ R = some (X.1, uN X.2.1 X.1 (10 * X.2.1 X.1 + (c - 48)), X.2.2.1, X.2.2.2)) ∨ (¬ dgX c X ∧ R = none)
  else match swI c with
    | some d => (swX X ∧ R = some (X.1, X.2.1, X.2.2.1 + 1, upd X.2.2.2 X.2.2.1 (nI d))) ∨ (¬ swX X ∧ R = none)
    | none => (sgX c X ∧ R = some (X.1 + 1, X.2.1, X.2.2.1, X.2.2.2)) ∨ (¬ sgX c X ∧ R = none)
theorem tkX_u {c : Nat} {X : XS} {R R' : Option XS} (h : tkX c X R) (h' : tkX c X R') : R = R' := by
  unfold tkX at h h'
  by_cases q : 48 ≤ c ∧ c ≤ 57
  · rw [if_pos q] at h h'
    rcases h with ⟨a, rfl⟩ | ⟨a, rfl⟩ <;> rcases h' with ⟨b, rfl⟩ | ⟨b, rfl⟩
    · rfl
    · exact absurd a b
    · exact absurd b a
    · rfl
  · rw [if_neg q] at h h'
    cases hs : swI c with
    | some d =>
      rw [hs] at h h'
      rcases h with ⟨a, rfl⟩ | ⟨a, rfl⟩ <;> rcases h' with ⟨b, rfl⟩ | ⟨b, rfl⟩
      · rfl
      · exact absurd a b
      · exact absurd b a
      · rfl
    | none =>
      rw [hs] at h h'
      rcases h with ⟨a, rfl⟩ | ⟨a, rfl⟩ <;> rcases h' with ⟨b, rfl⟩ | ⟨b, rfl⟩
      · rfl
      · exact absurd a b
      · exact absurd b a
      · rfl
theorem tkX_d {c : Nat} {X : XS} (q : 48 ≤ c ∧ c ≤ 57) (h : dgX c X) : tkX c X (some (X.1, uN X.2.1 X.1 (10 * X.2.1 X.1 + (c - 48)), X.2.2.1, X.2.2.2)) := by
  unfold tkX; rw [if_pos q]; exact Or.inl ⟨h, rfl⟩
theorem tkX_w {c d : Nat} {X : XS} (q : ¬ (48 ≤ c ∧ c ≤ 57)) (hs : swI c = some d) (h : swX X) : tkX c X (some (X.1, X.2.1, X.2.2.1 + 1, upd X.2.2.2 X.2.2.1 (nI d))) := by
  unfold tkX; rw [if_neg q, hs]; exact Or.inl ⟨h, rfl⟩
theorem tkX_g {c : Nat} {X : XS} (q : ¬ (48 ≤ c ∧ c ≤ 57)) (hs : swI c = none) (h : sgX c X) : tkX c X (some (X.1 + 1, X.2.1, X.2.2.1, X.2.2.2)) := by
  unfold tkX; rw [if_neg q, hs]; exact Or.inl ⟨h, rfl⟩
theorem tkX_n {c : Nat} {X : XS} (hd : 48 ≤ c ∧ c ≤ 57 → ¬ dgX c X) (hs : ∀ d, swI c = some d → ¬ swX X) (hg : ¬ (48 ≤ c ∧ c ≤ 57) → swI c = none → ¬ sgX c X) : tkX c X none := by
  unfold tkX
  by_cases q : 48 ≤ c ∧ c ≤ 57
  · rw [if_pos q]; exact Or.inr ⟨hd q, rfl⟩
  · rw [if_neg q]
    cases h : swI c with
    | some d => exact Or.inr ⟨hs d h, rfl⟩
    | none => exact Or.inr ⟨hg q h, rfl⟩
theorem sw_dig {c d : Nat} (h : swI c = some d) : (c = 110 ∧ d = 0 ∨ c = 101 ∧ d = 1 ∨ c = 115 ∧ d = 2 ∨ c = 119 ∧ d = 3) := by
  unfold swI at h
  by_cases q0 : c = 110
  · rw [if_pos q0] at h; have := Option.some.inj h; omega
  rw [if_neg q0] at h
  by_cases q1 : c = 101
  · rw [if_pos q1] at h; have := Option.some.inj h; omega
  rw [if_neg q1] at h
  by_cases q2 : c = 115
  · rw [if_pos q2] at h; have := Option.some.inj h; omega
  rw [if_neg q2] at h
  by_cases q3 : c = 119
  · rw [if_pos q3] at h; have := Option.some.inj h; omega
  rw [if_neg q3] at h; cases h
theorem sw_none {c : Nat} (h : swI c = none) : ¬ c = 110 ∧ ¬ c = 101 ∧ ¬ c = 115 ∧ ¬ c = 119 := by
  unfold swI at h
  refine ⟨fun q => ?_, fun q => ?_, fun q => ?_, fun q => ?_⟩ <;> subst q <;> simp at h
theorem sw_no {c : Nat} (h : ¬ c = 110 ∧ ¬ c = 101 ∧ ¬ c = 115 ∧ ¬ c = 119) : swI c = none := by
  unfold swI
  rw [if_neg h.1, if_neg h.2.1, if_neg h.2.2.1, if_neg h.2.2.2]
/-! the texts "nesw" and "fatu" -/
theorem nesw_i : ∀ k : Nat, k < 4 → ((gText.getD 0 []).getD k 0) = nI (if k = 0 then 110 else if k = 1 then 101 else if k = 2 then 115 else 119) := by decide +kernel
theorem chr_n {c : Nat} (h : c ≤ 126) : ((nI c).toUInt32 % 65536).toInt32 = nI c := by
  rw [pk_char, pk_tn (by omega), Nat.mod_eq_of_lt (by omega)]
theorem byt_n : ∀ c : Nat, c < 127 → (nI c).toInt8.toInt32 = nI c := by decide +kernel
theorem s_indexOf {c : Nat} {F : gS} {Q : Int32 → Prop} (hc : c ≤ 126) (hs : ∀ d, swI c = some d → Q (nI d)) (hn : swI c = none → Q (-1)) : wp_J0_indexOf_0f7a4_0 (nI c) F Q := by
  unfold wp_J0_indexOf_0f7a4_0 wp_J0_indexOf_7cf53_0 wp_J0_isLatin1_aae02_0 wp_J0_length_8abf5_0 wp_J0_coder_7d493_0
  refine if_n t10 (if_y rfl (if_n t10 (if_n t10 ?_)))
  have e4 : (4 : Int32) >>> ((0 : Int32) &&& 31) = 4 := by decide
  dsimp only
  rw [e4]
  unfold wp_J1_indexOf_4cfef_0 wp_J1_canEncode_9a6ad
  refine if_n (nI_pos (by omega)) (if_n (nI_nlt (a := 255) (by omega) (by omega)) (if_n t10 ?_))
  have e0 : (if (0 : Int32) < 0 then (0 : Int32) else 0) = 0 := by decide
  have e44 : (if (4 : Int32) < 4 then (4 : Int32) else 4) = 4 := by decide
  rw [e0, e44]
  refine if_y (by decide) ?_
  unfold wp_J1_indexOfChar_4cfef_0
  rw [byt_n c (by omega)]
  refine for1 4 (fun i => ∀ k, k < i → ¬ ((gText.getD 0 []).getD k 0) = nI c) (by omega) (fun K i hi hI hK => ?_) (fun K hI => ?_) 0 (Nat.zero_le _) (fun k hk => absurd hk (by omega))
  · unfold wb_J1_indexOfChar_4cfef_0_7
    refine if_n (nI_ge (b := 4) hi (by omega)) ⟨vp_in_nI hi (by omega), ?_⟩
    rw [nI_clamp (by omega)]
    refine if_c (fun q => hs i ?_) (fun q => hK (fun k hk => ?_))
    · rw [nesw_i i hi] at q
      have q' := (nI_eq (by split; omega; split; omega; split <;> omega) (by omega)).mp q
      rcases (by omega : i = 0 ∨ i = 1 ∨ i = 2 ∨ i = 3) with rfl | rfl | rfl | rfl
      · have : c = 110 := by simpa using q'.symm
        subst this; decide
      · have : c = 101 := by simpa using q'.symm
        subst this; decide
      · have : c = 115 := by simpa using q'.symm
        subst this; decide
      · have : c = 119 := by simpa using q'.symm
        subst this; decide
    · rcases Nat.lt_or_ge k i with z | z
      · exact hI k z
      · have : k = i := by omega
        subst this; exact q
  · unfold wb_J1_indexOfChar_4cfef_0_7
    refine if_y (nI_le (a := 4) (Nat.le_refl _) (by omega)) (hn (sw_no ⟨fun q => ?_, fun q => ?_, fun q => ?_, fun q => ?_⟩))
    · exact hI 0 (by omega) (by rw [q]; decide)
    · exact hI 1 (by omega) (by rw [q]; decide)
    · exact hI 2 (by omega) (by rw [q]; decide)
    · exact hI 3 (by omega) (by rw [q]; decide)
theorem sgn_i : ∀ p : Nat, p < 4 → (((((gText.getD 1 []).getD p 0) &&& 255).toUInt32 % 65536).toInt32) = nI (sgn p) := by decide +kernel
theorem nar_c {c : Nat} (h : c ≤ 126) : narrow .char (.int (nI c)) = .int (nI c) := by
  have := pk_nc (nI c)
  rw [chr_n h] at this; exact this
theorem s_charAt {p : Nat} {F : gS} {Q : Int32 → Prop} (hp : p < 4) (h : Q (nI (sgn p))) : wp_J0_charAt_5068e_1 (nI p) F Q := by
  have hs : sgn p ≤ 126 := by
    rcases (by omega : p = 0 ∨ p = 1 ∨ p = 2 ∨ p = 3) with rfl | rfl | rfl | rfl <;> decide
  unfold wp_J0_charAt_5068e_1 wp_J0_isLatin1_aae02_1
  refine if_n t10 (if_y rfl (if_n t10 ?_))
  unfold wp_J1_charAt_3b067_1 wp_J0_checkIndex_df160 wp_J3_checkIndex_8e157
  refine if_n (nI_pos (by omega)) (if_y (nI_lt (b := 4) hp (by omega)) ⟨vp_in_nI hp (by omega), ?_⟩)
  rw [nI_clamp (by omega), sgn_i p hp]
  exact ⟨nar_c hs, nar_c hs, h⟩
/-! one letter, the first side -/
def LX (F : gS) (X : XS) : Prop := F 6 3 = nI X.1 ∧ (∀ k, k < 5 → F 7 k = nI (X.2.1 k)) ∧ F 6 2 = nI X.2.2.1 ∧ ∀ j, j < X.2.2.1 → F 8 j = X.2.2.2 j
def okX (X : XS) : Prop := X.1 ≤ 4 ∧ (∀ k, k < 5 → X.2.1 k ≤ 60) ∧ X.2.2.1 ≤ 6
theorem mos_i : ∀ p : Nat, p < 5 → gMost.getD p 0 = nI (mos p) := by decide +kernel
theorem mos_le (p : Nat) : mos p ≤ 60 := by
  match p with
  | 0 => exact Nat.zero_le _
  | 1 => show 9 ≤ 60; omega
  | _ + 2 => exact Nat.le_refl _
theorem s_takeL {c : Nat} {X : XS} {F : gS} {Q : Int32 → gS → Prop} (hc : c ≤ 126) (ok : okX X) (hx : LX F X) (h0 : tkX c X none → Q 0 F) (h1 : ∀ X' G, tkX c X (some X') → (∀ q, q ≠ 6 → q ≠ 7 → q ≠ 8 → G q = F q) → LX G X' → Q 1 G) : wp_X8_take (nI c) F Q := by
  obtain ⟨o1, o2, o3⟩ := ok
  obtain ⟨x1, x2, x3, x4⟩ := hx
  have op := o2 X.1 (by omega)
  unfold wp_X8_take
  refine s_digit (by omega) (fun q => ?_) (fun q => ?_)
  · refine if_n t10 ?_
    have ip : vp_in (nI X.1) 5 := vp_in_nI (by omega) (by omega)
    have en : 10 * nI (X.2.1 X.1) + (nI c - 48) = nI (10 * X.2.1 X.1 + (c - 48)) := by
      have z1 : nI c - 48 = nI (c - 48) := pk_sub (b := 48) q.1
      have z2 : 10 * nI (X.2.1 X.1) = nI (10 * X.2.1 X.1) := pk_mul 10 _
      rw [z1, z2, nI_add]
    have no : ¬ dgX c X → Q 0 F := fun z => h0 (tkX_n (fun _ => z) (fun d hd => by have := sw_dig hd; omega) (fun z2 => absurd q z2))
    have yes : dgX c X → Q 1 (upF F 7 X.1 (nI (10 * X.2.1 X.1 + (c - 48)))) := by
      intro z
      refine h1 _ _ (tkX_d q z) (fun a a1 a2 a3 => upF_ne _ _ _ a2) ⟨?_, fun k hk => ?_, ?_, fun j hj => ?_⟩
      · rw [upF_ne _ _ _ (by omega), x1]
      · rw [upF_eq]
        show upd (F 7) X.1 _ k = nI (uN X.2.1 X.1 _ k)
        by_cases y : k = X.1
        · rw [y, pk_us, uN_s]
        · rw [pk_un y, uN_n y, x2 k hk]
      · rw [upF_ne _ _ _ (by omega), x3]
      · rw [upF_ne _ _ _ (by omega), x4 j hj]
    have hm := mos_le X.1
    unfold wp_X8_takeDigit
    rw [x1, nI_clamp (by omega), x2 X.1 (by omega), en, mos_i X.1 (by omega), x3]
    refine ⟨ip, if_c (fun z => no (fun y => ?_)) (fun z => ⟨ip, if_c (fun y => no (fun u => ?_)) (fun y => if_c (fun u => if_c (fun v => ⟨ip, yes ⟨?_, ?_, ?_⟩⟩) (fun v => no (fun w => ?_))) (fun u => ⟨ip, yes ⟨?_, ?_, ?_⟩⟩))⟩)⟩
    · have := (nI_ltI (b := 1) (by omega) (by omega)).mp z
      have := y.1; omega
    · have := (nI_ltI (by omega) (by omega)).mp y
      have := u.2.1; omega
    · have : ¬ 10 * X.2.1 X.1 + (c - 48) < 1 := fun w => z (nI_lt (b := 1) w (by omega))
      omega
    · have : ¬ mos X.1 < 10 * X.2.1 X.1 + (c - 48) := fun w => y (nI_lt w (by omega))
      omega
    · have := (nI_leI (b := 0) (by omega) (by omega)).mp v
      intro w; omega
    · have u' : X.1 = 2 := (nI_eq (b := 2) (by omega) (by omega)).mp u
      have : ¬ X.2.2.1 ≤ 0 := fun t => v (nI_le (b := 0) t (by omega))
      exact w.2.2 ⟨u', by omega⟩
    · have : ¬ 10 * X.2.1 X.1 + (c - 48) < 1 := fun w => z (nI_lt (b := 1) w (by omega))
      omega
    · have : ¬ mos X.1 < 10 * X.2.1 X.1 + (c - 48) := fun w => y (nI_lt w (by omega))
      omega
    · intro w; exact u (by rw [w.1]; rfl)
  · refine if_y rfl ?_
    rw [chr_n hc]
    refine s_indexOf hc (fun d hd => ?_) (fun hn => ?_)
    · have hdd := sw_dig hd
      refine if_n (nI_pos (by omega)) ?_
      have no : ¬ swX X → Q 0 F := fun z => h0 (tkX_n (fun y => absurd y q) (fun _ _ => z) (fun _ y => by rw [hd] at y; cases y))
      unfold wp_X8_takeSwing
      rw [x1, t2c, x2 2 (by omega), x3]
      have o2' := o2 2 (by omega)
      refine if_c (fun u => ⟨vp_in_nI (n := 2) (by omega) (by omega), if_c (fun v => no (fun w => ?_)) (fun v => if_c (fun t => ⟨vp_in_nI ?_ (by omega), ?_⟩) (fun t => no (fun w => t (nI_lt (b := 6) w.2.2 (by omega)))))⟩) (fun u => no (fun w => u (by rw [w.1]; rfl)))
      · have := (nI_ltI (b := 1) (by omega) (by omega)).mp v
        have := w.2.1; omega
      · exact (nI_ltI (b := 6) (by omega) (by omega)).mp t
      · have u' : X.1 = 2 := (nI_eq (b := 2) (by omega) (by omega)).mp u
        have v' : ¬ X.2.1 2 < 1 := fun w => v (nI_lt (b := 1) w (by omega))
        have t' : X.2.2.1 < 6 := (nI_ltI (b := 6) (by omega) (by omega)).mp t
        have e62 : ∀ w, (upF F 8 (nI X.2.2.1).toNatClampNeg w) 6 2 = nI X.2.2.1 := fun w => by rw [upF_ne _ _ _ (by omega), x3]
        dsimp only [Nm]
        rw [e62, nI_1, nI_clamp (by omega)]
        refine h1 _ _ (tkX_w q hd ⟨u', by omega, t'⟩) (fun a a1 a2 a3 => by rw [upF_ne _ _ _ a1, upF_ne _ _ _ a3]) ⟨?_, fun k hk => ?_, ?_, fun j hj => ?_⟩
        · rw [upF_eq, pk_un (by omega), upF_ne _ _ _ (by omega), x1]
        · rw [upF_ne _ _ _ (by omega), upF_ne _ _ _ (by omega), x2 k hk]
        · rw [upF_eq, pk_us]
        · have hj' : j < X.2.2.1 + 1 := hj
          rw [upF_ne _ _ _ (by omega), upF_eq]
          show upd (F 8) X.2.2.1 (nI d) j = upd X.2.2.2 X.2.2.1 (nI d) j
          by_cases y : j = X.2.2.1
          · rw [y, pk_us, pk_us]
          · rw [pk_un y, pk_un y, x4 j (by omega)]
    · refine if_y (by decide) ?_
      have no : ¬ sgX c X → Q 0 F := fun z => h0 (tkX_n (fun y => absurd y q) (fun d y => by rw [hn] at y; cases y) (fun _ _ => z))
      have yes : sgX c X → Q 1 (upF F 6 3 (nI (X.1 + 1))) := by
        intro z
        refine h1 _ _ (tkX_g q hn z) (fun a a1 a2 a3 => upF_ne _ _ _ a1) ⟨?_, fun k hk => ?_, ?_, fun j hj => ?_⟩
        · rw [upF_eq, pk_us]
        · rw [upF_ne _ _ _ (by omega), x2 k hk]
        · rw [upF_eq, pk_un (by omega), x3]
        · rw [upF_ne _ _ _ (by omega), x4 j hj]
      unfold wp_X8_takeSign
      rw [x1]
      by_cases u : X.1 < 4
      · refine if_n (nI_ge (b := 4) u (by omega)) (s_charAt u ?_)
        have hsg : sgn X.1 ≤ 126 := by
          rcases (by omega : X.1 = 0 ∨ X.1 = 1 ∨ X.1 = 2 ∨ X.1 = 3) with z | z | z | z <;> rw [z] <;> decide
        refine if_c (fun v => ?_) (fun v => no (fun w => v (by rw [w.2.1])))
        have v' : c = sgn X.1 := (nI_eq (by omega) (by omega)).mp v
        rw [nI_1, nI_clamp (by omega), x2 X.1 (by omega)]
        refine if_c (fun t => yes ⟨u, v', Or.inl ?_⟩) (fun t => ⟨vp_in_nI (by omega) (by omega), if_c (fun w => yes ⟨u, v', Or.inr ?_⟩) (fun w => no (fun y => ?_))⟩)
        · have := (nI_leI (b := 0) (by omega) (by omega)).mp t; omega
        · exact (nI_leI (a := 1) (by omega) (by omega)).mp w
        · rcases y.2.2 with r | r
          · exact t (by rw [r]; decide)
          · exact w (nI_le (a := 1) r (by omega))
      · exact if_y (nI_le (a := 4) (by omega) (by omega)) (no (fun w => u w.1))
