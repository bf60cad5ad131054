/-! letters: eight codes in a long -/
def b8 (w : Int64) (k : Nat) : BitVec 8 := w.toBitVec.extractLsb' (8 * k) 8
def lc (w : Int64) (k : Nat) : Nat := (b8 w k).toNat
theorem lk_u : ∀ k : Nat, k < 8 → ((8 * nI k).toInt64.toUInt64 &&& Int64.toUInt64 63) = UInt64.ofNat (8 * k) := by decide +kernel
theorem lk_s : ∀ k : Nat, k < 8 → ((8 * nI k).toInt64 &&& 63) = Int64.ofNat (8 * k) := by decide +kernel
theorem lk_m : ∀ k : Nat, k < 8 → ((UInt64.ofNat (8 * k)).toBitVec % 64).toNat = 8 * k := by decide +kernel
theorem lk_n : ∀ k : Nat, k < 8 → ((Int64.ofNat (8 * k)).toBitVec.smod 64).toNat = 8 * k := by decide +kernel
theorem m255 : ∀ i : Nat, i < 32 → (255#32).getLsbD i = decide (i < 8) := by decide +kernel
theorem l255 : ∀ i : Nat, i < 64 → (255#64).getLsbD i = decide (i < 8) := by decide +kernel
theorem lc_lt (w : Int64) (k : Nat) : lc w k < 256 := (b8 w k).isLt
theorem lc_bv (w : Int64) (k : Nat) : (nI (lc w k)).toBitVec = (b8 w k).setWidth 32 := by
  show BitVec.ofNat 32 (b8 w k).toNat = _
  rw [BitVec.ofNat_toNat]
theorem code_x (w : Int64) {k : Nat} (hk : k < 8) : ((((w.toUInt64 >>> ((8 * nI k).toInt64.toUInt64 &&& Int64.toUInt64 63)).toInt64).toInt32) &&& 255) = nI (lc w k) := by
  rw [lk_u k hk]
  apply Int32.toBitVec_inj.mp
  rw [lc_bv]
  have h1 : ((w.toUInt64 >>> UInt64.ofNat (8 * k)).toInt64).toInt32.toBitVec = (w.toBitVec >>> (8 * k)).setWidth 32 := by
    show ((w.toBitVec >>> ((UInt64.ofNat (8 * k)).toBitVec % 64)).signExtend 32) = _
    rw [BitVec.signExtend_eq_setWidth_of_le _ (by omega), BitVec.ushiftRight_eq', lk_m k hk]
  show (((w.toUInt64 >>> UInt64.ofNat (8 * k)).toInt64).toInt32.toBitVec &&& 255#32) = _
  rw [h1]
  apply BitVec.eq_of_getLsbD_eq
  intro i hi
  rw [BitVec.getLsbD_and, BitVec.getLsbD_setWidth, BitVec.getLsbD_setWidth, BitVec.getLsbD_ushiftRight, m255 i hi]
  unfold b8
  rw [BitVec.getLsbD_extractLsb']
  by_cases h : i < 8 <;> simp [h, hi]
theorem code_m (w : Int64) {k : Nat} (hk : k < 8) : (((w >>> ((8 * nI k).toInt64 &&& 63)) &&& (255 : Int64)).toInt32) = nI (lc w k) := by
  rw [lk_s k hk]
  apply Int32.toBitVec_inj.mp
  rw [lc_bv]
  show ((w.toBitVec.sshiftRight ((Int64.ofNat (8 * k)).toBitVec.smod 64).toNat) &&& 255#64).signExtend 32 = _
  rw [lk_n k hk, BitVec.signExtend_eq_setWidth_of_le _ (by omega)]
  apply BitVec.eq_of_getLsbD_eq
  intro i hi
  rw [BitVec.getLsbD_setWidth, BitVec.getLsbD_setWidth, BitVec.getLsbD_and, BitVec.getLsbD_sshiftRight, l255 i (by omega)]
  unfold b8
  rw [BitVec.getLsbD_extractLsb']
  by_cases h : i < 8
  · have h2 : 8 * k + i < 64 := by omega
    have h3 : ¬ 64 ≤ i := by omega
    simp [h, hi, h2, h3]
  · simp [h]
theorem code_b (w : Int64) {k : Nat} (hk : k < 8) (h : lc w k ≤ 126) : vp_nar .byte (((w >>> ((8 * nI k).toInt64 &&& 63)).toInt32).toInt8.toInt32) = nI (lc w k) := by
  rw [pk_vb, lk_s k hk]
  apply Int32.toBitVec_inj.mp
  rw [lc_bv]
  have e8 : ((w >>> Int64.ofNat (8 * k)).toInt32).toInt8.toBitVec = b8 w k := by
    show ((w.toBitVec.sshiftRight ((Int64.ofNat (8 * k)).toBitVec.smod 64).toNat).signExtend 32).signExtend 8 = _
    rw [lk_n k hk, BitVec.signExtend_eq_setWidth_of_le _ (by omega), BitVec.signExtend_eq_setWidth_of_le _ (by omega)]
    apply BitVec.eq_of_getLsbD_eq
    intro i hi
    rw [BitVec.getLsbD_setWidth, BitVec.getLsbD_setWidth, BitVec.getLsbD_sshiftRight]
    unfold b8
    rw [BitVec.getLsbD_extractLsb']
    have h2 : 8 * k + i < 64 := by omega
    have h3 : ¬ 64 ≤ i := by omega
    have h4 : i < 32 := by omega
    simp [hi, h2, h3, h4]
  show (((w >>> Int64.ofNat (8 * k)).toInt32).toInt8.toBitVec).signExtend 32 = _
  rw [e8]
  refine BitVec.signExtend_eq_setWidth_of_msb_false ?_
  rw [BitVec.msb_eq_false_iff_two_mul_lt]
  have : (b8 w k).toNat ≤ 126 := h
  omega
def ltN (w : Int64) : Nat → Option Nat
  | 0 => some 0
  | i + 1 => match ltN w i with
    | none => none
    | some m => if 126 < lc w i then none else if lc w i = 0 then some m else if m < i then none else some (m + 1)
theorem lt_none {w : Int64} {i : Nat} (h : ltN w i = none) : ∀ k, ltN w (i + k) = none
  | 0 => h
  | k + 1 => by
    show (match ltN w (i + k) with | none => none | some m => _) = none
    rw [lt_none h k]
theorem lt_step {w : Int64} {i m : Nat} (h : ltN w i = some m) : ltN w (i + 1) = if 126 < lc w i then none else if lc w i = 0 then some m else if m < i then none else some (m + 1) := by
  show (match ltN w i with | none => none | some m => _) = _
  rw [h]
theorem lt_codes {w : Int64} : ∀ i m, ltN w i = some m → m ≤ i ∧ ∀ j, j < m → lc w j ≤ 126
  | 0, m, h => by
    have : m = 0 := by
      have : some 0 = some m := h
      exact (Option.some.inj this).symm
    subst this; exact ⟨Nat.le_refl _, fun j hj => absurd hj (by omega)⟩
  | i + 1, m, h => by
    cases hi : ltN w i with
    | none => rw [lt_none hi 1] at h; cases h
    | some m' =>
      obtain ⟨a1, a2⟩ := lt_codes i m' hi
      rw [lt_step hi] at h
      by_cases q1 : 126 < lc w i
      · rw [if_pos q1] at h; cases h
      · rw [if_neg q1] at h
        by_cases q2 : lc w i = 0
        · rw [if_pos q2] at h
          have : m' = m := Option.some.inj h
          subst this; exact ⟨by omega, a2⟩
        · rw [if_neg q2] at h
          by_cases q3 : m' < i
          · rw [if_pos q3] at h; cases h
          · rw [if_neg q3] at h
            have : m' + 1 = m := Option.some.inj h
            subst this
            refine ⟨by omega, fun j hj => ?_⟩
            rcases Nat.lt_or_ge j m' with z | z
            · exact a2 j z
            · have : j = i := by omega
              subst this; omega
theorem s_lettersIn {w : Int64} {F : gS} {Q : Int32 → Prop} (hn : ltN w 8 = none → Q (-1)) (hs : ∀ m, ltN w 8 = some m → Q (nI m)) : wp_X4_lettersIn w F Q := by
  unfold wp_X4_lettersIn
  refine for2 8 (fun i x => ∃ m, m ≤ i ∧ ltN w i = some m ∧ x = nI m) (by omega) (fun K i x hi hI hK => ?_) (fun K x hI => ?_) 0 0 (Nat.zero_le _) ⟨0, Nat.le_refl _, rfl, rfl⟩
  · obtain ⟨m, m1, m2, rfl⟩ := hI
    have st := lt_step m2
    have hl := lc_lt w i
    have bad : ltN w (i + 1) = none → Q (-1) := fun z => hn (by
      have := lt_none z (8 - (i + 1))
      have e : i + 1 + (8 - (i + 1)) = 8 := by omega
      rw [e] at this; exact this)
    unfold wb_X4_lettersIn_4 wp_X4_codeAt
    rw [code_x w hi]
    refine if_n (nI_ge (b := 8) hi (by omega)) ?_
    refine if_c (fun z => bad ?_) (fun z => ?_)
    · have z' : 126 < lc w i := (nI_ltI (a := 126) (by omega) (by omega)).mp z
      rw [st, if_pos z']
    · have z' : ¬ 126 < lc w i := fun y => z (nI_lt (a := 126) y (by omega))
      rw [if_neg z'] at st
      refine if_c (fun y => if_y y (hK _ ⟨m, by omega, ?_, rfl⟩)) (fun y => ?_)
      · have y' : lc w i = 0 := (nI_eq (b := 0) (by omega) (by omega)).mp y
        rw [st, if_pos y']
      · have y' : ¬ lc w i = 0 := fun u => y (by rw [u]; rfl)
        rw [if_neg y'] at st
        refine if_c (fun u => if_n y (hK _ ⟨m + 1, by omega, ?_, nI_1 m⟩)) (fun u => bad ?_)
        · have u' : i ≤ m := (nI_leI (by omega) (by omega)).mp u
          rw [st, if_neg (by omega)]
        · have u' : ¬ i ≤ m := fun v => u (nI_le v (by omega))
          rw [st, if_pos (by omega)]
  · obtain ⟨m, m1, m2, rfl⟩ := hI
    unfold wb_X4_lettersIn_4
    exact if_y (nI_le (a := 8) (Nat.le_refl _) (by omega)) (hs m m2)
theorem m_lettersIn {w : Int64} {F : gS} {Q : Int32 → gS → Prop} (hn : ltN w 8 = none → Q (-102) F) (hs : ∀ m, ltN w 8 = some m → wp_X12_letters_85 Q F w (nI m)) : wp_X12_letters w F Q := by
  unfold wp_X12_letters
  refine for3 8 (fun i x e => ∃ m, m ≤ i ∧ ltN w i = some m ∧ x = nI m ∧ e = (if m < i then 1 else 0)) (by omega) (fun K i x e hi hI hK => ?_) (fun K x e hI => ?_) 0 0 0 (Nat.zero_le _) ⟨0, Nat.le_refl _, rfl, rfl, rfl⟩
  · obtain ⟨m, m1, m2, rfl, rfl⟩ := hI
    have st := lt_step m2
    have hl := lc_lt w i
    have bad : ltN w (i + 1) = none → Q (-102) F := fun z => hn (by
      have := lt_none z (8 - (i + 1))
      have e : i + 1 + (8 - (i + 1)) = 8 := by omega
      rw [e] at this; exact this)
    unfold wb_X12_letters_8
    rw [code_m w hi]
    refine if_n (nI_ge (b := 8) hi (by omega)) ?_
    show if 126 < nI (lc w i) then _ else _
    refine if_c (fun z => bad ?_) (fun z => ?_)
    · have z' : 126 < lc w i := (nI_ltI (a := 126) (by omega) (by omega)).mp z
      rw [st, if_pos z']
    · have z' : ¬ 126 < lc w i := fun y => z (nI_lt (a := 126) y (by omega))
      rw [if_neg z'] at st
      have k64z : lc w i = 0 → wp_X12_letters_64 K Q F w (nI m) (nI i) (nI (lc w i)) 1 := by
        intro y
        unfold wp_X12_letters_64
        refine if_y (by rw [y]; rfl) (hK _ _ ⟨m, by omega, by rw [st, if_pos y], by simp, by rw [if_pos (by omega)]⟩)
      by_cases q : m < i
      · rw [if_pos q]
        refine if_n t10 (if_c (fun y => ?_) (fun y => bad ?_))
        · have y' : lc w i = 0 := (nI_eq (b := 0) (by omega) (by omega)).mp y
          unfold wp_X12_letters_49
          exact if_n t10 (k64z y')
        · have y' : ¬ lc w i = 0 := fun u => y (by rw [u]; rfl)
          rw [st, if_neg y', if_pos q]
      · rw [if_neg q]
        refine if_y rfl ?_
        unfold wp_X12_letters_49
        refine if_y rfl (if_c (fun y => ?_) (fun y => ?_))
        · have y' : lc w i = 0 := (nI_eq (b := 0) (by omega) (by omega)).mp y
          exact k64z y'
        · have y' : ¬ lc w i = 0 := fun u => y (by rw [u]; rfl)
          unfold wp_X12_letters_64
          refine if_n y (hK _ _ ⟨m + 1, by omega, by rw [st, if_neg y', if_neg q], nI_1 m, by rw [if_neg (by omega)]⟩)
  · obtain ⟨m, m1, m2, rfl, rfl⟩ := hI
    unfold wb_X12_letters_8
    exact if_y (nI_le (a := 8) (Nat.le_refl _) (by omega)) (hs m m2)
theorem upF_self {F : gS} {k j : Nat} {v : Int32} (h : F k j = v) : upF F k j v = F := by
  rw [upF_R, upd_self _ _ h.symm, upR_self]
theorem T_letters {i : Nat} {w : Int64} {F : gS} (h : Inv i F) : wp_X11_letters w F (fun r G => wp_X12_letters w G (fun r' H => r = r' ∧ Inv (i + 1) H)) := by
  have hI := h
  obtain ⟨P, p, np, nc, c, len, s, h1, h2, h3, h4, h5, h6, h7⟩ := h
  obtain ⟨p1, p2, p3, p4⟩ := h6
  unfold wp_X11_letters
  refine s_lettersIn (fun hn => ?_) (fun m hm => ?_)
  · exact if_y rfl (m_lettersIn (fun _ => ⟨rfl, Inv_s hI⟩) (fun m hm => by rw [hn] at hm; cases hm))
  · obtain ⟨l1, l2⟩ := lt_codes 8 m hm
    refine if_n (nI_m1 (by omega)) ?_
    rw [p2, nI_add]
    by_cases q : len + m ≤ 40
    · refine if_y (nI_le (b := 40) q (by omega)) ?_
      unfold wp_X4_add
      refine for2 m (fun k F' => F' = upF (upR F 2 (seg len k (fun k => nI (lc w k)) (F 2))) 1 1 (nI (len + k))) (by omega) (fun K k F' hk e hK => ?_) (fun K F' e => ?_) 0 F (Nat.zero_le _) (by rw [seg_0, upR_self, Nat.add_zero, upF_self p2])
      · have e11 : F' 1 1 = nI (len + k) := by rw [e, upF_eq, pk_us]
        unfold wb_X4_add_3 wp_X4_codeAt
        rw [code_x w (by omega), e11]
        refine if_n (nI_ge hk (by omega)) (if_n (nI_ge (b := 40) (by omega) (by omega)) ⟨vp_in_nI (by omega) (by omega), ?_⟩)
        have e11' : ∀ v, (upF F' 2 (nI (len + k)).toNatClampNeg v) 1 1 = nI (len + k) := fun v => by rw [upF_ne _ _ _ (by omega), e11]
        dsimp only [Nm]
        rw [e11', nI_1]
        refine hK _ ?_
        rw [nI_clamp (by omega), e]
        funext a
        by_cases z1 : a = 1
        · subst z1
          rw [upF_eq, upF_ne _ _ _ (by omega), upF_eq, upF_eq, upR_ne _ _ (by omega), upR_ne _ _ (by omega)]
          funext b
          by_cases z : b = 1
          · subst z; rw [pk_us, pk_us]; rfl
          · rw [pk_un z, pk_un z, pk_un z]
        · rw [upF_ne _ _ _ z1, upF_ne _ _ _ z1]
          by_cases z2 : a = 2
          · subst z2
            rw [upF_eq, upF_ne _ _ _ (by omega), upR_eq, upR_eq]
            exact seg_s rfl
          · rw [upF_ne _ _ _ z2, upF_ne _ _ _ z1, upR_ne _ _ z2, upR_ne _ _ z2]
      · have e11 : F' 1 1 = nI (len + m) := by rw [e, upF_eq, pk_us]
        unfold wb_X4_add_3
        refine if_y (nI_le (Nat.le_refl _) (by omega)) ?_
        dsimp only
        rw [e11]
        have gq : ∀ a b, ¬ (a = 1 ∧ b = 1) → a ≠ 2 → F' a b = F a b := fun a b z1 z2 => by
          rw [e]
          by_cases y : a = 1
          · subst y; rw [upF_eq, pk_un (by omega), upR_ne _ _ (by omega)]
          · rw [upF_ne _ _ _ y, upR_ne _ _ z2]
        have g2 : F' 2 = seg len m (fun k => nI (lc w k)) (F 2) := by rw [e, upF_ne _ _ _ (by omega), upR_eq]
        clear e
        refine m_lettersIn (fun z => by rw [z] at hm; cases hm) (fun m' hm' => ?_)
        have em : m' = m := by rw [hm] at hm'; exact (Option.some.inj hm').symm
        subst em
        unfold wp_X12_letters_85
        rw [gq 121 19 (by omega) (by omega), p3, nI_add]
        refine if_y (nI_le (b := 40) q (by omega)) ?_
        refine for2 m' (fun k G => G = upR F' 134 (seg len k (fun k => nI (lc w k)) (F' 134))) (by omega) (fun K2 k G hk e hK2 => ?_) (fun K2 G e => ?_) 0 F' (Nat.zero_le _) (by rw [seg_0, upR_self])
        · have e19 : G 121 19 = nI len := by rw [e, upR_ne _ _ (by omega), gq 121 19 (by omega) (by omega), p3]
          unfold wb_X12_letters_102
          rw [e19, nI_add len k, code_b w (by omega) (l2 k hk)]
          refine if_n (nI_ge hk (by omega)) ⟨vp_in_nI (by omega) (by omega), hK2 _ ?_⟩
          rw [nI_clamp (by omega), e, upF_upR]
          exact congrArg (upR F' 134) (seg_s rfl)
        · have e19 : G 121 19 = nI len := by rw [e, upR_ne _ _ (by omega), gq 121 19 (by omega) (by omega), p3]
          unfold wb_X12_letters_102
          rw [e19, nI_add]
          refine if_y (nI_le (Nat.le_refl _) (by omega)) ⟨by rw [upF_eq, pk_us], ?_⟩
          have key : ∀ a b, uA a b → ¬ uPg a b → (upF G 121 19 (nI (len + m'))) a b = F a b := by
            intro a b u v
            unfold uPg at v
            by_cases y : a = 121
            · subst y; rw [upF_eq, pk_un (by omega), e, upR_ne _ _ (by omega), gq _ _ (by omega) (by omega)]
            · rw [upF_ne _ _ _ y, e, upR_ne _ _ (by omega), gq _ _ (by omega) (by omega)]
          refine ⟨P, p, np, nc, c, len + m', s, IPan_tr (fun q j u => key q j (by unfold uPan at u; unfold uA; omega) (by unfold uPan at u; unfold uPg; omega)) (by omega) h1, IPl_tr (fun q j u => key q j (by unfold uPl at u; unfold uA; omega) (by unfold uPl at u; unfold uPg; omega)) h2, ICk_tr (fun q j u => key q j (by unfold uCk at u; unfold uA; omega) (by unfold uCk at u; unfold uPg; omega)) h3, ICd_tr (fun q j u => key q j (by unfold uCd at u; unfold uA; omega) (by unfold uCd at u; unfold uPg; omega)) h4, IKp_tr (fun q j u => key q j (by unfold uKp at u; unfold uA; omega) (by unfold uKp at u; unfold uPg; omega)) (Nat.le_refl _) h5, ⟨q, ?_, ?_, fun j hj => ?_⟩, ISe_tr (fun q j u => key q j (by unfold uSe at u; unfold uA; omega) (by unfold uSe at u; unfold uPg; omega)) h7⟩
          · rw [upF_ne _ _ _ (by omega), e, upR_ne _ _ (by omega), e11]
          · rw [upF_eq, pk_us]
          · rw [upF_ne _ _ _ (by omega), upF_ne _ _ _ (by omega), e, upR_eq, upR_ne _ _ (by omega), g2]
            have e134 : F' 134 = F 134 := by funext b; exact gq 134 b (by omega) (by omega)
            rw [e134]
            rcases Nat.lt_or_ge j len with z | z
            · rw [seg_lt z, seg_lt z]; exact p4 j z
            · obtain ⟨k, rfl⟩ : ∃ k, j = len + k := ⟨j - len, by omega⟩
              rw [seg_in (by omega), seg_in (by omega)]
              exact ⟨rfl, ⟨lc w k, l2 k (by omega), rfl⟩⟩
    · refine if_n (nI_ge (a := 40) (by omega) (by omega)) ?_
      refine m_lettersIn (fun z => by rw [z] at hm; cases hm) (fun m' hm' => ?_)
      have em : m' = m := by rw [hm] at hm'; exact (Option.some.inj hm').symm
      subst em
      unfold wp_X12_letters_85
      rw [p3, nI_add]
      exact if_n (nI_ge (a := 40) (by omega) (by omega)) ⟨rfl, Inv_s hI⟩
