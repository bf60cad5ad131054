/-! frying, the other side: ticks, swings -/
theorem m_cells {F : gS} {Q : Int32 → Prop} {R C : Nat} (e0 : F 121 0 = nI R) (e1 : F 121 1 = nI C) (h : Q (nI (R * C))) : wp_X12_cells F Q := by
  unfold wp_X12_cells; rw [e0, e1, pk_mul]; exact h
theorem m_atLeast {x : Int32} {F : gS} {Q : Int32 → Prop} (h : Q (mx x)) : wp_X12_atLeast x F Q := by
  unfold wp_X12_atLeast
  unfold mx at h
  refine if_c (fun q => ?_) (fun q => ?_)
  · by_cases z : (0 : Int32) < x
    · rw [if_pos z] at h; exact h
    · rw [if_neg z] at h
      have : x = 0 := Int32.le_antisymm (Int32.not_lt.mp z) q
      rw [this]; exact h
  · rw [if_neg (fun z => q (Int32.le_of_lt z))] at h; exact h
theorem mx60 {t w : Int32} (ht : ¬ t ≤ 0) (hw : sm 819 w) : mx (w - 60) / (t + 2) = bO t w := by
  obtain ⟨a, ha, rfl⟩ := hw
  unfold bO
  rw [if_neg ht]
  by_cases q : a ≤ 60
  · rw [if_pos (show nI a ≤ 60 from nI_le (b := 60) q (by omega))]
    have : mx (nI a - 60) = 0 := by
      unfold mx
      rw [if_neg]
      intro z
      have e : (60 : Int32) = nI 60 := rfl
      rw [e, Int32.lt_iff_toInt_lt, pk_sub_toInt (by omega) (by omega)] at z
      have : (0 : Int32).toInt = 0 := by decide
      omega
    rw [this, Int32.zero_div]
  · rw [if_neg (show ¬ nI a ≤ 60 from nI_ge (a := 60) (b := a) (by omega) (by omega))]
    have : mx (nI a - 60) = nI a - 60 := by
      unfold mx
      have e : nI a - 60 = nI (a - 60) := pk_sub (b := 60) (by omega)
      rw [e, if_pos]
      exact nI_lt (a := 0) (by omega) (by omega)
    rw [this]
def brw (n sd : Nat) (g f : Nat → Int32) : Nat → Int32 := fun j => if j / 2 < n ∧ j % 2 = sd then f j + g (j / 2) else f j
theorem brw_0 (sd : Nat) (g f : Nat → Int32) : brw 0 sd g f = f := by
  funext j; unfold brw; rw [if_neg (by omega)]
theorem brw_s {c sd : Nat} {g f : Nat → Int32} (hs : sd < 2) {v : Int32} (hv : v = f (2 * c + sd) + g c) : upd (brw c sd g f) (2 * c + sd) v = brw (c + 1) sd g f := by
  subst hv
  funext j
  unfold upd brw
  by_cases q : j = 2 * c + sd
  · subst q
    have e : (2 * c + sd) / 2 = c := by omega
    rw [if_pos rfl, if_pos (by omega), e]
  · rw [if_neg q]
    by_cases z : j / 2 < c ∧ j % 2 = sd
    · rw [if_pos z, if_pos (by omega)]
    · rw [if_neg z, if_neg (by omega)]
theorem brw_at {c sd : Nat} {g f : Nat → Int32} (hs : sd < 2) : brw c sd g f (2 * c + sd) = f (2 * c + sd) := by
  unfold brw; rw [if_neg (by omega)]
theorem m_goTick {R C sd : Nat} {x1 : Int32} {F : gS} {Q : gS → Prop} (hR : R < 5) (hC : C < 5) (e0 : F 121 0 = nI R) (e1 : F 121 1 = nI C) (hs : sd < 2) (ht : ∀ c, c < R * C → sm (2 ^ 29) (F 143 c)) (hw : ∀ c, c < R * C → sm 819 (tk (x1 * F 122 c) (F 140 c)))
    (h : ∀ G, (∀ q, q ≠ 140 → q ≠ 146 → G q = F q) → (∀ c, c < R * C → G 140 c = tk (x1 * F 122 c) (F 140 c)) → (∀ c, c < R * C → G 146 (2 * c + sd) = F 146 (2 * c + sd) + bO (F 143 c) (tk (x1 * F 122 c) (F 140 c))) → (∀ c, c < R * C → G 146 (2 * c + (1 - sd)) = F 146 (2 * c + (1 - sd))) → Q G) : wp_X12_goTick x1 (nI sd) F Q := by
  have h16 := RC16 hR hC
  unfold wp_X12_goTick
  refine for2 (R * C) (fun c F' => F' = upR (upR F 140 (pt c (fun c => tk (x1 * F 122 c) (F 140 c)) (F 140))) 146 (brw c sd (fun c => bO (F 143 c) (tk (x1 * F 122 c) (F 140 c))) (F 146))) (by omega) (fun K c F' hc ei hK => ?_) (fun K F' ei => ?_) 0 F (Nat.zero_le _) (by rw [pt_0, brw_0, upR_self, upR_self])
  · have r121 : F' 121 = F 121 := by rw [ei, upR_ne _ _ (by omega), upR_ne _ _ (by omega)]
    have r122 : F' 122 = F 122 := by rw [ei, upR_ne _ _ (by omega), upR_ne _ _ (by omega)]
    have r143 : F' 143 = F 143 := by rw [ei, upR_ne _ _ (by omega), upR_ne _ _ (by omega)]
    have r140 : F' 140 c = F 140 c := by rw [ei, upR_ne _ _ (by omega), upR_eq]; exact pt_ge _ _ (Nat.le_refl c)
    have r146 : F' 146 (2 * c + sd) = F 146 (2 * c + sd) := by rw [ei, upR_eq, brw_at hs]
    have ci : (nI c).toNatClampNeg = c := nI_clamp (by omega)
    have i16 : vp_in (nI c) 16 := vp_in_nI (by omega) (by omega)
    unfold wb_X12_goTick_2
    refine m_cells (R := R) (C := C) (by rw [r121, e0]) (by rw [r121, e1]) ?_
    refine if_n (nI_ge hc (by omega)) ⟨i16, i16, i16, i16, ?_⟩
    rw [ci, r140, r122]
    have et : F 140 c + (x1 * F 122 c - F 140 c / 10) = tk (x1 * F 122 c) (F 140 c) := rfl
    rw [et]
    have e2 : upF F' 140 c (tk (x1 * F 122 c) (F 140 c)) = upR (upR F 140 (pt (c + 1) (fun c => tk (x1 * F 122 c) (F 140 c)) (F 140))) 146 (brw c sd (fun c => bO (F 143 c) (tk (x1 * F 122 c) (F 140 c))) (F 146)) := by
      rw [ei, upF_upR2 _ (by omega)]
      rw [pt_s c _ _ rfl]
    have f143 : (upF F' 140 c (tk (x1 * F 122 c) (F 140 c))) 143 = F 143 := by rw [upF_ne _ _ _ (by omega), r143]
    have f140 : (upF F' 140 c (tk (x1 * F 122 c) (F 140 c))) 140 c = tk (x1 * F 122 c) (F 140 c) := by rw [upF_eq, pk_us]
    have f146 : (upF F' 140 c (tk (x1 * F 122 c) (F 140 c))) 146 (2 * c + sd) = F 146 (2 * c + sd) := by rw [upF_ne _ _ _ (by omega), r146]
    refine ⟨i16, ?_⟩
    rw [f143, f140]
    have ek : 2 * nI c + nI sd = nI (2 * c + sd) := by
      have : 2 * nI c = nI (2 * c) := pk_mul 2 c
      rw [this, nI_add]
    refine if_c (fun q => ?_) (fun q => ?_)
    · refine hK _ ?_
      rw [e2]
      congr 1
      have hb : bO (F 143 c) (tk (x1 * F 122 c) (F 140 c)) = 0 := by unfold bO; rw [if_pos q]
      rw [← brw_s hs rfl]
      refine (upd_self _ _ ?_).symm
      rw [brw_at hs]
      show _ + bO (F 143 c) (tk (x1 * F 122 c) (F 140 c)) = _
      rw [hb]; simp
    · rw [ek]
      have i32 : vp_in (nI (2 * c + sd)) 32 := vp_in_nI (by omega) (by omega)
      refine ⟨i32, i16, m_atLeast ?_⟩
      refine ⟨i16, lt2_ne (ht c hc) (by omega) (Int32.not_le.mp q), i32, ?_⟩
      rw [nI_clamp (by omega), f146, mx60 q (hw c hc)]
      refine hK _ ?_
      rw [e2, upF_upR, brw_s hs rfl]
  · have r121 : F' 121 = F 121 := by rw [ei, upR_ne _ _ (by omega), upR_ne _ _ (by omega)]
    unfold wb_X12_goTick_2
    refine m_cells (R := R) (C := C) (by rw [r121, e0]) (by rw [r121, e1]) ?_
    refine if_y (nI_le (Nat.le_refl _) (by omega)) (h _ (fun q h1 h2 => ?_) (fun c hc => ?_) (fun c hc => ?_) (fun c hc => ?_))
    · rw [ei, upR_ne _ _ h2, upR_ne _ _ h1]
    · rw [ei, upR_ne _ _ (by omega), upR_eq, pt_lt _ _ hc]
    · rw [ei, upR_eq]
      unfold brw
      have e : (2 * c + sd) / 2 = c := by omega
      rw [if_pos (by omega), e]
    · rw [ei, upR_eq]
      unfold brw
      rw [if_neg (by omega)]
/-! where a swing leads, by the number of the cell -/
def mesC (s c R C : Int32) : Int32 :=
  let a := c / C + (if s = 0 then -1 else if s = 2 then 1 else 0)
  let b := (c - c / C * C) + (if s = 1 then 1 else if s = 3 then -1 else 0)
  if wtB a 0 (R - 1) && wtB b 0 (C - 1) then a * C + b else -1
theorem mesC_ok : ∀ R : Nat, R < 5 → ∀ C : Nat, C < 5 → ∀ c : Nat, c < R * C → ∀ s : Nat, s < 5 → mesC (nI s) (nI c) (nI R) (nI C) = bi (bs R C (nI s) c) := by decide +kernel
theorem mesC_o {s c R C : Int32} (h : s ≠ 0 ∧ s ≠ 1 ∧ s ≠ 2 ∧ s ≠ 3) : mesC s c R C = mesC (nI 4) c R C := by
  obtain ⟨h0, h1, h2, h3⟩ := h
  have z0 : ¬ nI 4 = 0 := by decide
  have z1 : ¬ nI 4 = 1 := by decide
  have z2 : ¬ nI 4 = 2 := by decide
  have z3 : ¬ nI 4 = 3 := by decide
  unfold mesC
  rw [if_neg h0, if_neg h1, if_neg h2, if_neg h3, if_neg z0, if_neg z1, if_neg z2, if_neg z3]
theorem wt_m {x a b : Int32} {F : gS} {Q : Int32 → Prop} (h : Q (if wtB x a b = true then 1 else 0)) : wp_X12_within x a b F Q := by
  unfold wp_X12_within wtB at *
  by_cases h1 : x < a
  · simp only [h1, if_true] at h ⊢; exact h
  · by_cases h2 : b < x
    · simp only [h1, h2, if_true, if_false] at h ⊢; exact h
    · simp only [h1, h2, if_false] at h ⊢; exact h
theorem m_beside0 {s c : Int32} {F : gS} {Q : Int32 → Prop} (hC : ¬ F 121 1 = 0) (h : Q (mesC s c (F 121 0) (F 121 1))) : wp_X12_beside c s F Q := by
  have k51 : ∀ a t0 t1 : Int32, Q (if wtB a 0 ((F 121 0) - 1) && wtB (t1 + t0) 0 ((F 121 1) - 1) then a * (F 121 1) + (t1 + t0) else -1) → wp_X12_beside_51 Q F a t0 t1 := by
    intro a t0 t1 hq
    unfold wp_X12_beside_51
    refine wt_m ?_
    by_cases h1 : wtB a 0 ((F 121 0) - 1) = true
    · rw [h1] at hq
      rw [if_pos h1]
      refine if_n (by decide) (wt_m ?_)
      by_cases h2 : wtB (t1 + t0) 0 ((F 121 1) - 1) = true
      · rw [h2] at hq
        rw [if_pos h2]
        exact if_n (by decide) hq
      · rw [Bool.not_eq_true] at h2
        rw [h2] at hq
        rw [h2]
        exact if_y rfl hq
    · rw [Bool.not_eq_true] at h1
      rw [h1] at hq
      rw [h1]
      exact if_y rfl hq
  have k24 : ∀ t0 : Int32, Q (if wtB (c / F 121 1 + t0) 0 ((F 121 0) - 1) && wtB ((c - c / F 121 1 * F 121 1) + (if s = 1 then 1 else if s = 3 then -1 else 0)) 0 ((F 121 1) - 1) then (c / F 121 1 + t0) * (F 121 1) + ((c - c / F 121 1 * F 121 1) + (if s = 1 then 1 else if s = 3 then -1 else 0)) else -1) → wp_X12_beside_24 Q F c s t0 (c / F 121 1) := by
    intro t0 hq
    unfold wp_X12_beside_24
    refine ⟨hC, ?_⟩
    by_cases h3 : s = 1
    · rw [if_pos h3] at hq ⊢; exact k51 _ _ _ hq
    · rw [if_neg h3] at hq ⊢
      by_cases h1 : s = 3
      · rw [if_pos h1] at hq ⊢; exact k51 _ _ _ hq
      · rw [if_neg h1] at hq ⊢; exact k51 _ _ _ hq
  unfold wp_X12_beside
  unfold mesC at h
  refine ⟨hC, ?_⟩
  by_cases h0 : s = 0
  · simp only [if_pos h0] at h
    exact if_y h0 (k24 _ h)
  · simp only [if_neg h0] at h
    refine if_n h0 ?_
    by_cases h2 : s = 2
    · simp only [if_pos h2] at h
      exact if_y h2 (k24 _ h)
    · simp only [if_neg h2] at h
      exact if_n h2 (k24 _ h)
theorem m_beside {R C c : Nat} {s : Int32} {F : gS} {Q : Int32 → Prop} (hR : R < 5) (hC : C < 5) (hC2 : 2 ≤ C) (hc : c < R * C) (e0 : F 121 0 = nI R) (e1 : F 121 1 = nI C) (h : Q (bi (bs R C s c))) : wp_X12_beside (nI c) s F Q := by
  refine m_beside0 (by rw [e1]; exact nI_ne0 (by omega) (by omega)) ?_
  rw [e0, e1]
  rcases sw_cases s with ⟨k, hk, rfl⟩ | z
  · rw [mesC_ok R hR C hC c hc k (by omega)]; exact h
  · rw [mesC_o z, mesC_ok R hR C hC c hc 4 (by omega), ← bs_o z]; exact h
/-- a step that moves nothing -/
theorem rst_0 {R C c : Nat} {s : Int32} {lv : Nat → Int32} {p : R2} (hl : lv c = 0) (hw : ∀ d, bs R C s c = some d → sm 819 (p.2 d)) : rst R C s lv c p = p := by
  cases hb : bs R C s c with
  | none => exact rst_n hb
  | some d =>
    rw [rst_s hb, hl]
    have e1 : upd p.1 c (p.1 c - 0) = p.1 := upd_self _ _ (by simp)
    rw [e1]
    have e2 : upd p.1 d (p.1 d + 0) = p.1 := upd_self _ _ (by simp)
    have e3 : upd p.2 d (mx (p.2 d - 2 * 0)) = p.2 := by
      refine upd_self _ _ ?_
      obtain ⟨a, ha, e⟩ := hw d hb
      rw [e]
      exact mx_n (a := a) (l := 0) (by omega) (by omega)
    rw [e2, e3]
def MAg (n : Nat) (F : gS) (z : St) : Prop := ∀ c, c < n → F 140 c = z.1 c ∧ F 143 c = z.2.1 c ∧ F 145 c = z.2.2.1 c ∧ F 146 (2 * c) = z.2.2.2 c
theorem m_goSwing {R C B : Nat} {ring : Nat → Int32} {fire s : Int32} {z : St} {F : gS} {Q : gS → Prop} (hR : R < 5) (hC : C < 5) (hR2 : 2 ≤ R) (hC2 : 2 ≤ C) (hB : B < 2 ^ 26) (e0 : F 121 0 = nI R) (e1 : F 121 1 = nI C) (ef : F 121 44 = fire) (hr : ∀ c, c < R * C → F 122 c = ring c ∧ sm 9 (ring c)) (hf : sm 9 fire) (ok : okS (R * C) B z) (ag : MAg (R * C) F z)
    (h : ∀ G, (∀ q, q ≠ 140 → q ≠ 143 → q ≠ 144 → q ≠ 145 → q ≠ 146 → G q = F q) → MAg (R * C) G (sw1 R C ring fire s z) → (∀ c, c < R * C → G 146 (2 * c + 1) = F 146 (2 * c + 1)) → Q G) : wp_X12_goSwing s F Q := by
  have h16 := RC16 hR hC
  have hwt : ∀ c, c < R * C → tk (F 121 44 * F 122 c) (F 140 c) = sw_w R C ring fire z c := fun c hc => by
    unfold sw_w
    rw [pt_lt _ _ hc, ef, (hr c hc).1, (ag c hc).1]
  have hww : ∀ c, c < R * C → sm 819 (sw_w R C ring fire z c) := fun c hc => by
    unfold sw_w
    rw [pt_lt _ _ hc]
    exact tk_sm (mul_sm hf (hr c hc).2) (ok c hc).1
  unfold wp_X12_goSwing
  refine m_goTick (R := R) (C := C) (sd := 0) hR hC e0 e1 (by omega) (fun c hc => by rw [(ag c hc).2.1]; exact sm_mono (ok c hc).2.1 (by omega)) (fun c hc => by rw [hwt c hc]; exact hww c hc) (fun G g1 g2 g3 g4 => ?_)
  have G121 : G 121 = F 121 := g1 121 (by omega) (by omega)
  have G143 : G 143 = F 143 := g1 143 (by omega) (by omega)
  have G145 : G 145 = F 145 := g1 145 (by omega) (by omega)
  refine for2 (R * C) (fun c F' => F' = upR (upR G 145 (pt c (sw_f R C ring fire z) (G 145))) 144 (pt c (fun _ => 0) (G 144))) (by omega) (fun K c F' hc ei hK => ?_) (fun K F' ei => ?_) 0 G (Nat.zero_le _) (by rw [pt_0, pt_0, upR_self, upR_self])
  · have r121 : F' 121 = F 121 := by rw [ei, upR_ne _ _ (by omega), upR_ne _ _ (by omega), G121]
    have r143 : F' 143 c = z.2.1 c := by rw [ei, upR_ne _ _ (by omega), upR_ne _ _ (by omega), G143, (ag c hc).2.1]
    have r140 : F' 140 c = sw_w R C ring fire z c := by rw [ei, upR_ne _ _ (by omega), upR_ne _ _ (by omega), g2 c hc, hwt c hc]
    have r145 : F' 145 c = z.2.2.1 c := by rw [ei, upR_ne _ _ (by omega), upR_eq, pt_ge _ _ (Nat.le_refl c), G145, (ag c hc).2.2.1]
    have ci : (nI c).toNatClampNeg = c := nI_clamp (by omega)
    have i16 : vp_in (nI c) 16 := vp_in_nI (by omega) (by omega)
    have st : ∀ v, v = sw_f R C ring fire z c → K (upF (upF F' 145 c v) 144 c 0) (nI c + 1) := by
      intro v hv
      refine hK _ ?_
      rw [ei, upF_upR2 _ (by omega), upF_upR, pt_s c _ _ hv, pt_s c _ _ rfl]
    have fv : sw_f R C ring fire z c = fs (z.2.2.1 c) (z.2.1 c) (sw_w R C ring fire z c) := by unfold sw_f; rw [pt_lt _ _ hc]
    unfold wb_X12_goSwing_11
    refine m_cells (R := R) (C := C) (by rw [r121, e0]) (by rw [r121, e1]) ?_
    refine if_n (nI_ge hc (by omega)) ⟨i16, ?_⟩
    rw [ci, r143, r140, r145]
    have k53 : 1 = sw_f R C ring fire z c → wp_X12_goSwing_53 K Q F' s (nI c) (nI c) := by
      intro q
      unfold wp_X12_goSwing_53
      refine ⟨i16, i16, ?_⟩
      rw [ci, nb1]
      exact st _ q
    refine if_c (fun q => ⟨i16, if_c (fun q2 => ⟨i16, i16, ?_⟩) (fun q2 => ⟨i16, if_c (fun q3 => ⟨i16, i16, ?_⟩) (fun q3 => ?_)⟩)⟩) (fun q => ?_)
    · rw [nb0]; exact st _ (by rw [fv]; unfold fs; rw [if_pos q2, q])
    · rw [nb0]; exact st _ (by rw [fv]; unfold fs; rw [if_neg q2, if_pos q3, q])
    · exact k53 (by rw [fv]; unfold fs; rw [if_neg q2, if_neg q3])
    · refine k53 ?_
      have q1 : z.2.2.1 c = 1 := by rcases (ok c hc).2.2.1 with x | x; exact absurd x q; exact x
      rw [fv]; unfold fs; rw [q1]; split
      · rfl
      · split <;> rfl
  · have r121 : F' 121 = F 121 := by rw [ei, upR_ne _ _ (by omega), upR_ne _ _ (by omega), G121]
    have r143 : ∀ c, c < R * C → F' 143 c = z.2.1 c := fun c hc => by rw [ei, upR_ne _ _ (by omega), upR_ne _ _ (by omega), G143, (ag c hc).2.1]
    have r140 : ∀ c, c < R * C → F' 140 c = sw_w R C ring fire z c := fun c hc => by rw [ei, upR_ne _ _ (by omega), upR_ne _ _ (by omega), g2 c hc, hwt c hc]
    have r145 : ∀ c, c < R * C → F' 145 c = sw_f R C ring fire z c := fun c hc => by rw [ei, upR_ne _ _ (by omega), upR_eq, pt_lt _ _ hc]
    have r144 : ∀ c, c < R * C → F' 144 c = 0 := fun c hc => by rw [ei, upR_eq, pt_lt _ _ hc]
    have r146 : F' 146 = G 146 := by rw [ei, upR_ne _ _ (by omega), upR_ne _ _ (by omega)]
    have rfr : ∀ q, q ≠ 140 → q ≠ 143 → q ≠ 144 → q ≠ 145 → q ≠ 146 → F' q = F q := fun q h1 h2 h3 h4 h5 => by rw [ei, upR_ne _ _ h3, upR_ne _ _ h4, g1 q h1 h5]
    clear ei
    have hl0 : ∀ c, c < R * C → sw_l R C ring fire z c = nI (if sw_f R C ring fire z c = 0 then (z.2.1 c).toNatClampNeg / 2 else 0) ∧ 2 * (if sw_f R C ring fire z c = 0 then (z.2.1 c).toNatClampNeg / 2 else 0) ≤ (z.2.1 c).toNatClampNeg := fun c hc => by
      obtain ⟨e1, e2⟩ := nI_back (ok c hc).2.1 (by omega)
      unfold sw_l
      by_cases q : sw_f R C ring fire z c = 0
      · rw [if_pos q, if_pos q]
        have e3 : nI (z.2.1 c).toNatClampNeg / 2 = nI ((z.2.1 c).toNatClampNeg / 2) := pk_div (d := 2) (by omega) (by omega) (by omega)
        rw [← e1] at e3
        exact ⟨e3, by omega⟩
      · rw [if_neg q, if_neg q]; exact ⟨rfl, by omega⟩
    have hbd := fun m hm => (rN_bd (s := s) (B := B) (lv := sw_l R C ring fire z) (p := (z.2.1, sw_w R C ring fire z)) hR hC hB (fun c => (z.2.1 c).toNatClampNeg) (fun c => if sw_f R C ring fire z c = 0 then (z.2.1 c).toNatClampNeg / 2 else 0) (fun c hc => nI_back (ok c hc).2.1 (by omega)) hl0 hww m hm).2
    unfold wb_X12_goSwing_11
    refine m_cells (R := R) (C := C) (by rw [r121, e0]) (by rw [r121, e1]) ?_
    refine if_y (nI_le (Nat.le_refl _) (by omega)) ?_
    refine for2 (R * C) (fun m F2 => (∀ q, q ≠ 140 → q ≠ 144 → F2 q = F' q) ∧ (∀ j, j < R * C → (rN R C s (sw_l R C ring fire z) m (z.2.1, sw_w R C ring fire z)).1 j = z.2.1 j + F2 144 j) ∧ (∀ j, j < R * C → F2 140 j = (rN R C s (sw_l R C ring fire z) m (z.2.1, sw_w R C ring fire z)).2 j)) (by omega) (fun K m F2 hm hI hK => ?_) (fun K F2 hI => ?_) 0 F' (Nat.zero_le _) ⟨fun _ _ _ => rfl, fun j hj => by show z.2.1 j = _; rw [r144 j hj]; simp, fun j hj => r140 j hj⟩
    · obtain ⟨j1, j2, j3⟩ := hI
      have t121 : F2 121 = F 121 := by rw [j1 121 (by omega) (by omega), r121]
      have t143 : F2 143 m = z.2.1 m := by rw [j1 143 (by omega) (by omega), r143 m hm]
      have t145 : F2 145 m = sw_f R C ring fire z m := by rw [j1 145 (by omega) (by omega), r145 m hm]
      have ci : (nI m).toNatClampNeg = m := nI_clamp (by omega)
      have i16 : vp_in (nI m) 16 := vp_in_nI (by omega) (by omega)
      have skp : sw_l R C ring fire z m = 0 ∨ bs R C s m = none → K F2 (nI m + 1) := by
        intro q
        refine hK _ ⟨j1, ?_, ?_⟩
        · show ∀ j, j < R * C → (rst R C s _ m (rN R C s (sw_l R C ring fire z) m (z.2.1, sw_w R C ring fire z))).1 j = _
          rcases q with q | q
          · rw [rst_0 q (fun d hd => hbd m (by omega) d (bs_lt hR hC hm hd))]; exact j2
          · rw [rst_n q]; exact j2
        · show ∀ j, j < R * C → _ = (rst R C s _ m (rN R C s (sw_l R C ring fire z) m (z.2.1, sw_w R C ring fire z))).2 j
          rcases q with q | q
          · rw [rst_0 q (fun d hd => hbd m (by omega) d (bs_lt hR hC hm hd))]; exact j3
          · rw [rst_n q]; exact j3
      unfold wb_X12_goSwing_74
      refine m_cells (R := R) (C := C) (by rw [t121, e0]) (by rw [t121, e1]) ?_
      refine if_n (nI_ge hm (by omega)) ?_
      refine m_beside (R := R) (C := C) hR hC hC2 hm (by rw [t121, e0]) (by rw [t121, e1]) ?_
      refine ⟨i16, ?_⟩
      rw [ci, t143, t145]
      refine if_c (fun q => ?_) (fun q => skp (Or.inl (by unfold sw_l; rw [if_neg q])))
      cases hb : bs R C s m with
      | none => exact if_y rfl (skp (Or.inr hb))
      | some d =>
        have hd := bs_lt hR hC hm hb
        have cd : (bi (some d)).toNatClampNeg = d := nI_clamp (n := d) (by omega)
        have id16 : vp_in (bi (some d)) 16 := vp_in_nI (n := d) (by omega) (by omega)
        have hlm : sw_l R C ring fire z m = z.2.1 m / 2 := by unfold sw_l; rw [if_pos q]
        refine if_n (nI_m1 (d := d) (by omega)) ⟨i16, if_c (fun q2 => ?_) (fun q2 => ⟨i16, i16, i16, id16, id16, id16, ?_⟩)⟩
        · refine skp (Or.inl ?_)
          rw [hlm]
          obtain ⟨a, ha, e⟩ := (ok m hm).2.1
          rw [e] at q2 ⊢
          have : a ≤ 1 := (nI_leI (b := 1) (by omega) (by omega)).mp q2
          have e3 : nI a / 2 = nI (a / 2) := pk_div (d := 2) (by omega) (by omega) (by omega)
          rw [e3, Nat.div_eq_of_lt (by omega)]; rfl
        · refine m_atLeast ?_
          refine ⟨id16, ?_⟩
          refine hK _ ?_
          rw [cd, ← hlm]
          have w140 : ∀ v w, (upF (upF F2 144 m v) 144 d w) 140 = F2 140 := fun v w => by rw [upF_ne _ _ _ (by omega), upF_ne _ _ _ (by omega)]
          rw [w140, upF_eq F2 144 m]
          refine ⟨fun q h1 h2 => ?_, ?_, ?_⟩
          · rw [upF_ne _ _ _ h1, upF_ne _ _ _ h2, upF_ne _ _ _ h2]; exact j1 q h1 h2
          · show ∀ j, j < R * C → (rst R C s _ m (rN R C s (sw_l R C ring fire z) m (z.2.1, sw_w R C ring fire z))).1 j = _
            rw [rst_s hb]
            intro j hj
            rw [upF_ne _ (q := 144) _ _ (by omega), upF_eq, upF_eq]
            show upd (upd (rN R C s (sw_l R C ring fire z) m (z.2.1, sw_w R C ring fire z)).1 m _) d _ j = _
            have a1 : ∀ j, j < R * C → upd (rN R C s (sw_l R C ring fire z) m (z.2.1, sw_w R C ring fire z)).1 m ((rN R C s (sw_l R C ring fire z) m (z.2.1, sw_w R C ring fire z)).1 m - sw_l R C ring fire z m) j = z.2.1 j + upd (F2 144) m (F2 144 m - sw_l R C ring fire z m) j := by
              intro j hj
              by_cases x : j = m
              · subst x; rw [pk_us, pk_us, j2 j hj, as_sub]
              · rw [pk_un x, pk_un x, j2 j hj]
            by_cases x : j = d
            · subst x; rw [pk_us, pk_us, a1 j hj, Int32.add_assoc]
            · rw [pk_un x, pk_un x, a1 j hj]
          · show ∀ j, j < R * C → _ = (rst R C s _ m (rN R C s (sw_l R C ring fire z) m (z.2.1, sw_w R C ring fire z))).2 j
            rw [rst_s hb]
            intro j hj
            rw [upF_eq, w140]
            exact upd_ag (n := R * C) j3 (by rw [j3 d hd]) j hj
    · obtain ⟨j1, j2, j3⟩ := hI
      have t121 : F2 121 = F 121 := by rw [j1 121 (by omega) (by omega), r121]
      unfold wb_X12_goSwing_74
      refine m_cells (R := R) (C := C) (by rw [t121, e0]) (by rw [t121, e1]) ?_
      refine if_y (nI_le (Nat.le_refl _) (by omega)) ?_
      refine for2 (R * C) (fun c F3 => F3 = upR F2 143 (pt c (fun c => F2 143 c + F2 144 c) (F2 143))) (by omega) (fun K2 c F3 hc ei hK2 => ?_) (fun K2 F3 ei => ?_) 0 F2 (Nat.zero_le _) (by rw [pt_0, upR_self])
      · have v121 : F3 121 = F 121 := by rw [ei, upR_ne _ _ (by omega), t121]
        have v143 : F3 143 c = F2 143 c := by rw [ei, upR_eq, pt_ge _ _ (Nat.le_refl c)]
        have v144 : F3 144 = F2 144 := by rw [ei, upR_ne _ _ (by omega)]
        have i16 : vp_in (nI c) 16 := vp_in_nI (by omega) (by omega)
        unfold wb_X12_goSwing_173
        refine m_cells (R := R) (C := C) (by rw [v121, e0]) (by rw [v121, e1]) ?_
        refine if_n (nI_ge hc (by omega)) ⟨i16, i16, i16, ?_⟩
        rw [nI_clamp (by omega), v143, v144]
        refine hK2 _ ?_
        rw [ei, upF_upR]
        exact congrArg (upR F2 143) (pt_s c _ _ rfl)
      · have v121 : F3 121 = F 121 := by rw [ei, upR_ne _ _ (by omega), t121]
        unfold wb_X12_goSwing_173
        refine m_cells (R := R) (C := C) (by rw [v121, e0]) (by rw [v121, e1]) ?_
        refine if_y (nI_le (Nat.le_refl _) (by omega)) (h _ (fun q h1 h2 h3 h4 h5 => ?_) (fun c hc => ⟨?_, ?_, ?_, ?_⟩) (fun c hc => ?_))
        · rw [ei, upR_ne _ _ h2, j1 q h1 h3, rfr q h1 h2 h3 h4 h5]
        · rw [ei, upR_ne _ _ (by omega), j3 c hc]; rfl
        · rw [ei, upR_eq, pt_lt _ _ hc, j1 143 (by omega) (by omega), r143 c hc, ← j2 c hc]; rfl
        · rw [ei, upR_ne _ _ (by omega), j1 145 (by omega) (by omega), r145 c hc]; rfl
        · rw [ei, upR_ne _ _ (by omega), j1 146 (by omega) (by omega), r146]
          have := g3 c hc
          rw [Nat.add_zero] at this
          rw [this, (ag c hc).2.2.2, (ag c hc).2.1, ef, (hr c hc).1, (ag c hc).1]; rfl
        · rw [ei, upR_ne _ _ (by omega), j1 146 (by omega) (by omega), r146]
          exact g4 c hc
