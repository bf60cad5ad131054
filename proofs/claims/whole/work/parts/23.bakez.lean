/-! the swings, one behind another; taking out; judging -/
abbrev St : Type := (Nat → Int32) × (Nat → Int32) × (Nat → Int32) × (Nat → Int32)
def sw_w (R C : Nat) (ring : Nat → Int32) (fire : Int32) (z : St) : Nat → Int32 := pt (R * C) (fun c => tk (fire * ring c) (z.1 c)) z.1
def sw_f (R C : Nat) (ring : Nat → Int32) (fire : Int32) (z : St) : Nat → Int32 := pt (R * C) (fun c => fs (z.2.2.1 c) (z.2.1 c) (sw_w R C ring fire z c)) z.2.2.1
def sw_l (R C : Nat) (ring : Nat → Int32) (fire : Int32) (z : St) : Nat → Int32 := fun c => if sw_f R C ring fire z c = 0 then z.2.1 c / 2 else 0
def sw_p (R C : Nat) (ring : Nat → Int32) (fire s : Int32) (z : St) : R2 := rN R C s (sw_l R C ring fire z) (R * C) (z.2.1, sw_w R C ring fire z)
def sw_b (R C : Nat) (ring : Nat → Int32) (fire : Int32) (z : St) : Nat → Int32 := fun c => z.2.2.2 c + bO (z.2.1 c) (tk (fire * ring c) (z.1 c))
def sw1 (R C : Nat) (ring : Nat → Int32) (fire s : Int32) (z : St) : St := ((sw_p R C ring fire s z).2, (sw_p R C ring fire s z).1, sw_f R C ring fire z, sw_b R C ring fire z)
def swN (R C : Nat) (ring : Nat → Int32) (fire : Int32) (sw : Nat → Int32) : Nat → St → St
  | 0, z => z
  | i + 1, z => sw1 R C ring fire (sw i) (swN R C ring fire sw i z)
theorem bN_1 (h t w : Int32) : bN 1 h t w = bO t (tk h w) := by show bO t (tk h w) + 0 = _; simp
/-- what frying rests on, of the pan -/
def PanX (F : gS) (R C : Nat) : Prop := R < 5 ∧ C < 5 ∧ 2 ≤ R ∧ 2 ≤ C ∧ F 9 2 = nI (R * C) ∧ F 9 3 = nI R ∧ F 9 4 = nI C
def apk (k1 k2 k3 : Nat) : Prop := (k1 = 15 ∨ k1 = 18 ∨ k1 = 26) ∧ (k2 = 24 ∨ (37 ≤ k2 ∧ k2 < 48)) ∧ (k3 = 21 ∨ (49 ≤ k3 ∧ k3 < 119))
theorem lt2_ne {B : Nat} {t : Int32} (h : sm B t) (hB : B < 2 ^ 30) : 0 < t → ¬ t + 2 = 0 := by
  obtain ⟨a, ha, rfl⟩ := h
  intro _ e
  have : nI a + 2 = nI (a + 2) := nI_add a 2
  rw [this] at e
  exact nI_ne0 (by omega) (by omega) e
theorem s_swingAt {k0 i n : Nat} {F : gS} {Q : Int32 → Prop} (hi : i < n) (hn : n ≤ 6) (e : F k0 5 = nI n) (h : Q (F (k0 + 1) i)) : wp_X7_swingAt k0 (nI i) F Q := by
  unfold wp_X7_swingAt wp_X11_within
  rw [e]
  refine if_n (nI_pos (by omega)) (if_n ?_ (if_n (by decide) ⟨vp_in_nI (by omega) (by omega), ?_⟩))
  · obtain ⟨m, rfl⟩ : ∃ m, n = m + 1 := ⟨n - 1, by omega⟩
    rw [nI_pred]; exact nI_nlt (by omega) (by omega)
  · rw [nI_clamp (by omega)]; exact h
def sprJ (F : gS) (k1 k3 R C : Nat) (ring : Nat → Int32) (fire : Int32) (sw : Nat → Int32) (z0 : St) (i : Nat) (F' : gS) : Prop :=
  (∀ q, q ≠ 12 → q ≠ 13 → q ≠ k1 + 1 → q ≠ k3 + 1 → F' q = F q) ∧ F' (k1 + 1) = (swN R C ring fire sw i z0).1 ∧ F' (k3 + 1) = (swN R C ring fire sw i z0).2.1 ∧ F' 12 = (swN R C ring fire sw i z0).2.2.1
def zX (F : gS) (k1 k3 R C : Nat) (amount : Int32) : St := (upd (F (k1 + 1)) (mid R C) (mx (F (k1 + 1) (mid R C) - 2 * amount)), upd (pt 16 (fun _ => 0) (F (k3 + 1))) (mid R C) amount, pt 16 (fun _ => 0) (F 12), fun _ => 0)
theorem s_spread {k1 k2 k3 R C ns : Nat} {F : gS} {Q : Int32 → gS → Prop} (hP : PanX F R C) (ha : apk k1 k2 k3) (hns : ns ≤ 6) (e5 : F k2 5 = nI ns)
    (hz : ∀ i, i < ns → ∀ c, c < R * C → sm (2 ^ 29) ((swN R C (F 10) (F k2 1) (F (k2 + 1)) i (zX F k1 k3 R C (F k2 2))).2.1 c))
    (h : ∀ G, sprJ F k1 k3 R C (F 10) (F k2 1) (F (k2 + 1)) (zX F k1 k3 R C (F k2 2)) ns G → Q (sN (swN R C (F 10) (F k2 1) (F (k2 + 1)) ns (zX F k1 k3 R C (F k2 2))).2.2.2 (R * C)) G) : wp_X5_spread k1 k2 k3 F Q := by
  obtain ⟨hR, hC, hR2, hC2, e2, e3, e4⟩ := hP
  obtain ⟨ha1, ha2, ha3⟩ := ha
  have h16 := RC16 hR hC
  unfold wp_X5_spread
  refine s_pour hR hC hR2 hC2 e3 e4 ⟨by omega, by omega, by omega, by omega, by omega⟩ (fun G g1 g2 g3 g4 => ?_)
  refine for3 ns (fun i F' x4 => sprJ F k1 k3 R C (F 10) (F k2 1) (F (k2 + 1)) (zX F k1 k3 R C (F k2 2)) i F' ∧ x4 = sN (swN R C (F 10) (F k2 1) (F (k2 + 1)) i (zX F k1 k3 R C (F k2 2))).2.2.2 (R * C)) (by omega) (fun K i F' x4 hi hI hK => ?_) (fun K F' x4 hI => ?_) 0 G 0 (Nat.zero_le _) ⟨⟨fun q h1 h2 h3 h4 => g1 q h1 h3 h4, g4, g3, g2⟩, (sN_0 _).symm⟩
  · obtain ⟨⟨j1, j2, j3, j4⟩, ex⟩ := hI
    have f9 : F' 9 = F 9 := j1 9 (by omega) (by omega) (by omega) (by omega)
    have f10 : F' 10 = F 10 := j1 10 (by omega) (by omega) (by omega) (by omega)
    have fk2 : F' k2 = F k2 := j1 k2 (by omega) (by omega) (by omega) (by omega)
    have fs2 : F' (k2 + 1) = F (k2 + 1) := j1 (k2 + 1) (by omega) (by omega) (by omega) (by omega)
    have hzi := hz i hi
    generalize hzz : swN R C (F 10) (F k2 1) (F (k2 + 1)) i (zX F k1 k3 R C (F k2 2)) = z at *
    unfold wb_X5_spread_16
    refine if_n (by rw [fk2, e5]; exact nI_ge hi (by omega)) ?_
    refine s_lie (n := R * C) (t := 1) h16 (by rw [f9, e2]) (by omega) (fun c hc => by rw [j3]; exact lt2_ne (hzi c hc) (by omega)) (by omega) (by omega) (by omega) ?_
    rw [fk2, f10, j2, j3]
    have ew : pt (R * C) (fun c => wN 1 (F k2 1 * F 10 c) (z.1 c)) z.1 = sw_w R C (F 10) (F k2 1) z := rfl
    rw [ew]
    refine s_fasten (n := R * C) h16 (by rw [upR_ne _ _ (by omega), f9, e2]) (by omega) (by omega) ?_
    rw [upR_eq, upR_ne _ (q := 12) _ (by omega), upR_ne _ (q := k3 + 1) _ (by omega), j3, j4]
    have ef : pt (R * C) (fun c => fs (z.2.2.1 c) (z.2.1 c) (sw_w R C (F 10) (F k2 1) z c)) z.2.2.1 = sw_f R C (F 10) (F k2 1) z := rfl
    rw [ef]
    refine s_swingAt (n := ns) hi hns (by rw [upR_ne _ _ (by omega), upR_ne _ _ (by omega), fk2, e5]) ?_
    rw [upR_ne _ (q := k2 + 1) _ (by omega), upR_ne _ (q := k2 + 1) _ (by omega), fs2]
    refine s_run hR hC (by rw [upR_ne _ _ (by omega), upR_ne _ _ (by omega), f9, e2]) (by rw [upR_ne _ _ (by omega), upR_ne _ _ (by omega), f9, e3]) (by rw [upR_ne _ _ (by omega), upR_ne _ _ (by omega), f9, e4]) ⟨by omega, by omega, by omega, by omega, by omega, by omega, by omega⟩ (fun G2 hG => ?_)
    obtain ⟨u1, u2, u3, u4⟩ := hG
    have el : lvO (upR (upR F' (k1 + 1) (sw_w R C (F 10) (F k2 1) z)) 12 (sw_f R C (F 10) (F k2 1) z)) k3 = sw_l R C (F 10) (F k2 1) z := by
      funext c
      unfold lvO sw_l
      rw [upR_eq, upR_ne _ (q := k3 + 1) _ (by omega), upR_ne _ (q := k3 + 1) _ (by omega), j3]
    rw [el, upR_ne _ (q := k3 + 1) _ (by omega), upR_ne _ (q := k3 + 1) _ (by omega), upR_ne _ (q := k1 + 1) _ (by omega), upR_eq, j3] at u3 u4
    refine hK _ _ ⟨⟨fun q h1 h2 h3 h4 => ?_, ?_, ?_, ?_⟩, ?_⟩
    · rw [u1 q h2 h3 h4, upR_ne _ _ h1, upR_ne _ _ h3]; exact j1 q h1 h2 h3 h4
    · rw [u4]
      show _ = (sw1 R C (F 10) (F k2 1) (F (k2 + 1) i) (swN R C (F 10) (F k2 1) (F (k2 + 1)) i (zX F k1 k3 R C (F k2 2)))).1
      rw [hzz]; rfl
    · rw [u3]
      show _ = (sw1 R C (F 10) (F k2 1) (F (k2 + 1) i) (swN R C (F 10) (F k2 1) (F (k2 + 1)) i (zX F k1 k3 R C (F k2 2)))).2.1
      rw [hzz]; rfl
    · rw [u1 12 (by omega) (by omega) (by omega), upR_eq]
      show _ = (sw1 R C (F 10) (F k2 1) (F (k2 + 1) i) (swN R C (F 10) (F k2 1) (F (k2 + 1)) i (zX F k1 k3 R C (F k2 2)))).2.2.1
      rw [hzz]; rfl
    · show _ = sN (sw1 R C (F 10) (F k2 1) (F (k2 + 1) i) (swN R C (F 10) (F k2 1) (F (k2 + 1)) i (zX F k1 k3 R C (F k2 2)))).2.2.2 (R * C)
      rw [hzz, ex]
      show _ = sN (fun c => z.2.2.2 c + bO (z.2.1 c) (tk (F k2 1 * F 10 c) (z.1 c))) (R * C)
      rw [sN_add]
      congr 1
      exact sN_cg _ (fun c _ => bN_1 _ _ _)
  · obtain ⟨hJ, ex⟩ := hI
    have fk2 : F' k2 = F k2 := hJ.1 k2 (by omega) (by omega) (by omega) (by omega)
    unfold wb_X5_spread_16
    refine if_y (by rw [fk2, e5]; exact nI_le (Nat.le_refl _) (by omega)) ?_
    rw [ex]; exact h _ hJ
/-! taking out -/
def sk (t s b f : Int32) : Int32 := if t ≤ 0 then 0 else if s = 0 then 0 else if b < f then 0 else 1
def nb (t s b f : Int32) : Int32 := if t ≤ 0 then b else if s = 0 then b else if b < f then b else (if b + 1 < 9 then b + 1 else 9)
theorem s_takeOut {k1 k2 n : Nat} {F : gS} {Q : Int32 → gS → Prop} (hn : n ≤ 16) (hF : F 9 2 = nI n) (a1 : k1 + 2 ≠ 9 ∧ k1 + 2 ≠ 11 ∧ k1 + 2 ≠ k2 + 1)
    (h : Q (sN (fun c => sk (F (k2 + 1) c) (F 11 c) (F (k1 + 2) c) (F k1 2)) n) (upF (upR F (k1 + 2) (pt n (fun c => nb (F (k2 + 1) c) (F 11 c) (F (k1 + 2) c) (F k1 2)) (F (k1 + 2)))) k1 2 (mx (F k1 2 - 1)))) : wp_X5_takeOut k1 k2 F Q := by
  obtain ⟨a9, a11, a2⟩ := a1
  unfold wp_X5_takeOut
  refine for3 n (fun c F' x3 => F' = upR F (k1 + 2) (pt c (fun c => nb (F (k2 + 1) c) (F 11 c) (F (k1 + 2) c) (F k1 2)) (F (k1 + 2))) ∧ x3 = sN (fun c => sk (F (k2 + 1) c) (F 11 c) (F (k1 + 2) c) (F k1 2)) c) (by omega) (fun K c F' x3 hc hI hK => ?_) (fun K F' x3 hI => ?_) 0 F 0 (Nat.zero_le _) ⟨by rw [pt_0, upR_self], rfl⟩
  · obtain ⟨e1, e2⟩ := hI
    have r9 : F' 9 = F 9 := by rw [e1]; exact upR_ne _ _ (by omega)
    have r11 : F' 11 = F 11 := by rw [e1]; exact upR_ne _ _ (by omega)
    have r1 : F' k1 = F k1 := by rw [e1]; exact upR_ne _ _ (by omega)
    have r2 : F' (k2 + 1) = F (k2 + 1) := by rw [e1]; exact upR_ne _ _ (by omega)
    have rb : F' (k1 + 2) c = F (k1 + 2) c := by rw [e1, upR_eq]; exact pt_ge _ _ (Nat.le_refl c)
    have ci : (nI c).toNatClampNeg = c := nI_clamp (by omega)
    have st : ∀ v, v = nb (F (k2 + 1) c) (F 11 c) (F (k1 + 2) c) (F k1 2) → upF F' (k1 + 2) c v = upR F (k1 + 2) (pt (c + 1) (fun c => nb (F (k2 + 1) c) (F 11 c) (F (k1 + 2) c) (F k1 2)) (F (k1 + 2))) := by
      intro v hv
      rw [e1, upF_upR]
      exact congrArg (upR F (k1 + 2)) (pt_s c _ _ hv)
    have sk0 : F (k1 + 2) c = nb (F (k2 + 1) c) (F 11 c) (F (k1 + 2) c) (F k1 2) → F' = upR F (k1 + 2) (pt (c + 1) (fun c => nb (F (k2 + 1) c) (F 11 c) (F (k1 + 2) c) (F k1 2)) (F (k1 + 2))) := by
      intro hv
      rw [← st _ hv, upF_R, upd_self _ _ rb.symm, upR_self]
    have sx : ∀ v, v = sk (F (k2 + 1) c) (F 11 c) (F (k1 + 2) c) (F k1 2) → x3 + v = sN (fun c => sk (F (k2 + 1) c) (F 11 c) (F (k1 + 2) c) (F k1 2)) (c + 1) := by
      intro v hv; rw [e2, hv]; rfl
    have sx0 : 0 = sk (F (k2 + 1) c) (F 11 c) (F (k1 + 2) c) (F k1 2) → x3 = sN (fun c => sk (F (k2 + 1) c) (F 11 c) (F (k1 + 2) c) (F k1 2)) (c + 1) := by
      intro hv; rw [← sx 0 hv]; simp
    unfold wb_X5_takeOut_5
    refine if_n (by rw [r9, hF]; exact nI_ge hc (by omega)) ⟨vp_in_nI (by omega) (by omega), ?_⟩
    rw [ci, r1, r2, r11, rb]
    refine if_c (fun q => ?_) (fun q => ⟨vp_in_nI (by omega) (by omega), if_c (fun q2 => ?_) (fun q2 => ⟨vp_in_nI (by omega) (by omega), if_c (fun q3 => ?_) (fun q3 => ⟨vp_in_nI (by omega) (by omega), vp_in_nI (by omega) (by omega), ?_⟩)⟩)⟩)
    · exact hK _ _ ⟨sk0 (by unfold nb; rw [if_pos q]), sx0 (by unfold sk; rw [if_pos q])⟩
    · exact hK _ _ ⟨sk0 (by unfold nb; rw [if_neg q, if_pos q2]), sx0 (by unfold sk; rw [if_neg q, if_pos q2])⟩
    · exact hK _ _ ⟨sk0 (by unfold nb; rw [if_neg q, if_neg q2, if_pos q3]), sx0 (by unfold sk; rw [if_neg q, if_neg q2, if_pos q3])⟩
    · exact hK _ _ ⟨st _ (by unfold nb; rw [if_neg q, if_neg q2, if_neg q3]), sx _ (by unfold sk; rw [if_neg q, if_neg q2, if_neg q3])⟩
  · obtain ⟨e1, e2⟩ := hI
    have r9 : F' 9 = F 9 := by rw [e1]; exact upR_ne _ _ (by omega)
    have r1 : F' k1 = F k1 := by rw [e1]; exact upR_ne _ _ (by omega)
    unfold wb_X5_takeOut_5
    refine if_y (by rw [r9, hF]; exact nI_le (Nat.le_refl n) (by omega)) ?_
    rw [r1, e1, e2]
    exact h
/-! judging -/
def loN (i : Int32) (th : Nat → Int32) : Nat → Int32
  | 0 => i
  | c + 1 => if th c ≤ 0 then loN i th c else if th c < loN i th c then th c else loN i th c
def hiN (th : Nat → Int32) : Nat → Int32
  | 0 => 0
  | c + 1 => if th c ≤ 0 then hiN th c else if hiN th c < th c then th c else hiN th c
def coN (th : Nat → Int32) : Nat → Int32
  | 0 => 0
  | c + 1 => if th c ≤ 0 then coN th c else coN th c + 1
def edN (th : Nat → Int32) (n : Nat) : Int32 := if coN th n ≤ 0 then 0 else hiN th n - loN 61 th n
theorem t0c : (0 : Int32).toNatClampNeg = 0 := by decide
theorem t1c : (1 : Int32).toNatClampNeg = 1 := by decide
theorem t2c : (2 : Int32).toNatClampNeg = 2 := by decide
theorem t3c : (3 : Int32).toNatClampNeg = 3 := by decide
theorem t4c : (4 : Int32).toNatClampNeg = 4 := by decide
theorem t5c : (5 : Int32).toNatClampNeg = 5 := by decide
theorem t6c : (6 : Int32).toNatClampNeg = 6 := by decide
theorem i7 (k : Nat) (h : k < 7) : vp_in (nI k) 7 := vp_in_nI h (by omega)
theorem s_measure {k0 : Nat} {F : gS} {Q : gS → Prop} (h : Q (upF (upF F (k0 + 2) 3 (edN (F (k0 + 1)) 16)) (k0 + 2) 4 (coN (F (k0 + 1)) 16))) : wp_X0_measure k0 F Q := by
  unfold wp_X0_measure
  refine for4 16 (fun c x1 x2 x3 => x1 = loN 61 (F (k0 + 1)) c ∧ x2 = hiN (F (k0 + 1)) c ∧ x3 = coN (F (k0 + 1)) c) (by omega) (fun K c x1 x2 x3 hc hI hK => ?_) (fun K x1 x2 x3 hI => ?_) 0 _ _ _ (Nat.zero_le _) ⟨rfl, rfl, rfl⟩
  · obtain ⟨rfl, rfl, rfl⟩ := hI
    have ci : (nI c).toNatClampNeg = c := nI_clamp (by omega)
    unfold wb_X0_measure_10
    refine if_n (nI_ge (b := 16) hc (by omega)) ⟨vp_in_nI hc (by omega), ?_⟩
    rw [ci]
    refine if_c (fun q => ?_) (fun q => ⟨vp_in_nI hc (by omega), vp_in_nI hc (by omega), ?_⟩)
    · refine hK _ _ _ ⟨?_, ?_, ?_⟩
      · show _ = if F (k0 + 1) c ≤ 0 then _ else _; rw [if_pos q]
      · show _ = if F (k0 + 1) c ≤ 0 then _ else _; rw [if_pos q]
      · show _ = if F (k0 + 1) c ≤ 0 then _ else _; rw [if_pos q]
    · refine hK _ _ _ ⟨?_, ?_, ?_⟩
      · show _ = if F (k0 + 1) c ≤ 0 then _ else _; rw [if_neg q]
      · show _ = if F (k0 + 1) c ≤ 0 then _ else _; rw [if_neg q]
      · show _ = if F (k0 + 1) c ≤ 0 then _ else _; rw [if_neg q]
  · obtain ⟨rfl, rfl, rfl⟩ := hI
    unfold wb_X0_measure_10
    refine if_y (nI_le (a := 16) (Nat.le_refl _) (by omega)) ?_
    unfold wp_X0_measure_60
    rw [t3c, t4c]
    unfold edN at h
    refine if_c (fun q => ⟨i7 3 (by omega), i7 4 (by omega), ?_⟩) (fun q => ⟨i7 3 (by omega), i7 4 (by omega), ?_⟩)
    · rw [if_pos q] at h; exact h
    · rw [if_neg q] at h; exact h
def kdO (st ed me : Int32) : Int32 := if st ≤ 0 then (if ed ≤ 9 then (if 20 ≤ me then (if me ≤ 100 then (if me ≤ 60 then 0 else 2) else 3) else 1) else 4) else 5
def wO (k : Int32) : Int32 := gWorth.getD k.toNatClampNeg 0
theorem kdO_sm (st ed me : Int32) : sm 5 (kdO st ed me) := by
  unfold kdO
  split
  · split
    · split
      · split
        · split
          · exact ⟨0, by omega, rfl⟩
          · exact ⟨2, by omega, rfl⟩
        · exact ⟨3, by omega, rfl⟩
      · exact ⟨1, by omega, rfl⟩
    · exact ⟨4, by omega, rfl⟩
  · exact ⟨5, by omega, rfl⟩
def cv (cov : Int32) : Int32 := if (1 : Int32) < cov then cov else 1
def told (cov ed x1 x2 x3 : Int32) : Nat → Int32
  | 0 => kdO x3 ed (x1 / cv cov)
  | 1 => x1 / cv cov
  | 2 => x2 / cv cov
  | 3 => ed
  | 4 => cov
  | 5 => x3
  | _ => wO (kdO x3 ed (x1 / cv cov))
theorem cv_ne (x : Int32) : ¬ cv x = 0 := by
  unfold cv
  split
  · rename_i h; intro e; rw [e] at h; exact absurd h (by decide)
  · decide
theorem s_kindNow {k0 : Nat} {F : gS} {Q : Int32 → Prop} (h : Q (kdO (F (k0 + 2) 5) (F (k0 + 2) 3) (F (k0 + 2) 1))) : wp_X0_kindNow k0 F Q := by
  unfold wp_X0_kindNow
  rw [t5c, t3c, t1c]
  unfold kdO at h
  refine ⟨i7 5 (by omega), if_c (fun q => ⟨i7 3 (by omega), if_c (fun q2 => ⟨i7 1 (by omega), ?_⟩) (fun q2 => ?_)⟩) (fun q => ?_)⟩
  · rw [if_pos q, if_pos q2] at h
    refine if_c (fun q3 => if_c (fun q4 => if_c (fun q5 => ?_) (fun q5 => ?_)) (fun q4 => ?_)) (fun q3 => ?_)
    · rw [if_pos q3, if_pos q4, if_pos q5] at h; exact h
    · rw [if_pos q3, if_pos q4, if_neg q5] at h; exact h
    · rw [if_pos q3, if_neg q4] at h; exact h
    · rw [if_neg q3] at h; exact h
  · rw [if_pos q, if_neg q2] at h; exact h
  · rw [if_neg q] at h; exact h
theorem s_judge {k0 : Nat} {x1 x2 x3 : Int32} {F : gS} {Q : gS → Prop} (h : ∀ G, (∀ q, q ≠ k0 + 2 → G q = F q) → (∀ j, j < 7 → G (k0 + 2) j = told (coN (F (k0 + 1)) 16) (edN (F (k0 + 1)) 16) x1 x2 x3 j) → Q G) : wp_X0_judge k0 x1 x2 x3 F Q := by
  unfold wp_X0_judge
  refine s_measure ?_
  generalize coN (F (k0 + 1)) 16 = cov at h ⊢
  generalize edN (F (k0 + 1)) 16 = ed at h ⊢
  rw [t4c, t1c, t2c, t5c, t0c, t6c]
  have e4 : (upF (upF F (k0 + 2) 3 ed) (k0 + 2) 4 cov) (k0 + 2) 4 = cov := by rw [upF_eq, pk_us]
  rw [e4]
  have ecv : (if (1 : Int32) < cov then cov else 1) = cv cov := rfl
  rw [ecv]
  refine ⟨i7 4 (by omega), cv_ne cov, i7 1 (by omega), cv_ne cov, i7 2 (by omega), i7 5 (by omega), ?_⟩
  refine s_kindNow ?_
  generalize h5 : upF (upF (upF (upF (upF F (k0 + 2) 3 ed) (k0 + 2) 4 cov) (k0 + 2) 1 (x1 / cv cov)) (k0 + 2) 2 (x2 / cv cov)) (k0 + 2) 5 x3 = F5
  have fr : ∀ q, q ≠ k0 + 2 → F5 q = F q := by
    intro q hq
    rw [← h5, upF_ne _ _ _ hq, upF_ne _ _ _ hq, upF_ne _ _ _ hq, upF_ne _ _ _ hq, upF_ne _ _ _ hq]
  have f5 : F5 (k0 + 2) 5 = x3 := by rw [← h5, upF_eq, pk_us]
  have f2 : F5 (k0 + 2) 2 = x2 / cv cov := by rw [← h5, upF_eq, pk_un (by decide), upF_eq, pk_us]
  have f1 : F5 (k0 + 2) 1 = x1 / cv cov := by rw [← h5, upF_eq, pk_un (by decide), upF_eq, pk_un (by decide), upF_eq, pk_us]
  have f4 : F5 (k0 + 2) 4 = cov := by rw [← h5, upF_eq, pk_un (by decide), upF_eq, pk_un (by decide), upF_eq, pk_un (by decide), upF_eq, pk_us]
  have f3 : F5 (k0 + 2) 3 = ed := by rw [← h5, upF_eq, pk_un (by decide), upF_eq, pk_un (by decide), upF_eq, pk_un (by decide), upF_eq, pk_un (by decide), upF_eq, pk_us]
  clear h5
  rw [f5, f3, f1]
  have e7 : ∀ k, (upF F5 (k0 + 2) 0 k) (k0 + 2) 0 = k := fun k => by rw [upF_eq, pk_us]
  have hk := kdO_sm x3 ed (x1 / cv cov)
  have ht0 : told cov ed x1 x2 x3 0 = kdO x3 ed (x1 / cv cov) := rfl
  have ht6 : told cov ed x1 x2 x3 6 = wO (kdO x3 ed (x1 / cv cov)) := rfl
  generalize kdO x3 ed (x1 / cv cov) = k at hk ht0 ht6 ⊢
  show vp_in 0 7 ∧ vp_in 0 7 ∧ vp_in ((upF F5 (k0 + 2) 0 k) (k0 + 2) 0) 6 ∧ vp_in 6 7 ∧ Q (upF (upF F5 (k0 + 2) 0 k) (k0 + 2) 6 (gWorth.getD ((upF F5 (k0 + 2) 0 k) (k0 + 2) 0).toNatClampNeg 0))
  rw [e7]
  refine ⟨i7 0 (by omega), i7 0 (by omega), ?_, i7 6 (by omega), h _ (fun q hq => by rw [upF_ne _ _ _ hq, upF_ne _ _ _ hq, fr q hq]) (fun j hj => ?_)⟩
  · obtain ⟨a, ha, hb⟩ := hk
    rw [hb]; exact vp_in_nI (by omega) (by omega)
  · rw [upF_eq, upF_eq]
    rcases (by omega : j = 0 ∨ j = 1 ∨ j = 2 ∨ j = 3 ∨ j = 4 ∨ j = 5 ∨ j = 6) with rfl | rfl | rfl | rfl | rfl | rfl | rfl
    · rw [pk_un (by decide), pk_us, ht0]
    · rw [pk_un (by decide), pk_un (by decide), f1]; rfl
    · rw [pk_un (by decide), pk_un (by decide), f2]; rfl
    · rw [pk_un (by decide), pk_un (by decide), f3]; rfl
    · rw [pk_un (by decide), pk_un (by decide), f4]; rfl
    · rw [pk_un (by decide), pk_un (by decide), f5]; rfl
    · rw [pk_us, ht6]; rfl
