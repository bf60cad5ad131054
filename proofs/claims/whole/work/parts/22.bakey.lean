/-! cool, run -/
def mx (x : Int32) : Int32 := if (0 : Int32) < x then x else 0
theorem s_cool {k0 c : Nat} {x2 : Int32} {F : gS} {Q : gS → Prop} (hc : c < 16) (h : Q (upF F (k0 + 1) c (mx (F (k0 + 1) c - 2 * x2)))) : wp_X1_cool k0 (nI c) x2 F Q := by
  unfold wp_X1_cool
  rw [nI_clamp (by omega)]
  exact ⟨vp_in_nI hc (by omega), vp_in_nI hc (by omega), h⟩
theorem nI_m1 {d : Nat} (h : d < 2 ^ 31) : ¬ nI d = -1 := by
  intro e
  have e2 : (nI d).toInt = (-1 : Int32).toInt := by rw [e]
  rw [nI_toInt h] at e2
  have e3 : (-1 : Int32).toInt = -1 := by decide
  omega
theorem upF_upR2 (F : gS) {a b : Nat} (h : a ≠ b) (f g : Nat → Int32) (c : Nat) (v : Int32) : upF (upR (upR F a f) b g) a c v = upR (upR F a (upd f c v)) b g := by
  funext q
  unfold upF upR
  by_cases h1 : q = a
  · subst h1; simp [h]
  · simp [h1]
abbrev R2 : Type := (Nat → Int32) × (Nat → Int32)
def rst (R C : Nat) (s : Int32) (lv : Nat → Int32) (c : Nat) (p : R2) : R2 := match bs R C s c with
  | none => p
  | some d => (upd (upd p.1 c (p.1 c - lv c)) d (upd p.1 c (p.1 c - lv c) d + lv c), upd p.2 d (mx (p.2 d - 2 * lv c)))
def rN (R C : Nat) (s : Int32) (lv : Nat → Int32) : Nat → R2 → R2
  | 0, p => p
  | c + 1, p => rst R C s lv c (rN R C s lv c p)
theorem rst_n {R C c : Nat} {s : Int32} {lv : Nat → Int32} {p : R2} (h : bs R C s c = none) : rst R C s lv c p = p := by unfold rst; rw [h]
theorem rst_s {R C c d : Nat} {s : Int32} {lv : Nat → Int32} {p : R2} (h : bs R C s c = some d) : rst R C s lv c p = (upd (upd p.1 c (p.1 c - lv c)) d (upd p.1 c (p.1 c - lv c) d + lv c), upd p.2 d (mx (p.2 d - 2 * lv c))) := by unfold rst; rw [h]
theorem RC16 {R C : Nat} (hR : R < 5) (hC : C < 5) : R * C ≤ 16 := by
  have := Nat.mul_le_mul (Nat.le_of_lt_succ hR) (Nat.le_of_lt_succ hC); omega
theorem cell_lt {R C r q : Nat} (hr : r < R) (hq : q < C) : r * C + q < R * C := by
  have h1 : (r + 1) * C ≤ R * C := Nat.mul_le_mul_right C hr
  rw [Nat.succ_mul] at h1; omega
def lvO (F : gS) (k2 : Nat) : Nat → Int32 := fun c => if F 12 c = 0 then F (k2 + 1) c / 2 else 0
def runJ (F : gS) (k1 k2 R C : Nat) (s : Int32) (m : Nat) (F' : gS) : Prop :=
  (∀ q, q ≠ 13 → q ≠ k1 + 1 → q ≠ k2 + 1 → F' q = F q) ∧ (∀ c, c < R * C → F' 13 c = lvO F k2 c) ∧ F' (k2 + 1) = (rN R C s (lvO F k2) m (F (k2 + 1), F (k1 + 1))).1 ∧ F' (k1 + 1) = (rN R C s (lvO F k2) m (F (k2 + 1), F (k1 + 1))).2
theorem s_run {k1 k2 R C : Nat} {s : Int32} {F : gS} {Q : gS → Prop} (hR : R < 5) (hC : C < 5) (e2 : F 9 2 = nI (R * C)) (e3 : F 9 3 = nI R) (e4 : F 9 4 = nI C) (a1 : k1 + 1 ≠ 9 ∧ k2 + 1 ≠ 9 ∧ k1 + 1 ≠ 13 ∧ k2 + 1 ≠ 13 ∧ k1 + 1 ≠ 12 ∧ k2 + 1 ≠ 12 ∧ k1 ≠ k2)
    (h : ∀ G, runJ F k1 k2 R C s (R * C) G → Q G) : wp_X5_run k1 k2 s F Q := by
  obtain ⟨a9, b9, a13, b13, a12, b12, ab⟩ := a1
  have h16 := RC16 hR hC
  unfold wp_X5_run
  refine for2 (R * C) (fun c F' => F' = upR F 13 (pt c (lvO F k2) (F 13))) (by omega) (fun K c F' hc e1 hK => ?_) (fun K F' e1 => ?_) 0 F (Nat.zero_le _) (by rw [pt_0, upR_self])
  · have r9 : F' 9 = F 9 := by rw [e1]; exact upR_ne _ _ (by omega)
    have r12 : F' 12 = F 12 := by rw [e1]; exact upR_ne _ _ (by omega)
    have r2 : F' (k2 + 1) = F (k2 + 1) := by rw [e1]; exact upR_ne _ _ (by omega)
    have ci : (nI c).toNatClampNeg = c := nI_clamp (by omega)
    have st : ∀ v, v = lvO F k2 c → upF F' 13 c v = upR F 13 (pt (c + 1) (lvO F k2) (F 13)) := by
      intro v hv
      rw [e1, upF_upR]
      exact congrArg (upR F 13) (pt_s c _ _ hv)
    unfold wb_X5_run_3
    refine if_n (by rw [r9, e2]; exact nI_ge hc (by omega)) ⟨vp_in_nI (by omega) (by omega), ?_⟩
    rw [ci, r12, r2]
    refine if_c (fun q => ⟨vp_in_nI (by omega) (by omega), vp_in_nI (by omega) (by omega), ?_⟩) (fun q => ⟨vp_in_nI (by omega) (by omega), ?_⟩)
    · exact hK _ (st _ (by unfold lvO; rw [if_pos q]))
    · exact hK _ (st _ (by unfold lvO; rw [if_neg q]))
  · unfold wb_X5_run_3
    have r9 : F' 9 = F 9 := by rw [e1]; exact upR_ne _ _ (by omega)
    refine if_y (by rw [r9, e2]; exact nI_le (Nat.le_refl _) (by omega)) ?_
    have J0 : runJ F k1 k2 R C s 0 F' := by
      refine ⟨fun q h1 h2 h3 => by rw [e1]; exact upR_ne _ _ h1, fun c hc => by rw [e1, upR_eq]; exact pt_lt _ _ hc, by rw [e1]; exact upR_ne _ _ (by omega), by rw [e1]; exact upR_ne _ _ (by omega)⟩
    clear e1 r9
    refine for2 R (fun r F' => runJ F k1 k2 R C s (r * C) F') (by omega) (fun K r F' hr hJ hK => ?_) (fun K F' hJ => ?_) 0 F' (Nat.zero_le _) (by rw [Nat.zero_mul]; exact J0)
    · unfold wb_X5_run_51
      have r9 : F' 9 = F 9 := hJ.1 9 (by omega) (by omega) (by omega)
      refine if_n (by rw [r9, e3]; exact nI_ge hr (by omega)) ?_
      clear r9
      refine for2 C (fun q F' => runJ F k1 k2 R C s (r * C + q) F') (by omega) (fun K2 q F' hq hJ hK2 => ?_) (fun K2 F' hJ => ?_) 0 F' (Nat.zero_le _) hJ
      · have r9 : F' 9 = F 9 := hJ.1 9 (by omega) (by omega) (by omega)
        have hm := cell_lt hr hq
        have hn6 : nI r * (F' 9 4) + nI q = nI (r * C + q) := by rw [r9, e4, pk_mul, nI_add]
        have cm : (nI (r * C + q)).toNatClampNeg = r * C + q := nI_clamp (by omega)
        unfold wb_X5_run_63
        refine if_n (by rw [r9, e4]; exact nI_ge hq (by omega)) ?_
        rw [hn6]
        refine s_beside (R := R) (C := C) (r := r) (q := q) hR hC hr hq (by rw [r9, e3]) (by rw [r9, e4]) ?_
        cases hb : bs R C s (r * C + q) with
        | none =>
          refine if_y rfl ?_
          refine hK2 _ ?_
          show runJ F k1 k2 R C s (r * C + q + 1) F'
          refine ⟨hJ.1, hJ.2.1, ?_, ?_⟩
          · rw [hJ.2.2.1]; show _ = (rst R C s _ (r * C + q) _).1; rw [rst_n hb]
          · rw [hJ.2.2.2]; show _ = (rst R C s _ (r * C + q) _).2; rw [rst_n hb]
        | some d =>
          have hd : d < 16 := Nat.lt_of_lt_of_le (bs_lt hR hC hm hb) h16
          have cd : (nI d).toNatClampNeg = d := nI_clamp (by omega)
          refine if_n (nI_m1 (by omega)) ?_
          show vp_in (nI (r * C + q)) 16 ∧ vp_in (nI (r * C + q)) 16 ∧ vp_in (nI (r * C + q)) 16 ∧ _
          have i1 : vp_in (nI (r * C + q)) 16 := vp_in_nI (by omega) (by omega)
          have i2 : vp_in (bi (some d)) 16 := vp_in_nI hd (by omega)
          refine ⟨i1, i1, i1, i2, i1, i2, i1, ?_⟩
          refine s_cool (c := d) hd ?_
          refine hK2 _ ?_
          have cd2 : (bi (some d)).toNatClampNeg = d := cd
          rw [cm, cd2]
          have f13 : F' 13 (r * C + q) = lvO F k2 (r * C + q) := hJ.2.1 _ hm
          have n1 : k1 + 1 ≠ k2 + 1 := by omega
          have n2 : k2 + 1 ≠ k1 + 1 := by omega
          have x1 : ∀ v, (upF F' (k2 + 1) (r * C + q) v) (k2 + 1) = upd (F' (k2 + 1)) (r * C + q) v := fun v => upF_eq _ _ _ _
          have x13 : ∀ v, (upF F' (k2 + 1) (r * C + q) v) 13 = F' 13 := fun v => upF_ne _ _ _ (by omega)
          have y13 : ∀ v w, (upF (upF F' (k2 + 1) (r * C + q) v) (k2 + 1) d w) 13 = F' 13 := fun v w => by rw [upF_ne _ _ _ (by omega), x13]
          have yk : ∀ v w, (upF (upF F' (k2 + 1) (r * C + q) v) (k2 + 1) d w) (k1 + 1) = F' (k1 + 1) := fun v w => by rw [upF_ne _ _ _ n1, upF_ne _ _ _ n1]
          show runJ F k1 k2 R C s (r * C + q + 1) _
          rw [x1, x13, y13, yk, f13]
          refine ⟨fun z h1 h2 h3 => ?_, fun z hz => ?_, ?_, ?_⟩
          · rw [upF_ne _ _ _ h2, upF_ne _ _ _ h3, upF_ne _ _ _ h3]; exact hJ.1 z h1 h2 h3
          · rw [upF_ne _ _ _ (by omega), y13]; exact hJ.2.1 z hz
          · rw [upF_ne _ _ _ n2, upF_eq, x1, hJ.2.2.1]
            show _ = (rst R C s _ (r * C + q) _).1
            rw [rst_s hb]
          · rw [upF_eq, yk, hJ.2.2.2]
            show _ = (rst R C s _ (r * C + q) _).2
            rw [rst_s hb]
      · have r9 : F' 9 = F 9 := hJ.1 9 (by omega) (by omega) (by omega)
        unfold wb_X5_run_63
        refine if_y (by rw [r9, e4]; exact nI_le (Nat.le_refl _) (by omega)) ?_
        refine hK _ ?_
        show runJ F k1 k2 R C s ((r + 1) * C) F'
        rw [Nat.succ_mul]; exact hJ
    · unfold wb_X5_run_51
      have r9 : F' 9 = F 9 := hJ.1 9 (by omega) (by omega) (by omega)
      refine if_y (by rw [r9, e3]; exact nI_le (Nat.le_refl _) (by omega)) (h _ hJ)
/-! pour -/
def mid (R C : Nat) : Nat := R / 2 * C + C / 2
theorem mid_lt : ∀ R : Nat, R < 5 → ∀ C : Nat, C < 5 → 2 ≤ R → 2 ≤ C → mid R C < R * C := by decide +kernel
theorem mid_i {R C : Nat} (hR : R < 5) (hC : C < 5) : nI R / 2 * nI C + nI C / 2 = nI (mid R C) := by
  have e1 : nI R / 2 = nI (R / 2) := pk_div (d := 2) (by omega) (by omega) (by omega)
  have e2 : nI C / 2 = nI (C / 2) := pk_div (d := 2) (by omega) (by omega) (by omega)
  rw [e1, e2, pk_mul, nI_add]; rfl
theorem s_pour {k1 k3 R C : Nat} {x2 : Int32} {F : gS} {Q : gS → Prop} (hR : R < 5) (hC : C < 5) (hR2 : 2 ≤ R) (hC2 : 2 ≤ C) (e3 : F 9 3 = nI R) (e4 : F 9 4 = nI C) (a1 : k1 + 1 ≠ 9 ∧ k3 + 1 ≠ 9 ∧ k1 + 1 ≠ 12 ∧ k3 + 1 ≠ 12 ∧ k1 ≠ k3)
    (h : ∀ G, (∀ q, q ≠ 12 → q ≠ k1 + 1 → q ≠ k3 + 1 → G q = F q) → G 12 = pt 16 (fun _ => 0) (F 12) → G (k3 + 1) = upd (pt 16 (fun _ => 0) (F (k3 + 1))) (mid R C) x2 → G (k1 + 1) = upd (F (k1 + 1)) (mid R C) (mx (F (k1 + 1) (mid R C) - 2 * x2)) → Q G) : wp_X5_pour k1 k3 x2 F Q := by
  obtain ⟨a9, b9, a12, b12, ab⟩ := a1
  have hm := mid_lt R hR C hC hR2 hC2
  have h16 := RC16 hR hC
  unfold wp_X5_pour
  refine for2 16 (fun c F' => F' = upR (upR F (k3 + 1) (pt c (fun _ => 0) (F (k3 + 1)))) 12 (pt c (fun _ => 0) (F 12))) (by omega) (fun K c F' hc e1 hK => ?_) (fun K F' e1 => ?_) 0 F (Nat.zero_le _) (by rw [pt_0, pt_0, upR_self, upR_self])
  · have ci : (nI c).toNatClampNeg = c := nI_clamp (by omega)
    unfold wb_X5_pour_3
    refine if_n (nI_ge (b := 16) hc (by omega)) ⟨vp_in_nI (by omega) (by omega), vp_in_nI (by omega) (by omega), ?_⟩
    rw [ci, nb0]
    refine hK _ ?_
    rw [e1, upF_upR2 _ b12, upF_upR, pt_s c _ _ rfl, pt_s c _ _ rfl]
  · unfold wb_X5_pour_3
    refine if_y (nI_le (a := 16) (Nat.le_refl _) (by omega)) ?_
    have r9 : F' 9 = F 9 := by rw [e1, upR_ne _ _ (by omega), upR_ne _ _ (by omega)]
    have r1 : F' (k1 + 1) = F (k1 + 1) := by rw [e1, upR_ne _ _ (by omega), upR_ne _ _ (by omega)]
    have r3 : F' (k3 + 1) = pt 16 (fun _ => 0) (F (k3 + 1)) := by rw [e1, upR_ne _ _ b12, upR_eq]
    have r12 : F' 12 = pt 16 (fun _ => 0) (F 12) := by rw [e1, upR_eq]
    unfold wp_X5_pour_32
    rw [r9, e3, e4, mid_i hR hC]
    refine ⟨vp_in_nI (by omega) (by omega), ?_⟩
    refine s_cool (by omega) ?_
    rw [nI_clamp (by omega)]
    refine h _ (fun q h1 h2 h3 => ?_) ?_ ?_ ?_
    · rw [upF_ne _ _ _ h2, upF_ne _ _ _ h3, e1, upR_ne _ _ h1, upR_ne _ _ h3]
    · rw [upF_ne _ _ _ (by omega), upF_ne _ _ _ (by omega), r12]
    · rw [upF_ne _ _ _ (by omega), upF_eq, r3]
    · rw [upF_eq, upF_ne _ _ _ (by omega), r1]
