/-! what is poured stays as much: no cell is ever thicker than sixty -/
theorem sN_upd (f : Nat → Int32) {k : Nat} (v : Int32) : ∀ n, k < n → sN (upd f k v) n = sN f n - f k + v
  | 0, h => absurd h (Nat.not_lt_zero k)
  | n + 1, h => by
    show sN (upd f k v) n + upd f k v n = sN f n + f n - f k + v
    by_cases q : k = n
    · subst q
      rw [pk_us, sN_cg (f := upd f k v) (g := f) k (fun c hc => pk_un (by omega))]
      generalize sN f k = x
      generalize f k = y
      grind
    · rw [sN_upd f v n (by omega), pk_un (show n ≠ k by omega)]
      generalize sN f n = x
      generalize f k = y
      generalize f n = w
      grind
theorem rN_sum {R C : Nat} {s : Int32} {lv : Nat → Int32} {p : R2} (hR : R < 5) (hC : C < 5) : ∀ m, m ≤ R * C → sN (rN R C s lv m p).1 (R * C) = sN p.1 (R * C)
  | 0, _ => rfl
  | m + 1, hm => by
    have ih := rN_sum (s := s) (lv := lv) (p := p) hR hC m (by omega)
    show sN (rst R C s lv m (rN R C s lv m p)).1 (R * C) = _
    cases hb : bs R C s m with
    | none => rw [rst_n hb]; exact ih
    | some d =>
      have hd := bs_lt hR hC (by omega) hb
      rw [rst_s hb]
      show sN (upd (upd (rN R C s lv m p).1 m ((rN R C s lv m p).1 m - lv m)) d (upd (rN R C s lv m p).1 m ((rN R C s lv m p).1 m - lv m) d + lv m)) (R * C) = _
      rw [sN_upd _ _ _ hd, sN_upd _ _ _ (show m < R * C by omega), ih]
      generalize upd (rN R C s lv m p).1 m ((rN R C s lv m p).1 m - lv m) d = x
      generalize (rN R C s lv m p).1 m = y
      generalize lv m = w
      generalize sN p.1 (R * C) = t
      grind
theorem swN_sum {R C : Nat} {ring sw : Nat → Int32} {fire : Int32} {z : St} (hR : R < 5) (hC : C < 5) : ∀ i, sN (swN R C ring fire sw i z).2.1 (R * C) = sN z.2.1 (R * C)
  | 0 => rfl
  | i + 1 => by
    show sN (rN R C (sw i) (sw_l R C ring fire (swN R C ring fire sw i z)) (R * C) ((swN R C ring fire sw i z).2.1, sw_w R C ring fire (swN R C ring fire sw i z))).1 (R * C) = _
    rw [rN_sum hR hC (R * C) (Nat.le_refl _)]
    exact swN_sum hR hC i
theorem sN_nat {f : Nat → Int32} {B : Nat} : ∀ n, (∀ j, j < n → sm B (f j)) → ∃ S : Nat, sN f n = nI S ∧ S ≤ n * B ∧ ∀ j, j < n → sm S (f j)
  | 0, _ => ⟨0, rfl, Nat.zero_le _, fun j hj => absurd hj (Nat.not_lt_zero j)⟩
  | n + 1, h => by
    obtain ⟨S, e, hS, hj⟩ := sN_nat n (fun j hj => h j (by omega))
    obtain ⟨a, ha, ea⟩ := h n (by omega)
    have hs : (n + 1) * B = n * B + B := Nat.succ_mul _ _
    refine ⟨S + a, ?_, by omega, fun j q => ?_⟩
    · show sN f n + f n = _
      rw [e, ea, nI_add]
    · by_cases z : j = n
      · rw [z]; exact ⟨a, by omega, ea⟩
      · exact sm_mono (hj j (by omega)) (by omega)
theorem bkT_60 {P : Pn} {L : Pl} {c : Cd} (hP : okP P) (hL : okL L) (hc : okC P c) : ∀ j, j < nn P → sm 60 (bkT P L c j) := by
  have h16 : nn P ≤ 16 := RC16 hP.1 hP.2.1
  have hz := (bkZ_ok hP hL hc L.2.2.2.2.1 hL.2.2.2.2).1
  have hs : ∀ j, j < nn P → sm 31886460 (bkT P L c j) := fun j hj => sm_mono (hz j hj).2.1 (p96 hL.2.2.2.2)
  obtain ⟨S, e, hS, hj⟩ := sN_nat (nn P) hs
  obtain ⟨a, a1, a2, a3⟩ := hL.2.1
  have hm : mid P.1 P.2.1 < P.1 * P.2.1 := mid_lt _ hP.1 _ hP.2.1 hP.2.2.1 hP.2.2.2.1
  have e2 : sN (bkT P L c) (nn P) = nI a := by
    show sN (swN P.1 P.2.1 P.2.2.1 L.1 L.2.2.2.2.2 L.2.2.2.2.1 (z0C P.1 P.2.1 L.2.1 c.1)).2.1 (P.1 * P.2.1) = nI a
    rw [swN_sum hP.1 hP.2.1]
    show sN (upd (fun _ => 0) (mid P.1 P.2.1) L.2.1) (P.1 * P.2.1) = nI a
    rw [sN_upd _ _ _ hm, sN_0, a3]
    generalize nI a = x
    grind
  have hS2 : nn P * 31886460 ≤ 16 * 31886460 := Nat.mul_le_mul_right _ h16
  have eS : S = a := (nI_eq (by omega) (by omega)).mp (by rw [← e, e2])
  exact fun j q => sm_mono (hj j q) (by omega)
