/-! what frying gives, as functions of rows: only the cells of the pan count; numbers stay small -/
theorem upd_ag {n k : Nat} {f g : Nat → Int32} {v w : Int32} (h : ∀ c, c < n → f c = g c) (e : v = w) : ∀ c, c < n → upd f k v c = upd g k w c := by
  intro c hc
  subst e
  by_cases q : c = k
  · subst q; rw [pk_us, pk_us]
  · rw [pk_un q, pk_un q, h c hc]
theorem rN_cg {R C : Nat} {s : Int32} {lv lv' : Nat → Int32} {p p' : R2} (hR : R < 5) (hC : C < 5) (hl : ∀ c, c < R * C → lv c = lv' c) (h1 : ∀ c, c < R * C → p.1 c = p'.1 c) (h2 : ∀ c, c < R * C → p.2 c = p'.2 c) : ∀ m, m ≤ R * C → (∀ c, c < R * C → (rN R C s lv m p).1 c = (rN R C s lv' m p').1 c) ∧ (∀ c, c < R * C → (rN R C s lv m p).2 c = (rN R C s lv' m p').2 c)
  | 0, _ => ⟨h1, h2⟩
  | m + 1, hm => by
    obtain ⟨i1, i2⟩ := rN_cg (s := s) hR hC hl h1 h2 m (by omega)
    show (∀ c, c < R * C → (rst R C s lv m (rN R C s lv m p)).1 c = (rst R C s lv' m (rN R C s lv' m p')).1 c) ∧ (∀ c, c < R * C → (rst R C s lv m (rN R C s lv m p)).2 c = (rst R C s lv' m (rN R C s lv' m p')).2 c)
    cases hb : bs R C s m with
    | none => rw [rst_n hb, rst_n hb]; exact ⟨i1, i2⟩
    | some d =>
      have hd := bs_lt hR hC (by omega) hb
      rw [rst_s hb, rst_s hb]
      have hlm := hl m (by omega)
      have a1 : ∀ c, c < R * C → upd (rN R C s lv m p).1 m ((rN R C s lv m p).1 m - lv m) c = upd (rN R C s lv' m p').1 m ((rN R C s lv' m p').1 m - lv' m) c := upd_ag i1 (by rw [i1 m (by omega), hlm])
      exact ⟨upd_ag a1 (by rw [a1 d hd, hlm]), upd_ag i2 (by rw [i2 d hd, hlm])⟩
theorem rN_out {R C : Nat} {s : Int32} {lv : Nat → Int32} {p : R2} (hR : R < 5) (hC : C < 5) : ∀ m, m ≤ R * C → ∀ c, R * C ≤ c → (rN R C s lv m p).1 c = p.1 c
  | 0, _, _, _ => rfl
  | m + 1, hm, c, hc => by
    have ih := rN_out (s := s) (lv := lv) (p := p) hR hC m (by omega) c hc
    show (rst R C s lv m (rN R C s lv m p)).1 c = p.1 c
    cases hb : bs R C s m with
    | none => rw [rst_n hb]; exact ih
    | some d =>
      have hd := bs_lt hR hC (by omega) hb
      rw [rst_s hb]
      show upd (upd (rN R C s lv m p).1 m _) d _ c = p.1 c
      rw [pk_un (by omega), pk_un (by omega)]; exact ih
def StA (n : Nat) (z z' : St) : Prop := ∀ c, c < n → z.1 c = z'.1 c ∧ z.2.1 c = z'.2.1 c ∧ z.2.2.1 c = z'.2.2.1 c ∧ z.2.2.2 c = z'.2.2.2 c
theorem sw1_cg {R C : Nat} {ring ring' : Nat → Int32} {fire s : Int32} {z z' : St} (hR : R < 5) (hC : C < 5) (hr : ∀ c, c < R * C → ring c = ring' c) (h : StA (R * C) z z') : StA (R * C) (sw1 R C ring fire s z) (sw1 R C ring' fire s z') := by
  have hw : ∀ c, c < R * C → sw_w R C ring fire z c = sw_w R C ring' fire z' c := by
    intro c hc
    unfold sw_w
    rw [pt_lt _ _ hc, pt_lt _ _ hc, hr c hc, (h c hc).1]
  have hf : ∀ c, c < R * C → sw_f R C ring fire z c = sw_f R C ring' fire z' c := by
    intro c hc
    unfold sw_f
    rw [pt_lt _ _ hc, pt_lt _ _ hc, hw c hc, (h c hc).2.1, (h c hc).2.2.1]
  have hl : ∀ c, c < R * C → sw_l R C ring fire z c = sw_l R C ring' fire z' c := by
    intro c hc
    unfold sw_l
    rw [hf c hc, (h c hc).2.1]
  have hp := rN_cg (s := s) (p := (z.2.1, sw_w R C ring fire z)) (p' := (z'.2.1, sw_w R C ring' fire z')) hR hC hl (fun c hc => (h c hc).2.1) hw (R * C) (Nat.le_refl _)
  intro c hc
  refine ⟨hp.2 c hc, hp.1 c hc, hf c hc, ?_⟩
  show z.2.2.2 c + bO (z.2.1 c) (tk (fire * ring c) (z.1 c)) = z'.2.2.2 c + bO (z'.2.1 c) (tk (fire * ring' c) (z'.1 c))
  rw [(h c hc).1, (h c hc).2.1, (h c hc).2.2.2, hr c hc]
theorem swN_cg {R C : Nat} {ring ring' sw sw' : Nat → Int32} {fire : Int32} {z z' : St} (hR : R < 5) (hC : C < 5) (hr : ∀ c, c < R * C → ring c = ring' c) (h : StA (R * C) z z') : ∀ i, (∀ j, j < i → sw j = sw' j) → StA (R * C) (swN R C ring fire sw i z) (swN R C ring' fire sw' i z')
  | 0, _ => h
  | i + 1, hs => by
    show StA (R * C) (sw1 R C ring fire (sw i) (swN R C ring fire sw i z)) (sw1 R C ring' fire (sw' i) (swN R C ring' fire sw' i z'))
    rw [hs i (by omega)]
    exact sw1_cg hR hC hr (swN_cg hR hC hr h i (fun j hj => hs j (by omega)))
theorem swN_out {R C : Nat} {ring sw : Nat → Int32} {fire : Int32} {z : St} (hR : R < 5) (hC : C < 5) {c : Nat} (hc : R * C ≤ c) : ∀ i, (swN R C ring fire sw i z).2.1 c = z.2.1 c
  | 0 => rfl
  | i + 1 => by
    show (rN R C (sw i) (sw_l R C ring fire (swN R C ring fire sw i z)) (R * C) ((swN R C ring fire sw i z).2.1, _)).1 c = _
    rw [rN_out hR hC (R * C) (Nat.le_refl _) c hc]
    exact swN_out hR hC hc i
theorem nI_back {B : Nat} {x : Int32} (h : sm B x) (hB : B < 2 ^ 31) : x = nI x.toNatClampNeg ∧ x.toNatClampNeg ≤ B := by
  obtain ⟨a, ha, rfl⟩ := h
  rw [nI_clamp (by omega)]
  exact ⟨rfl, ha⟩
theorem mx_n {a l : Nat} (ha : a < 2 ^ 29) (hl : l < 2 ^ 29) : mx (nI a - 2 * nI l) = nI (a - 2 * l) := by
  have e : 2 * nI l = nI (2 * l) := pk_mul 2 l
  rw [e]
  unfold mx
  by_cases q : 2 * l < a
  · rw [pk_sub (by omega), if_pos]
    exact nI_lt (a := 0) (by omega) (by omega)
  · rw [if_neg, Nat.sub_eq_zero_of_le (by omega)]
    · rfl
    · intro z
      rw [Int32.lt_iff_toInt_lt, pk_sub_toInt (by omega) (by omega)] at z
      have : (0 : Int32).toInt = 0 := by decide
      omega
theorem rN_bd {R C B : Nat} {s : Int32} {lv : Nat → Int32} {p : R2} (hR : R < 5) (hC : C < 5) (hB : B < 2 ^ 26) (a l : Nat → Nat) (ha : ∀ c, c < R * C → p.1 c = nI (a c) ∧ a c ≤ B) (hl : ∀ c, c < R * C → lv c = nI (l c) ∧ 2 * l c ≤ a c) (hw : ∀ c, c < R * C → sm 819 (p.2 c)) :
    ∀ m, m ≤ R * C → (∀ j, j < R * C → ∃ t : Nat, (rN R C s lv m p).1 j = nI t ∧ (if j < m then a j - l j else a j) ≤ t ∧ t ≤ a j + m * (B / 2)) ∧ (∀ j, j < R * C → sm 819 ((rN R C s lv m p).2 j))
  | 0, _ => ⟨fun j hj => ⟨a j, (ha j hj).1, by rw [if_neg (by omega)]; omega, by omega⟩, hw⟩
  | m + 1, hm => by
    obtain ⟨i1, i2⟩ := rN_bd (s := s) hR hC hB a l ha hl hw m (by omega)
    have h16 := RC16 hR hC
    have hmB : m * (B / 2) ≤ 16 * (B / 2) := Nat.mul_le_mul_right _ (by omega)
    have hs : (m + 1) * (B / 2) = m * (B / 2) + B / 2 := Nat.succ_mul _ _
    show (∀ j, j < R * C → ∃ t : Nat, (rst R C s lv m (rN R C s lv m p)).1 j = nI t ∧ (if j < m + 1 then a j - l j else a j) ≤ t ∧ t ≤ a j + (m + 1) * (B / 2)) ∧ (∀ j, j < R * C → sm 819 ((rst R C s lv m (rN R C s lv m p)).2 j))
    rw [hs]
    have lowS : ∀ j t, (if j < m then a j - l j else a j) ≤ t → (if j < m + 1 then a j - l j else a j) ≤ t := by
      intro j t q
      by_cases z : j < m
      · rw [if_pos z] at q; rw [if_pos (by omega)]; exact q
      · rw [if_neg z] at q
        by_cases z2 : j < m + 1
        · rw [if_pos z2]; omega
        · rw [if_neg z2]; exact q
    cases hb : bs R C s m with
    | none =>
      rw [rst_n hb]
      refine ⟨fun j hj => ?_, i2⟩
      obtain ⟨t, t1, t2, t3⟩ := i1 j hj
      exact ⟨t, t1, lowS j t t2, by omega⟩
    | some d =>
      have hd := bs_lt hR hC (by omega) hb
      rw [rst_s hb]
      obtain ⟨lm1, lm2⟩ := hl m (by omega)
      obtain ⟨am1, am2⟩ := ha m (by omega)
      obtain ⟨tm, tm1, tm2, tm3⟩ := i1 m (by omega)
      rw [if_neg (by omega)] at tm2
      have f1 : ∀ j, j < R * C → ∃ t : Nat, upd (rN R C s lv m p).1 m ((rN R C s lv m p).1 m - lv m) j = nI t ∧ (if j < m + 1 then a j - l j else a j) ≤ t ∧ t ≤ a j + m * (B / 2) := by
        intro j hj
        by_cases q : j = m
        · subst q
          rw [pk_us, tm1, lm1, pk_sub (by omega)]
          exact ⟨_, rfl, by rw [if_pos (by omega)]; omega, by omega⟩
        · rw [pk_un q]
          obtain ⟨t, t1, t2, t3⟩ := i1 j hj
          exact ⟨t, t1, lowS j t t2, t3⟩
      refine ⟨fun j hj => ?_, fun j hj => ?_⟩
      · show ∃ t : Nat, upd (upd (rN R C s lv m p).1 m ((rN R C s lv m p).1 m - lv m)) d (upd (rN R C s lv m p).1 m ((rN R C s lv m p).1 m - lv m) d + lv m) j = nI t ∧ _
        by_cases q : j = d
        · subst q
          obtain ⟨t, t1, t2, t3⟩ := f1 j hj
          rw [pk_us, t1, lm1, nI_add]
          exact ⟨_, rfl, by omega, by omega⟩
        · rw [pk_un q]
          obtain ⟨t, t1, t2, t3⟩ := f1 j hj
          exact ⟨t, t1, t2, by omega⟩
      · show sm 819 (upd (rN R C s lv m p).2 d _ j)
        by_cases q : j = d
        · subst q
          obtain ⟨w, w1, w2⟩ := i2 j hj
          rw [pk_us, w2, lm1, mx_n (by omega) (by omega)]
          exact ⟨_, by omega, rfl⟩
        · rw [pk_un q]; exact i2 j hj
def okS (n B : Nat) (z : St) : Prop := ∀ c, c < n → sm 819 (z.1 c) ∧ sm B (z.2.1 c) ∧ (z.2.2.1 c = 0 ∨ z.2.2.1 c = 1) ∧ (z.2.1 c = 0 → z.2.2.2 c = 0)
theorem sw1_ok {R C B : Nat} {ring : Nat → Int32} {fire s : Int32} {z : St} (hR : R < 5) (hC : C < 5) (hB : B < 2 ^ 26) (hr : ∀ c, c < R * C → sm 9 (ring c)) (hf : sm 9 fire) (h : okS (R * C) B z) :
    okS (R * C) (9 * B) (sw1 R C ring fire s z) ∧ ∀ c, c < R * C → ¬ z.2.1 c = 0 → ¬ (sw1 R C ring fire s z).2.1 c = 0 := by
  have h16 := RC16 hR hC
  have hw : ∀ c, c < R * C → sm 819 (sw_w R C ring fire z c) := by
    intro c hc
    unfold sw_w
    rw [pt_lt _ _ hc]
    exact tk_sm (mul_sm hf (hr c hc)) (h c hc).1
  have hfa : ∀ c, c < R * C → sw_f R C ring fire z c = 0 ∨ sw_f R C ring fire z c = 1 := by
    intro c hc
    unfold sw_f
    rw [pt_lt _ _ hc]
    unfold fs
    split
    · exact (h c hc).2.2.1
    · split
      · exact (h c hc).2.2.1
      · exact Or.inr rfl
  have hbd := rN_bd (s := s) (B := B) (lv := sw_l R C ring fire z) (p := (z.2.1, sw_w R C ring fire z)) hR hC hB (fun c => (z.2.1 c).toNatClampNeg) (fun c => if sw_f R C ring fire z c = 0 then (z.2.1 c).toNatClampNeg / 2 else 0)
    (fun c hc => nI_back (h c hc).2.1 (by omega)) (fun c hc => by
      obtain ⟨e1, e2⟩ := nI_back (h c hc).2.1 (by omega)
      show sw_l R C ring fire z c = nI (if sw_f R C ring fire z c = 0 then (z.2.1 c).toNatClampNeg / 2 else 0) ∧ 2 * (if sw_f R C ring fire z c = 0 then (z.2.1 c).toNatClampNeg / 2 else 0) ≤ (z.2.1 c).toNatClampNeg
      unfold sw_l
      by_cases q : sw_f R C ring fire z c = 0
      · rw [if_pos q, if_pos q]
        have e3 : nI (z.2.1 c).toNatClampNeg / 2 = nI ((z.2.1 c).toNatClampNeg / 2) := pk_div (d := 2) (by omega) (by omega) (by omega)
        rw [← e1] at e3
        exact ⟨e3, by omega⟩
      · rw [if_neg q, if_neg q]; exact ⟨rfl, by omega⟩) hw (R * C) (Nat.le_refl _)
  have hpos : ∀ c, c < R * C → ¬ z.2.1 c = 0 → ¬ (sw1 R C ring fire s z).2.1 c = 0 := by
    intro c hc hz e
    obtain ⟨t, t1, t2, t3⟩ := hbd.1 c hc
    obtain ⟨e1, e2⟩ := nI_back (h c hc).2.1 (by omega)
    have ne : (z.2.1 c).toNatClampNeg ≠ 0 := fun q => hz (by rw [e1, q]; rfl)
    have hm : R * C * (B / 2) ≤ 16 * (B / 2) := Nat.mul_le_mul_right _ h16
    have e0 : nI t = 0 := by rw [← t1]; exact e
    rw [if_pos hc] at t2
    have t0 : t = 0 := (nI_eq (b := 0) (by omega) (by omega)).mp e0
    have : (if sw_f R C ring fire z c = 0 then (z.2.1 c).toNatClampNeg / 2 else 0) ≤ (z.2.1 c).toNatClampNeg / 2 := by split <;> omega
    omega
  refine ⟨fun c hc => ⟨hbd.2 c hc, ?_, hfa c hc, fun e => ?_⟩, hpos⟩
  · obtain ⟨t, t1, t2, t3⟩ := hbd.1 c hc
    obtain ⟨e1, e2⟩ := nI_back (h c hc).2.1 (by omega)
    have hm : R * C * (B / 2) ≤ 16 * (B / 2) := Nat.mul_le_mul_right _ h16
    exact ⟨t, by omega, t1⟩
  · by_cases hz : z.2.1 c = 0
    · show z.2.2.2 c + bO (z.2.1 c) (tk (fire * ring c) (z.1 c)) = 0
      rw [(h c hc).2.2.2 hz, hz, bO_0]; rfl
    · exact absurd e (hpos c hc hz)
theorem swN_ok {R C : Nat} {ring sw : Nat → Int32} {fire : Int32} {z : St} (hR : R < 5) (hC : C < 5) (hr : ∀ c, c < R * C → sm 9 (ring c)) (hf : sm 9 fire) (h : okS (R * C) 60 z) :
    ∀ i, i ≤ 6 → okS (R * C) (60 * 9 ^ i) (swN R C ring fire sw i z) ∧ ∀ c, c < R * C → ¬ z.2.1 c = 0 → ¬ (swN R C ring fire sw i z).2.1 c = 0
  | 0, _ => ⟨h, fun _ _ q => q⟩
  | i + 1, hi => by
    obtain ⟨i1, i2⟩ := swN_ok (sw := sw) hR hC hr hf h i (by omega)
    have hp : 9 ^ i ≤ 9 ^ 5 := Nat.pow_le_pow_right (by omega) (by omega)
    have e5 : (9 : Nat) ^ 5 = 59049 := by decide
    have hB : 60 * 9 ^ i < 2 ^ 26 := by omega
    obtain ⟨j1, j2⟩ := sw1_ok (s := sw i) hR hC hB hr hf i1
    have e : 60 * 9 ^ (i + 1) = 9 * (60 * 9 ^ i) := by rw [Nat.pow_succ]; omega
    rw [e]
    exact ⟨j1, fun c hc q => j2 c hc (i2 c hc q)⟩
