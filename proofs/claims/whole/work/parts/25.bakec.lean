/-! a cake: what comes of a pan, a plan and a condition -/
abbrev Pn : Type := Nat × Nat × (Nat → Int32) × (Nat → Int32)
abbrev Pl : Type := Int32 × Int32 × Nat × Nat × Nat × (Nat → Int32)
abbrev Cd : Type := (Nat → Int32) × (Nat → Int32) × Int32
def nn (P : Pn) : Nat := P.1 * P.2.1
def z0C (R C : Nat) (amount : Int32) (w : Nat → Int32) : St := (upd w (mid R C) (mx (w (mid R C) - 2 * amount)), upd (fun _ => 0) (mid R C) amount, fun _ => 0, fun _ => 0)
def bkZ (P : Pn) (L : Pl) (c : Cd) (i : Nat) : St := swN P.1 P.2.1 P.2.2.1 L.1 L.2.2.2.2.2 i (z0C P.1 P.2.1 L.2.1 c.1)
def bkz (P : Pn) (L : Pl) (c : Cd) : St := bkZ P L c L.2.2.2.2.1
def bkT (P : Pn) (L : Pl) (c : Cd) : Nat → Int32 := (bkz P L c).2.1
def bkV (P : Pn) (L : Pl) (c : Cd) : Nat → Int32 := fun j => wN L.2.2.1 (L.1 * P.2.2.1 j) ((bkz P L c).1 j)
def bkW (P : Pn) (L : Pl) (c : Cd) : Nat → Int32 := fun j => wN L.2.2.2.1 (L.1 * P.2.2.1 j) (bkV P L c j)
def bk1 (P : Pn) (L : Pl) (c : Cd) : Nat → Int32 := fun j => (bkz P L c).2.2.2 j + bN L.2.2.1 (L.1 * P.2.2.1 j) (bkT P L c j) ((bkz P L c).1 j)
def bk2 (P : Pn) (L : Pl) (c : Cd) : Nat → Int32 := fun j => bN L.2.2.2.1 (L.1 * P.2.2.1 j) (bkT P L c j) (bkV P L c j)
def bkS (P : Pn) (L : Pl) (c : Cd) : Nat → Int32 := fun j => sk (bkT P L c j) (P.2.2.2 j) (c.2.1 j) c.2.2
def bkB (P : Pn) (L : Pl) (c : Cd) : Nat → Int32 := fun j => nb (bkT P L c j) (P.2.2.2 j) (c.2.1 j) c.2.2
def bk (P : Pn) (L : Pl) (c : Cd) : Cd := (bkW P L c, bkB P L c, mx (c.2.2 - 1))
def bkD (P : Pn) (L : Pl) (c : Cd) : Nat → Int32 := told (coN (bkT P L c) (nn P)) (edN (bkT P L c) (nn P)) (sN (bk1 P L c) (nn P)) (sN (bk2 P L c) (nn P)) (sN (bkS P L c) (nn P))
def okP (P : Pn) : Prop := P.1 < 5 ∧ P.2.1 < 5 ∧ 2 ≤ P.1 ∧ 2 ≤ P.2.1 ∧ ∀ j, j < nn P → sm 9 (P.2.2.1 j)
def okL (L : Pl) : Prop := sm 9 L.1 ∧ (∃ a : Nat, 1 ≤ a ∧ a ≤ 60 ∧ L.2.1 = nI a) ∧ L.2.2.1 ≤ 60 ∧ L.2.2.2.1 ≤ 60 ∧ L.2.2.2.2.1 ≤ 6
def okC (P : Pn) (c : Cd) : Prop := (∀ j, j < nn P → sm 819 (c.1 j) ∧ sm 9 (c.2.1 j)) ∧ sm 9 c.2.2
theorem z0C_ok {R C : Nat} {amount : Int32} {w : Nat → Int32} (hw : ∀ j, j < R * C → sm 819 (w j)) (ha : ∃ a : Nat, 1 ≤ a ∧ a ≤ 60 ∧ amount = nI a) : okS (R * C) 60 (z0C R C amount w) := by
  obtain ⟨a, a1, a2, rfl⟩ := ha
  intro c hc
  refine ⟨?_, ?_, Or.inl rfl, fun _ => rfl⟩
  · show sm 819 (upd w (mid R C) _ c)
    by_cases q : c = mid R C
    · subst q
      obtain ⟨x, x1, x2⟩ := hw _ hc
      rw [pk_us, x2, mx_n (by omega) (by omega)]
      exact ⟨_, by omega, rfl⟩
    · rw [pk_un q]; exact hw c hc
  · show sm 60 (upd (fun _ => 0) (mid R C) (nI a) c)
    by_cases q : c = mid R C
    · subst q; rw [pk_us]; exact ⟨a, a2, rfl⟩
    · rw [pk_un q]; exact ⟨0, by omega, rfl⟩
theorem bkZ_ok {P : Pn} {L : Pl} {c : Cd} (hP : okP P) (hL : okL L) (hc : okC P c) (i : Nat) (hi : i ≤ 6) : okS (nn P) (60 * 9 ^ i) (bkZ P L c i) ∧ ¬ (bkZ P L c i).2.1 (mid P.1 P.2.1) = 0 := by
  obtain ⟨hR, hC, hR2, hC2, hr⟩ := hP
  have h0 : okS (nn P) 60 (z0C P.1 P.2.1 L.2.1 c.1) := z0C_ok (fun j hj => (hc.1 j hj).1) hL.2.1
  have := swN_ok (sw := L.2.2.2.2.2) hR hC hr hL.1 h0 i hi
  refine ⟨this.1, this.2 _ (mid_lt _ hR _ hC hR2 hC2) ?_⟩
  obtain ⟨a, a1, a2, a3⟩ := hL.2.1
  show ¬ upd (fun _ => 0) (mid P.1 P.2.1) L.2.1 (mid P.1 P.2.1) = 0
  rw [pk_us, a3]
  exact nI_ne0 (by omega) (by omega)
theorem p96 {i : Nat} (h : i ≤ 6) : 60 * 9 ^ i ≤ 31886460 := by
  have hp : 9 ^ i ≤ 9 ^ 6 := Nat.pow_le_pow_right (by omega) h
  have e5 : (9 : Nat) ^ 6 = 531441 := by decide
  omega
theorem nb_sm {t s b f : Int32} (h : sm 9 b) : sm 9 (nb t s b f) := by
  unfold nb
  split
  · exact h
  · split
    · exact h
    · split
      · exact h
      · obtain ⟨a, ha, rfl⟩ := h
        have e : nI a + 1 = nI (a + 1) := nI_1 a
        rw [e]
        split
        · rename_i q
          have : a + 1 < 9 := (nI_ltI (b := 9) (by omega) (by omega)).mp q
          exact ⟨_, by omega, rfl⟩
        · exact ⟨9, by omega, rfl⟩
theorem mx1 {f : Int32} (h : sm 9 f) : sm 9 (mx (f - 1)) := by
  obtain ⟨a, ha, rfl⟩ := h
  rcases Nat.eq_zero_or_pos a with q | q
  · subst q; exact ⟨0, by omega, by decide⟩
  · obtain ⟨m, rfl⟩ : ∃ m, a = m + 1 := ⟨a - 1, by omega⟩
    rw [nI_pred]
    unfold mx
    split
    · exact ⟨m, by omega, rfl⟩
    · exact ⟨0, by omega, rfl⟩
theorem bk_ok {P : Pn} {L : Pl} {c : Cd} (hP : okP P) (hL : okL L) (hc : okC P c) : okC P (bk P L c) := by
  have hz := (bkZ_ok hP hL hc L.2.2.2.2.1 hL.2.2.2.2).1
  refine ⟨fun j hj => ⟨?_, nb_sm (hc.1 j hj).2⟩, mx1 hc.2⟩
  have hh := mul_sm hL.1 (hP.2.2.2.2 j hj)
  exact wN_sm hh _ _ (wN_sm hh _ _ (hz j hj).1)
/-! what the two sides hold of it -/
def AgP (F : gS) (P : Pn) : Prop := F 9 2 = nI (nn P) ∧ F 9 3 = nI P.1 ∧ F 9 4 = nI P.2.1 ∧ (∀ j, j < nn P → F 10 j = P.2.2.1 j) ∧ (∀ j, j < nn P → F 11 j = P.2.2.2 j)
def AgL (F : gS) (k : Nat) (L : Pl) : Prop := F k 1 = L.1 ∧ F k 2 = L.2.1 ∧ F k 3 = nI L.2.2.1 ∧ F k 4 = nI L.2.2.2.1 ∧ F k 5 = nI L.2.2.2.2.1 ∧ ∀ i, i < L.2.2.2.2.1 → F (k + 1) i = L.2.2.2.2.2 i
def AgC (F : gS) (k : Nat) (P : Pn) (c : Cd) : Prop := (∀ j, j < nn P → F (k + 1) j = c.1 j) ∧ (∀ j, j < nn P → F (k + 2) j = c.2.1 j) ∧ F k 2 = c.2.2
theorem coN_cg {f g : Nat → Int32} : ∀ n, (∀ c, c < n → f c = g c) → coN f n = coN g n
  | 0, _ => rfl
  | n + 1, h => by
    show (if f n ≤ 0 then coN f n else coN f n + 1) = (if g n ≤ 0 then coN g n else coN g n + 1)
    rw [coN_cg n (fun c q => h c (by omega)), h n (by omega)]
theorem hiN_cg {f g : Nat → Int32} : ∀ n, (∀ c, c < n → f c = g c) → hiN f n = hiN g n
  | 0, _ => rfl
  | n + 1, h => by
    show (if f n ≤ 0 then hiN f n else if hiN f n < f n then f n else hiN f n) = (if g n ≤ 0 then hiN g n else if hiN g n < g n then g n else hiN g n)
    rw [hiN_cg n (fun c q => h c (by omega)), h n (by omega)]
theorem loN_cg {f g : Nat → Int32} {i : Int32} : ∀ n, (∀ c, c < n → f c = g c) → loN i f n = loN i g n
  | 0, _ => rfl
  | n + 1, h => by
    show (if f n ≤ 0 then loN i f n else if f n < loN i f n then f n else loN i f n) = (if g n ≤ 0 then loN i g n else if g n < loN i g n then g n else loN i g n)
    rw [loN_cg n (fun c q => h c (by omega)), h n (by omega)]
theorem edN_cg {f g : Nat → Int32} {n : Nat} (h : ∀ c, c < n → f c = g c) : edN f n = edN g n := by
  unfold edN; rw [coN_cg n h, hiN_cg n h, loN_cg n h]
theorem co_up {f : Nat → Int32} {n : Nat} (k : Nat) (h : ∀ c, n ≤ c → c < n + k → f c = 0) : coN f (n + k) = coN f n ∧ hiN f (n + k) = hiN f n ∧ ∀ i, loN i f (n + k) = loN i f n := by
  induction k with
  | zero => exact ⟨rfl, rfl, fun _ => rfl⟩
  | succ k ih =>
    obtain ⟨h1, h2, h3⟩ := ih (fun c q1 q2 => h c q1 (by omega))
    have hz : f (n + k) ≤ 0 := by rw [h (n + k) (by omega) (by omega)]; decide
    refine ⟨?_, ?_, fun i => ?_⟩
    · show (if f (n + k) ≤ 0 then _ else _) = _; rw [if_pos hz]; exact h1
    · show (if f (n + k) ≤ 0 then _ else _) = _; rw [if_pos hz]; exact h2
    · show (if f (n + k) ≤ 0 then _ else _) = _; rw [if_pos hz]; exact h3 i
theorem ed_up {f : Nat → Int32} {n m : Nat} (hm : n ≤ m) (h : ∀ c, n ≤ c → c < m → f c = 0) : coN f m = coN f n ∧ edN f m = edN f n := by
  obtain ⟨k, rfl⟩ : ∃ k, m = n + k := ⟨m - n, by omega⟩
  obtain ⟨h1, h2, h3⟩ := co_up k h
  refine ⟨h1, ?_⟩
  unfold edN; rw [h1, h2, h3]
theorem zX_ag {F : gS} {k1 k3 : Nat} {P : Pn} {am : Int32} {w : Nat → Int32} (hR : P.1 < 5) (hC : P.2.1 < 5) (hR2 : 2 ≤ P.1) (hC2 : 2 ≤ P.2.1) (h : ∀ j, j < nn P → F (k1 + 1) j = w j) : StA (nn P) (zX F k1 k3 P.1 P.2.1 am) (z0C P.1 P.2.1 am w) := by
  have hm := mid_lt _ hR _ hC hR2 hC2
  have h16 := RC16 hR hC
  intro c hc
  refine ⟨?_, ?_, ?_, rfl⟩
  · exact upd_ag h (by rw [h _ hm]) c hc
  · exact upd_ag (n := nn P) (fun j hj => pt_lt _ _ (Nat.lt_of_lt_of_le hj h16)) rfl c hc
  · show pt 16 (fun _ => 0) (F 12) c = 0
    exact pt_lt _ _ (Nat.lt_of_lt_of_le hc h16)
/-- the plan's swings alone: enough for the edge -/
theorem s_spreadC {k1 k2 k3 : Nat} {P : Pn} {L : Pl} {c : Cd} {F : gS} {Q : Int32 → gS → Prop} (hP : okP P) (hL : okL L) (hc : okC P c) (ha : apk k1 k2 k3) (gP : AgP F P) (gL : AgL F k2 L) (gC : AgC F k1 P c)
    (h : ∀ G r, (∀ q, q ≠ 12 → q ≠ 13 → q ≠ k1 + 1 → q ≠ k3 + 1 → G q = F q) → (∀ j, j < nn P → G (k1 + 1) j = (bkz P L c).1 j) → (∀ j, j < nn P → G (k3 + 1) j = bkT P L c j) → (∀ j, nn P ≤ j → j < 16 → G (k3 + 1) j = 0) → r = sN (bkz P L c).2.2.2 (nn P) → Q r G) : wp_X5_spread k1 k2 k3 F Q := by
  obtain ⟨hR, hC, hR2, hC2, hr⟩ := hP
  obtain ⟨p1, p2, p3, p4, p5⟩ := gP
  obtain ⟨l1, l2, l3, l4, l5, l6⟩ := gL
  have h16 := RC16 hR hC
  have hm := mid_lt _ hR _ hC hR2 hC2
  have hcg : ∀ i, i ≤ L.2.2.2.2.1 → StA (nn P) (swN P.1 P.2.1 (F 10) (F k2 1) (F (k2 + 1)) i (zX F k1 k3 P.1 P.2.1 (F k2 2))) (bkZ P L c i) := by
    intro i hi
    unfold bkZ
    rw [l1, l2]
    exact swN_cg hR hC p4 (zX_ag hR hC hR2 hC2 gC.1) i (fun j hj => l6 j (by omega))
  refine s_spread (R := P.1) (C := P.2.1) (ns := L.2.2.2.2.1) ⟨hR, hC, hR2, hC2, p1, p2, p3⟩ ha hL.2.2.2.2 l5 (fun i hi j hj => ?_) (fun G hG => ?_)
  · rw [(hcg i (by omega) j hj).2.1]
    have := ((bkZ_ok ⟨hR, hC, hR2, hC2, hr⟩ hL hc i (by have := hL.2.2.2.2; omega)).1 j hj).2.1
    exact sm_mono this (Nat.le_trans (p96 (by have := hL.2.2.2.2; omega)) (by omega))
  · obtain ⟨g1, g2, g3, g4⟩ := hG
    have hz := hcg _ (Nat.le_refl _)
    refine h G _ g1 (fun j hj => ?_) (fun j hj => ?_) (fun j hj hj2 => ?_) (sN_cg _ (fun j hj => (hz j hj).2.2.2))
    · rw [g2]; exact (hz j hj).1
    · rw [g3]; exact (hz j hj).2.1
    · rw [g3, swN_out hR hC hj]
      show upd (pt 16 (fun _ => 0) (F (k3 + 1))) (mid P.1 P.2.1) (F k2 2) j = 0
      have hj' : P.1 * P.2.1 ≤ j := hj
      rw [pk_un (by omega), pt_lt _ _ hj2]
theorem s_bake {k1 k2 k3 : Nat} {P : Pn} {L : Pl} {c : Cd} {F : gS} {Q : gS → Prop} (hP : okP P) (hL : okL L) (hc : okC P c) (ha : apk k1 k2 k3) (gP : AgP F P) (gL : AgL F k2 L) (gC : AgC F k1 P c)
    (h : ∀ G, (∀ q, q ≠ 12 → q ≠ 13 → q ≠ k1 → q ≠ k1 + 1 → q ≠ k1 + 2 → q ≠ k3 + 1 → q ≠ k3 + 2 → G q = F q) → AgC G k1 P (bk P L c) → (∀ j, j < nn P → G (k3 + 1) j = bkT P L c j) → (∀ j, j < 7 → G (k3 + 2) j = bkD P L c j) → (∀ j, nn P ≤ j → G (k1 + 2) j = F (k1 + 2) j) → Q G) : wp_X5_bake k1 k2 k3 F Q := by
  have hP' := hP
  obtain ⟨hR, hC, hR2, hC2, hr⟩ := hP
  have h16 : nn P ≤ 16 := RC16 hR hC
  have ha' := ha
  obtain ⟨ha1, ha2, ha3⟩ := ha
  have hz := (bkZ_ok hP' hL hc L.2.2.2.2.1 hL.2.2.2.2).1
  have hsm : ∀ j, j < nn P → sm (2 ^ 29) (bkT P L c j) := fun j hj => sm_mono (hz j hj).2.1 (Nat.le_trans (p96 hL.2.2.2.2) (by omega))
  unfold wp_X5_bake
  refine s_spreadC hP' hL hc ha' gP gL gC (fun G r g1 g2 g3 g4 gr => ?_)
  obtain ⟨p1, p2, p3, p4, p5⟩ := gP
  obtain ⟨l1, l2, l3, l4, l5, l6⟩ := gL
  have f9 : G 9 = F 9 := g1 9 (by omega) (by omega) (by omega) (by omega)
  have f10 : G 10 = F 10 := g1 10 (by omega) (by omega) (by omega) (by omega)
  have f11 : G 11 = F 11 := g1 11 (by omega) (by omega) (by omega) (by omega)
  have fk2 : G k2 = F k2 := g1 k2 (by omega) (by omega) (by omega) (by omega)
  have fk1 : G k1 = F k1 := g1 k1 (by omega) (by omega) (by omega) (by omega)
  have fb : G (k1 + 2) = F (k1 + 2) := g1 (k1 + 2) (by omega) (by omega) (by omega) (by omega)
  rw [fk2, l1, l3]
  refine s_lie (n := nn P) (t := L.2.2.1) h16 (by rw [f9, p1]) (by have := hL.2.2.1; omega) (fun j hj => by rw [g3 j hj]; exact lt2_ne (hsm j hj) (by omega)) (by omega) (by omega) (by omega) ?_
  have e1 : sN (fun j => bN L.2.2.1 (L.1 * G 10 j) (G (k3 + 1) j) (G (k1 + 1) j)) (nn P) = sN (fun j => bN L.2.2.1 (L.1 * P.2.2.1 j) (bkT P L c j) ((bkz P L c).1 j)) (nn P) := sN_cg _ (fun j hj => by rw [f10, p4 j hj, g3 j hj, g2 j hj])
  rw [e1, gr]
  generalize hG2 : upR G (k1 + 1) (pt (nn P) (fun j => wN L.2.2.1 (L.1 * G 10 j) (G (k1 + 1) j)) (G (k1 + 1))) = G2
  have q1 : ∀ q, q ≠ k1 + 1 → G2 q = G q := fun q hq => by rw [← hG2]; exact upR_ne _ _ hq
  have q2 : ∀ j, j < nn P → G2 (k1 + 1) j = bkV P L c j := fun j hj => by
    rw [← hG2, upR_eq, pt_lt _ _ hj, f10, p4 j hj, g2 j hj]; rfl
  clear hG2 e1
  have eb : sN (bkz P L c).2.2.2 (nn P) + sN (fun j => bN L.2.2.1 (L.1 * P.2.2.1 j) (bkT P L c j) ((bkz P L c).1 j)) (nn P) = sN (bk1 P L c) (nn P) := (sN_add _ _ _).symm
  rw [eb, q1 k2 (by omega), fk2, l1, l4]
  refine s_lie (n := nn P) (t := L.2.2.2.1) h16 (by rw [q1 9 (by omega), f9, p1]) (by have := hL.2.2.2.1; omega) (fun j hj => by rw [q1 (k3 + 1) (by omega), g3 j hj]; exact lt2_ne (hsm j hj) (by omega)) (by omega) (by omega) (by omega) ?_
  have e2 : sN (fun j => bN L.2.2.2.1 (L.1 * G2 10 j) (G2 (k3 + 1) j) (G2 (k1 + 1) j)) (nn P) = sN (bk2 P L c) (nn P) := sN_cg _ (fun j hj => by rw [q1 10 (by omega), q1 (k3 + 1) (by omega), f10, p4 j hj, g3 j hj, q2 j hj]; rfl)
  rw [e2]
  generalize hG3 : upR G2 (k1 + 1) (pt (nn P) (fun j => wN L.2.2.2.1 (L.1 * G2 10 j) (G2 (k1 + 1) j)) (G2 (k1 + 1))) = G3
  have r1 : ∀ q, q ≠ k1 + 1 → G3 q = G q := fun q hq => by rw [← hG3, upR_ne _ _ hq]; exact q1 q hq
  have r2 : ∀ j, j < nn P → G3 (k1 + 1) j = bkW P L c j := fun j hj => by
    rw [← hG3, upR_eq, pt_lt _ _ hj, q1 10 (by omega), f10, p4 j hj, q2 j hj]; rfl
  clear hG3 e2 q1 q2 G2
  refine s_takeOut (n := nn P) h16 (by rw [r1 9 (by omega), f9, p1]) ⟨by omega, by omega, by omega⟩ ?_
  have e3 : sN (fun j => sk (G3 (k3 + 1) j) (G3 11 j) (G3 (k1 + 2) j) (G3 k1 2)) (nn P) = sN (bkS P L c) (nn P) := sN_cg _ (fun j hj => by rw [r1 (k3 + 1) (by omega), r1 11 (by omega), r1 (k1 + 2) (by omega), r1 k1 (by omega), f11, fb, fk1, g3 j hj, p5 j hj, gC.2.1 j hj, gC.2.2]; rfl)
  rw [e3]
  generalize hG4 : upF (upR G3 (k1 + 2) (pt (nn P) (fun j => nb (G3 (k3 + 1) j) (G3 11 j) (G3 (k1 + 2) j) (G3 k1 2)) (G3 (k1 + 2)))) k1 2 (mx (G3 k1 2 - 1)) = G4
  have s1 : ∀ q, q ≠ k1 → q ≠ k1 + 2 → G4 q = G3 q := fun q h1 h2 => by rw [← hG4, upF_ne _ _ _ h1, upR_ne _ _ h2]
  have s2 : ∀ j, j < nn P → G4 (k1 + 2) j = bkB P L c j := fun j hj => by
    rw [← hG4, upF_ne _ _ _ (by omega), upR_eq, pt_lt _ _ hj, r1 (k3 + 1) (by omega), r1 11 (by omega), r1 (k1 + 2) (by omega), r1 k1 (by omega), f11, fb, fk1, g3 j hj, p5 j hj, gC.2.1 j hj, gC.2.2]; rfl
  have s3 : G4 k1 2 = mx (c.2.2 - 1) := by rw [← hG4, upF_eq, pk_us, r1 k1 (by omega), fk1, gC.2.2]
  have s4 : ∀ j, nn P ≤ j → G4 (k1 + 2) j = F (k1 + 2) j := fun j hj => by
    rw [← hG4, upF_ne _ _ _ (by omega), upR_eq, pt_ge _ _ hj, r1 (k1 + 2) (by omega), fb]
  clear hG4 e3
  have t3 : ∀ j, j < nn P → G4 (k3 + 1) j = bkT P L c j := fun j hj => by rw [s1 _ (by omega) (by omega), r1 _ (by omega), g3 j hj]
  have t4 : ∀ j, nn P ≤ j → j < 16 → G4 (k3 + 1) j = 0 := fun j hj hj2 => by rw [s1 _ (by omega) (by omega), r1 _ (by omega), g4 j hj hj2]
  obtain ⟨u1, u2⟩ := ed_up h16 t4
  refine s_judge (fun H v1 v2 => ?_)
  rw [u1, u2, coN_cg _ t3, edN_cg t3] at v2
  refine h H (fun q z1 z2 z3 z4 z5 z6 z7 => ?_) ⟨fun j hj => ?_, fun j hj => ?_, ?_⟩ (fun j hj => ?_) v2 (fun j hj => ?_)
  · rw [v1 q z7, s1 q z3 z5, r1 q z4, g1 q z1 z2 z4 z6]
  · rw [v1 _ (by omega), s1 _ (by omega) (by omega), r2 j hj]; rfl
  · rw [v1 _ (by omega), s2 j hj]; rfl
  · rw [v1 _ (by omega), s3]; rfl
  · rw [v1 _ (by omega), t3 j hj]
  · rw [v1 _ (by omega), s4 j hj]
