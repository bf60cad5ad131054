/-! the digest -/
def mxN (f : Nat → Int64) : Nat → Int64 → Int64
  | 0, h => h
  | n + 1, h => (31 : Int64) * mxN f n h + f n
def oN (g : Nat → Int64 → Int64) : Nat → Int64 → Int64
  | 0, h => h
  | n + 1, h => g n (oN g n h)
def cvO (a b d e : Int32) : Nat → Int32
  | 0 => a
  | 1 => if b = 0 then 0 else 1
  | 2 => d
  | _ => e
def tvL (L : Pl) : Nat → Int32
  | 0 => L.1
  | 1 => L.2.1
  | 2 => nI L.2.2.1
  | 3 => nI L.2.2.2.1
  | _ => nI L.2.2.2.2.1
def dCell (P : Pn) (c : Cd) (j : Nat) (h : Int64) : Int64 := mxN (fun w => (cvO (P.2.2.1 j) (P.2.2.2 j) (c.1 j) (c.2.1 j) w).toInt64) 4 h
def dPlan (Ls : Nat → Pl) (p : Nat) (h : Int64) : Int64 := mxN (fun i => ((Ls p).2.2.2.2.2 i).toInt64) (Ls p).2.2.2.2.1 (mxN (fun w => (tvL (Ls p) w).toInt64) 5 h)
def dCake (F : gS) (n i : Nat) (h : Int64) : Int64 := mxN (fun j => (F (49 + 3 * i + 1) j).toInt64) n (mxN (fun k => (F (49 + 3 * i + 2) k).toInt64) 7 h)
def dTry (P : Pn) (c : Cd) (Ls : Nat → Pl) (p : Nat) (h : Int64) : Int64 := mxN (fun w => (bkD P (Ls p) c w).toInt64) 2 h
def cnV (a0 a1 a2 a3 a4 a5 a6 a7 a8 : Int32) : Nat → Int32
  | 0 => a0
  | 1 => a1
  | 2 => a2
  | 3 => a3
  | 4 => a4
  | 5 => a5
  | 6 => a6
  | 7 => a7
  | _ => a8
def dg1 (P : Pn) (c : Cd) : Int64 := oN (dCell P c) (nn P) 499
def dg2 (P : Pn) (c : Cd) (Ls : Nat → Pl) (np : Nat) : Int64 := oN (dPlan Ls) np (dg1 P c)
def dg3 (F : gS) (P : Pn) (c : Cd) (Ls : Nat → Pl) (np nc : Nat) : Int64 := oN (dCake F (nn P)) nc (dg2 P c Ls np)
def dg4 (F : gS) (P : Pn) (c : Cd) (Ls : Nat → Pl) (np nc p : Nat) : Int64 := if p = 0 then dg3 F P c Ls np nc else oN (dTry P c Ls) np (dg3 F P c Ls np nc)
def dg5 (F : gS) (P : Pn) (c : Cd) (Ls : Nat → Pl) (np nc p len : Nat) : Int64 := mxN (fun j => (F 2 j).toInt64) len (dg4 F P c Ls np nc p)
def dg6 (F : gS) (P : Pn) (c : Cd) (Ls : Nat → Pl) (np nc p len s : Nat) : Int64 := mxN (fun w => (cnV (nI (nn P)) (nI np) (nI nc) (nI len) c.2.2 (sN (F 28) 16) (nI p) (nI s) (sN (fun i => F (49 + 3 * i + 2) 6) nc) w).toInt64) 9 (dg5 F P c Ls np nc p len)
theorem s_cellV {j w : Nat} {P : Pn} {c : Cd} {F : gS} {Q : Int32 → Prop} (hn : nn P ≤ 16) (hj : j < nn P) (hw : w < 4) (gP : AgP F P) (gC : AgC F 26 P c) (h : Q (cvO (P.2.2.1 j) (P.2.2.2 j) (c.1 j) (c.2.1 j) w)) : wp_X11_cell (nI j) (nI w) F Q := by
  obtain ⟨a1, a2, a3, a4, a5⟩ := gP
  have ij : vp_in (nI j) 16 := vp_in_nI (by omega) (by omega)
  unfold wp_X11_cell wp_X11_isCell
  have wj : wtB (nI j) 0 (F 9 2 - 1) = true := by
    rw [a1]
    obtain ⟨m, em⟩ : ∃ m, nn P = m + 1 := ⟨nn P - 1, by omega⟩
    rw [em, nI_pred]
    exact wtB_iff.mpr ⟨nI_pos' (by omega), nI_le (by omega) (by omega)⟩
  refine wx_y wj (if_n t10 ?_)
  rw [nI_clamp (by omega), a4 j hj, a5 j hj]
  have c1 : F 27 j = c.1 j := gC.1 j hj
  have c2 : F 28 j = c.2.1 j := gC.2.1 j hj
  rw [c1, c2]
  rcases (by omega : w = 0 ∨ w = 1 ∨ w = 2 ∨ w = 3) with rfl | rfl | rfl | rfl
  · exact if_y (by decide) ⟨ij, h⟩
  · refine if_n (by decide) (if_y (by decide) ⟨ij, if_c (fun q => ?_) (fun q => ?_)⟩)
    · have h' : Q (if P.2.2.2 j = 0 then 0 else 1) := h
      rw [if_pos q] at h'; exact h'
    · have h' : Q (if P.2.2.2 j = 0 then 0 else 1) := h
      rw [if_neg q] at h'; exact h'
  · exact if_n (by decide) (if_n (by decide) (if_y (by decide) ⟨ij, h⟩))
  · exact if_n (by decide) (if_n (by decide) (if_n (by decide) (if_y (by decide) ⟨ij, h⟩)))
theorem m_cellV {j w : Nat} {P : Pn} {c : Cd} {F : gS} {Q : Int32 → Prop} (hn : nn P ≤ 16) (hj : j < nn P) (hw : w < 4) (gP : MgP F P) (c1 : ∀ j, j < nn P → F 124 j = c.1 j) (c2 : ∀ j, j < nn P → F 125 j = c.2.1 j) (h : Q (cvO (P.2.2.1 j) (P.2.2.2 j) (c.1 j) (c.2.1 j) w)) : wp_X12_cellNow (nI j) (nI w) F Q := by
  obtain ⟨a1, a2, a4, a5⟩ := gP
  have ij : vp_in (nI j) 16 := vp_in_nI (by omega) (by omega)
  unfold wp_X12_cellNow
  rw [nI_clamp (by omega), a4 j hj, a5 j hj, c1 j hj, c2 j hj]
  rcases (by omega : w = 0 ∨ w = 1 ∨ w = 2 ∨ w = 3) with rfl | rfl | rfl | rfl
  · exact if_y (by decide) ⟨ij, h⟩
  · refine if_n (by decide) (if_y (by decide) ⟨ij, if_c (fun q => ?_) (fun q => ?_)⟩)
    · have h' : Q (if P.2.2.2 j = 0 then 0 else 1) := h
      rw [if_pos q] at h'; exact h'
    · have h' : Q (if P.2.2.2 j = 0 then 0 else 1) := h
      rw [if_neg q] at h'; exact h'
  · exact if_n (by decide) (if_n (by decide) (if_y (by decide) ⟨ij, h⟩))
  · exact if_n (by decide) (if_n (by decide) (if_n (by decide) ⟨ij, h⟩))
theorem s_toldV {k w : Nat} {L : Pl} {F : gS} {Q : Int32 → Prop} (hw : w < 5) (gL : AgL F k L) (h : Q (tvL L w)) : wp_X7_told k (nI w) F Q := by
  obtain ⟨l1, l2, l3, l4, l5, l6⟩ := gL
  unfold wp_X7_told
  rw [l1, l2, l3, l4, l5]
  rcases (by omega : w = 0 ∨ w = 1 ∨ w = 2 ∨ w = 3 ∨ w = 4) with rfl | rfl | rfl | rfl | rfl
  · exact if_y (by decide) h
  · exact if_n (by decide) (if_y (by decide) h)
  · exact if_n (by decide) (if_n (by decide) (if_y (by decide) h))
  · exact if_n (by decide) (if_n (by decide) (if_n (by decide) (if_y (by decide) h)))
  · exact if_n (by decide) (if_n (by decide) (if_n (by decide) (if_n (by decide) h)))
theorem m_toldV {p w : Nat} {L : Pl} {F : gS} {Q : Int32 → Prop} (hp : p < 6) (hw : w < 5) (gL : MpL F p L) (h : Q (tvL L w)) : wp_X12_planNow (nI p) (nI w) F Q := by
  obtain ⟨l1, l2, l3, l4, l5, l6⟩ := gL
  have ip : vp_in (nI p) 6 := vp_in_nI hp (by omega)
  unfold wp_X12_planNow
  rw [nI_clamp (by omega), l1, l2, l3, l4, l5]
  rcases (by omega : w = 0 ∨ w = 1 ∨ w = 2 ∨ w = 3 ∨ w = 4) with rfl | rfl | rfl | rfl | rfl
  · exact if_y (by decide) ⟨ip, h⟩
  · exact if_n (by decide) (if_y (by decide) ⟨ip, h⟩)
  · exact if_n (by decide) (if_n (by decide) (if_y (by decide) ⟨ip, h⟩))
  · exact if_n (by decide) (if_n (by decide) (if_n (by decide) (if_y (by decide) ⟨ip, h⟩)))
  · exact if_n (by decide) (if_n (by decide) (if_n (by decide) (if_n (by decide) (if_y (by decide) ⟨ip, h⟩))))
theorem s_countV {w n np nc len p s : Nat} {f : Int32} {F : gS} {Q : Int32 → Prop} (hw : w < 9) (hnc : nc ≤ 24) (e0 : F 9 2 = nI n) (e1 : F 0 10 = nI np) (e2 : F 0 11 = nI nc) (e3 : F 1 1 = nI len) (e4 : F 26 2 = f) (e6 : F 0 14 = nI p) (e7 : F 0 15 = nI s) (h : Q (cnV (nI n) (nI np) (nI nc) (nI len) f (sN (F 28) 16) (nI p) (nI s) (sN (fun i => F (49 + 3 * i + 2) 6) nc) w)) : wp_X11_count (nI w) F Q := by
  unfold wp_X11_count
  have s5 : ∀ {Q : Int32 → Prop}, Q (sN (F 28) 16) → wp_X1_bitsTogether 26 F Q := fun q => s_bits q
  have s8 : ∀ {Q : Int32 → Prop}, Q (sN (fun i => F (49 + 3 * i + 2) 6) nc) → wp_X11_worthTogether F Q := fun q => s_worth hnc e2 q
  rw [e0, e1, e2, e3, e4, e6, e7]
  rcases (by omega : w = 0 ∨ w = 1 ∨ w = 2 ∨ w = 3 ∨ w = 4 ∨ w = 5 ∨ w = 6 ∨ w = 7 ∨ w = 8) with rfl | rfl | rfl | rfl | rfl | rfl | rfl | rfl | rfl
  · exact if_y (by decide) h
  · exact if_n (by decide) (if_y (by decide) h)
  · exact if_n (by decide) (if_n (by decide) (if_y (by decide) h))
  · exact if_n (by decide) (if_n (by decide) (if_n (by decide) (if_y (by decide) h)))
  · exact if_n (by decide) (if_n (by decide) (if_n (by decide) (if_n (by decide) (if_y (by decide) h))))
  · exact if_n (by decide) (if_n (by decide) (if_n (by decide) (if_n (by decide) (if_n (by decide) (if_y (by decide) (s5 h))))))
  · exact if_n (by decide) (if_n (by decide) (if_n (by decide) (if_n (by decide) (if_n (by decide) (if_n (by decide) (if_y (by decide) h))))))
  · exact if_n (by decide) (if_n (by decide) (if_n (by decide) (if_n (by decide) (if_n (by decide) (if_n (by decide) (if_n (by decide) (if_y (by decide) h)))))))
  · exact if_n (by decide) (if_n (by decide) (if_n (by decide) (if_n (by decide) (if_n (by decide) (if_n (by decide) (if_n (by decide) (if_n (by decide) (if_y (by decide) (s8 h)))))))))
theorem m_countV {w n np nc len p s : Nat} {f b : Int32} {F : gS} {Q : Int32 → Prop} (hw : w < 9) (hn : n ≤ 16) (hnc : nc ≤ 24) (e0 : F 121 0 * F 121 1 = nI n) (e1 : F 121 8 = nI np) (e2 : F 121 15 = nI nc) (e3 : F 121 19 = nI len) (e4 : F 121 7 = f) (e5 : sN (F 125) n = b) (e6 : F 121 2 = nI p) (e7 : F 121 18 = nI s) (h : Q (cnV (nI n) (nI np) (nI nc) (nI len) f b (nI p) (nI s) (sN (fun i => F 132 (7 * i + 6)) nc) w)) : wp_X12_howMany (nI w) F Q := by
  unfold wp_X12_howMany
  have s0 : ∀ {Q : Int32 → Prop}, Q (nI n) → wp_X12_cells F Q := fun q => by unfold wp_X12_cells; rw [e0]; exact q
  have s5 : ∀ {Q : Int32 → Prop}, Q b → wp_X12_bitsAll F Q := fun q => m_bits hn e0 (by rw [e5]; exact q)
  have s8 : ∀ {Q : Int32 → Prop}, Q (sN (fun i => F 132 (7 * i + 6)) nc) → wp_X12_worthAll F Q := fun q => m_worth hnc e2 q
  rw [e1, e2, e3, e4, e6, e7]
  rcases (by omega : w = 0 ∨ w = 1 ∨ w = 2 ∨ w = 3 ∨ w = 4 ∨ w = 5 ∨ w = 6 ∨ w = 7 ∨ w = 8) with rfl | rfl | rfl | rfl | rfl | rfl | rfl | rfl | rfl
  · exact if_y (by decide) (s0 h)
  · exact if_n (by decide) (if_y (by decide) h)
  · exact if_n (by decide) (if_n (by decide) (if_y (by decide) h))
  · exact if_n (by decide) (if_n (by decide) (if_n (by decide) (if_y (by decide) h)))
  · exact if_n (by decide) (if_n (by decide) (if_n (by decide) (if_n (by decide) (if_y (by decide) h))))
  · exact if_n (by decide) (if_n (by decide) (if_n (by decide) (if_n (by decide) (if_n (by decide) (if_y (by decide) (s5 h))))))
  · exact if_n (by decide) (if_n (by decide) (if_n (by decide) (if_n (by decide) (if_n (by decide) (if_n (by decide) (if_y (by decide) h))))))
  · exact if_n (by decide) (if_n (by decide) (if_n (by decide) (if_n (by decide) (if_n (by decide) (if_n (by decide) (if_n (by decide) (if_y (by decide) h)))))))
  · exact if_n (by decide) (if_n (by decide) (if_n (by decide) (if_n (by decide) (if_n (by decide) (if_n (by decide) (if_n (by decide) (if_n (by decide) (if_y (by decide) (s8 h)))))))))
/-! the first side -/
theorem s_dCells {P : Pn} {c : Cd} {F : gS} {h0 : Int64} {Q : Int64 → Prop} (hn : nn P ≤ 16) (gP : AgP F P) (gC : AgC F 26 P c) (h : Q (oN (dCell P c) (nn P) h0)) : wp_X11_digestOfCells h0 F Q := by
  unfold wp_X11_digestOfCells
  refine for2 (nn P) (fun j x => x = oN (dCell P c) j h0) (by omega) (fun K j x hj e hK => ?_) (fun K x e => ?_) 0 h0 (Nat.zero_le _) rfl
  · unfold wb_X11_digestOfCells_5
    refine if_n (by rw [gP.1]; exact nI_ge hj (by omega)) ?_
    refine for2 4 (fun w y => y = mxN (fun w => (cvO (P.2.2.1 j) (P.2.2.2 j) (c.1 j) (c.2.1 j) w).toInt64) w x) (by omega) (fun K2 w y hw e2 hK2 => ?_) (fun K2 y e2 => ?_) 0 x (Nat.zero_le _) rfl
    · unfold wb_X11_digestOfCells_20
      refine if_n (nI_nlt (a := 3) (by omega) (by omega)) (s_cellV hn hj hw gP gC ?_)
      refine hK2 _ ?_
      rw [e2]; rfl
    · unfold wb_X11_digestOfCells_20
      refine if_y (nI_lt (a := 3) (b := 4) (by omega) (by omega)) (hK _ ?_)
      rw [e2, e]; rfl
  · unfold wb_X11_digestOfCells_5
    refine if_y (by rw [gP.1]; exact nI_le (Nat.le_refl _) (by omega)) ?_
    rw [e]; exact h
theorem s_dPlans {np : Nat} {Ls : Nat → Pl} {F : gS} {h0 : Int64} {Q : Int64 → Prop} (hnp : np ≤ 6) (e0 : F 0 10 = nI np) (gL : ∀ i, i < np → okL (Ls i) ∧ AgL F (37 + 2 * i) (Ls i)) (h : Q (oN (dPlan Ls) np h0)) : wp_X11_digestOfPlans h0 F Q := by
  unfold wp_X11_digestOfPlans
  refine for2 np (fun p x => x = oN (dPlan Ls) p h0) (by omega) (fun K p x hp e hK => ?_) (fun K x e => ?_) 0 h0 (Nat.zero_le _) rfl
  · obtain ⟨ok, gl⟩ := gL p hp
    have ip : vp_in (nI p) 6 := vp_in_nI (by omega) (by omega)
    have cp : (nI p).toNatClampNeg = p := nI_clamp (by omega)
    have o5 := ok.2.2.2.2
    have l5 := gl.2.2.2.2.1
    unfold wb_X11_digestOfPlans_5
    refine if_n (by rw [e0]; exact nI_ge hp (by omega)) ?_
    refine for2 5 (fun w y => y = mxN (fun w => (tvL (Ls p) w).toInt64) w x) (by omega) (fun K2 w y hw e2 hK2 => ?_) (fun K2 y e2 => ?_) 0 x (Nat.zero_le _) rfl
    · unfold wb_X11_digestOfPlans_17
      rw [cp]
      refine if_n (nI_nlt (a := 4) (by omega) (by omega)) ⟨ip, s_toldV hw gl (hK2 _ ?_)⟩
      rw [e2]; rfl
    · unfold wb_X11_digestOfPlans_17
      refine if_y (nI_lt (a := 4) (b := 5) (by omega) (by omega)) ?_
      refine for2 (Ls p).2.2.2.2.1 (fun i z => z = mxN (fun i => ((Ls p).2.2.2.2.2 i).toInt64) i y) (by omega) (fun K3 i z hi e3 hK3 => ?_) (fun K3 z e3 => ?_) 0 y (Nat.zero_le _) rfl
      · unfold wb_X11_digestOfPlans_50
        rw [cp, l5]
        refine ⟨ip, if_n (nI_ge hi (by omega)) ⟨ip, s_swingAt hi o5 l5 (hK3 _ ?_)⟩⟩
        rw [e3, gl.2.2.2.2.2 i hi]; rfl
      · unfold wb_X11_digestOfPlans_50
        rw [cp, l5]
        refine ⟨ip, if_y (nI_le (Nat.le_refl _) (by omega)) (hK _ ?_)⟩
        rw [e3, e2, e]; rfl
  · unfold wb_X11_digestOfPlans_5
    refine if_y (by rw [e0]; exact nI_le (Nat.le_refl _) (by omega)) ?_
    rw [e]; exact h
theorem s_dCakes {nc n : Nat} {F : gS} {h0 : Int64} {Q : Int64 → Prop} (hnc : nc ≤ 24) (hn : n ≤ 16) (e0 : F 0 11 = nI nc) (e9 : F 9 2 = nI n) (h : Q (oN (dCake F n) nc h0)) : wp_X11_digestOfCakes h0 F Q := by
  unfold wp_X11_digestOfCakes
  refine for2 nc (fun p x => x = oN (dCake F n) p h0) (by omega) (fun K p x hp e hK => ?_) (fun K x e => ?_) 0 h0 (Nat.zero_le _) rfl
  · have ip : vp_in (nI p) 24 := vp_in_nI (by omega) (by omega)
    have cp : (nI p).toNatClampNeg = p := nI_clamp (by omega)
    unfold wb_X11_digestOfCakes_5
    refine if_n (by rw [e0]; exact nI_ge hp (by omega)) ?_
    refine for2 7 (fun w y => y = mxN (fun k => (F (49 + 3 * p + 2) k).toInt64) w x) (by omega) (fun K2 w y hw e2 hK2 => ?_) (fun K2 y e2 => ?_) 0 x (Nat.zero_le _) rfl
    · unfold wb_X11_digestOfCakes_17
      rw [cp]
      refine if_n (nI_nlt (a := 6) (by omega) (by omega)) ⟨ip, i7 w hw, hK2 _ ?_⟩
      rw [nI_clamp (by omega), e2]; rfl
    · unfold wb_X11_digestOfCakes_17
      refine if_y (nI_lt (a := 6) (b := 7) (by omega) (by omega)) ?_
      refine for2 n (fun i z => z = mxN (fun j => (F (49 + 3 * p + 1) j).toInt64) i y) (by omega) (fun K3 i z hi e3 hK3 => ?_) (fun K3 z e3 => ?_) 0 y (Nat.zero_le _) rfl
      · unfold wb_X11_digestOfCakes_52
        rw [cp, e9]
        refine if_n (nI_ge hi (by omega)) ⟨ip, vp_in_nI (by omega) (by omega), hK3 _ ?_⟩
        rw [nI_clamp (by omega), e3]; rfl
      · unfold wb_X11_digestOfCakes_52
        rw [e9]
        refine if_y (nI_le (Nat.le_refl _) (by omega)) (hK _ ?_)
        rw [e3, e2, e]; rfl
  · unfold wb_X11_digestOfCakes_5
    refine if_y (by rw [e0]; exact nI_le (Nat.le_refl _) (by omega)) ?_
    rw [e]; exact h
theorem s_dCnt {np nc p len s i : Nat} {P : Pn} {c : Cd} {F G : gS} {h5 : Int64} {Q : Int64 → gS → Prop} (h1 : IPan F P p i) (e10 : F 0 10 = nI np) (hnc : nc ≤ 24) (e11 : F 0 11 = nI nc) (gC : AgC F 26 P c) (e1 : F 1 1 = nI len) (e15 : F 0 15 = nI s) (gq : ∀ q, (q < 12 ∨ 25 < q) → G q = F q)
    (h : Q (mxN (fun w => (cnV (nI (nn P)) (nI np) (nI nc) (nI len) c.2.2 (sN (F 28) 16) (nI p) (nI s) (sN (fun i => F (49 + 3 * i + 2) 6) nc) w).toInt64) 9 h5) G) : LP2 (wb_X11_digest_62 Q G) h5 0 := by
  have es : sN (fun i => G (49 + 3 * i + 2) 6) nc = sN (fun i => F (49 + 3 * i + 2) 6) nc := sN_cg _ (fun a ha => by rw [gq _ (by omega)])
  refine for2 9 (fun w y => y = mxN (fun w => (cnV (nI (nn P)) (nI np) (nI nc) (nI len) c.2.2 (sN (F 28) 16) (nI p) (nI s) (sN (fun i => F (49 + 3 * i + 2) 6) nc) w).toInt64) w h5) (by omega) (fun K2 w y hw e2 hK2 => ?_) (fun K2 y e2 => ?_) 0 h5 (Nat.zero_le _) rfl
  · unfold wb_X11_digest_62
    refine if_n (nI_nlt (a := 8) (by omega) (by omega)) ?_
    refine s_countV (n := nn P) (np := np) (nc := nc) (len := len) (p := p) (s := s) (f := c.2.2) hw hnc (by rw [gq _ (by omega)]; exact h1.1.1) (by rw [gq _ (by omega), e10]) (by rw [gq _ (by omega), e11]) (by rw [gq _ (by omega), e1]) (by rw [gq _ (by omega)]; exact gC.2.2) (by rw [gq _ (by omega)]; exact h1.2.2.1) (by rw [gq _ (by omega), e15]) (hK2 _ ?_)
    rw [gq 28 (by omega), es, e2]; rfl
  · unfold wb_X11_digest_62
    refine if_y (nI_lt (a := 8) (b := 9) (by omega) (by omega)) ?_
    rw [e2]; exact h
theorem s_dPg {len : Nat} {F G : gS} {h4 : Int64} {Q : Int64 → gS → Prop} (hlen : len ≤ 40) (e1 : F 1 1 = nI len) (gq : ∀ q, (q < 12 ∨ 25 < q) → G q = F q) (h : LP2 (wb_X11_digest_62 Q G) (mxN (fun j => (F 2 j).toInt64) len h4) 0) : LP2 (wb_X11_digest_28 Q G) h4 0 := by
  refine for2 len (fun j x => x = mxN (fun j => (F 2 j).toInt64) j h4) (by omega) (fun K j x hj e hK => ?_) (fun K x e => ?_) 0 h4 (Nat.zero_le _) rfl
  · unfold wb_X11_digest_28
    rw [gq 1 (by omega), e1, gq 2 (by omega)]
    refine if_n (nI_ge hj (by omega)) ⟨vp_in_nI (by omega) (by omega), hK _ ?_⟩
    rw [nI_clamp (by omega), e]; rfl
  · unfold wb_X11_digest_28
    rw [gq 1 (by omega), e1]
    refine if_y (nI_le (Nat.le_refl _) (by omega)) ?_
    rw [e]; exact h
theorem s_dTried {np p i : Nat} {P : Pn} {c : Cd} {Ls : Nat → Pl} {F : gS} {h0 : Int64} {Q : Int64 → gS → Prop} (hi : i < 2 ^ 20) (h1 : IPan F P p i) (hnp : np ≤ 6) (e10 : F 0 10 = nI np) (gL : ∀ i, i < np → okL (Ls i) ∧ AgL F (37 + 2 * i) (Ls i)) (gC : AgC F 26 P c) (okc : okC P c)
    (h : ∀ G, serX F G → Q (if p = 0 then h0 else oN (dTry P c Ls) np h0) G) : wp_X11_digestOfTried h0 F Q := by
  unfold wp_X11_digestOfTried
  rcases pan_or hi h1 with ⟨z1, z2, z3, z4⟩ | ⟨z1, z2, z3, z4, z5, z6⟩
  · have hh := h F (fun _ _ _ _ _ _ _ _ => rfl)
    rw [if_pos z1] at hh
    exact x_panN z3 (if_y rfl hh)
  · have hh : ∀ G, serX F G → Q (oN (dTry P c Ls) np h0) G := fun G sx => by
      have := h G sx; rw [if_neg (by omega)] at this; exact this
    refine x_panY z4 (if_n t10 ?_)
    refine for3 np (fun p' G x => serX F G ∧ x = oN (dTry P c Ls) p' h0) (by omega) (fun K p' G x hp' hI hK => ?_) (fun K G x hI => ?_) 0 F _ (Nat.zero_le _) ⟨fun _ _ _ _ _ _ _ _ => rfl, rfl⟩
    · obtain ⟨sx, e⟩ := hI
      have gq : ∀ q, (q < 12 ∨ 25 < q) → G q = F q := sx.w
      obtain ⟨ok, gl⟩ := gL p' hp'
      unfold wb_X11_digestOfTried_14
      rw [gq 0 (by omega), e10]
      refine if_n (nI_ge hp' (by omega)) ⟨vp_in_nI (by omega) (by omega), ?_⟩
      rw [nI_clamp (by omega), t0c, t1c]
      refine s_next (k1 := 26) z1 ok okc (by omega) (by omega) (wid.P gq h1.1) (wid.L gq (by omega) gl) (wid.C gq gC) (fun H g1 g2 g3 => ⟨i7 0 (by omega), ⟨i7 1 (by omega), hK _ _ ⟨sx.tr (fun q a b d e f g => g1 q a b d e f g), ?_⟩⟩⟩)
      rw [g3 0 (by omega), g3 1 (by omega), e]; rfl
    · obtain ⟨sx, e⟩ := hI
      have gq : ∀ q, (q < 12 ∨ 25 < q) → G q = F q := sx.w
      unfold wb_X11_digestOfTried_14
      rw [gq 0 (by omega), e10]
      refine if_y (nI_le (Nat.le_refl _) (by omega)) ?_
      rw [e]; exact hh G sx
theorem s_digest {np nc p len s i : Nat} {P : Pn} {c : Cd} {Ls : Nat → Pl} {F : gS} {Q : Int64 → gS → Prop} (hi : i < 2 ^ 20) (h1 : IPan F P p i) (hnp : np ≤ 6) (e10 : F 0 10 = nI np) (gL : ∀ i, i < np → okL (Ls i) ∧ AgL F (37 + 2 * i) (Ls i)) (hnc : nc ≤ 24) (e11 : F 0 11 = nI nc) (gC : AgC F 26 P c) (okc : okC P c) (hlen : len ≤ 40) (e1 : F 1 1 = nI len) (e15 : F 0 15 = nI s)
    (h : ∀ G, serX F G → Q (dg6 F P c Ls np nc p len s) G) : wp_X11_digest F Q := by
  have hn : nn P ≤ 16 := by rcases pan_or hi h1 with z | z <;> omega
  unfold dg6 dg5 dg4 dg3 dg2 dg1 at h
  unfold wp_X11_digest
  refine s_dCells (P := P) (c := c) hn h1.1 gC ?_
  refine s_dPlans hnp e10 gL ?_
  refine s_dCakes hnc hn e11 h1.1.1 ?_
  refine s_dTried (Ls := Ls) hi h1 hnp e10 gL gC okc (fun G sx => ?_)
  refine s_dPg hlen e1 sx.w ?_
  exact s_dCnt h1 e10 hnc e11 gC e1 e15 sx.w (h G sx)
/-! the other side -/
def MH (F G : gS) (h : Int64) : Prop := (∀ q, q ≠ 121 → q < 140 → G q = F q) ∧ (∀ k, (k < 43 ∨ 62 < k) → k ≠ 66 → k ≠ 67 → G 121 k = F 121 k) ∧ gL (G 121 66) (G 121 67) = h
theorem m_mix {F G : gS} {h v : Int64} {Q : gS → Prop} (hm : MH F G h) (hq : ∀ H, MH F H ((31 : Int64) * h + v) → Q H) : wp_X12_mix v G Q := by
  obtain ⟨a, b, e⟩ := hm
  unfold wp_X12_mix
  rw [e]
  have hu : ∀ q, q ≠ 121 → (upL G 121 66 67 (31 * h + v)) q = G q := fun q h => if_neg h
  have hs : (upL G 121 66 67 (31 * h + v)) 121 = upd (upd (G 121) 66 (gHi (31 * h + v))) 67 (gLo (31 * h + v)) := if_pos rfl
  refine hq _ ⟨fun q h1 h2 => by rw [hu q h1, a q h1 h2], fun k h1 h2 h3 => by rw [hs, pk_un h3, pk_un h2, b k h1 h2 h3], ?_⟩
  rw [hs, pk_us, pk_un (by omega), pk_us, gL_back]
theorem MH.P {F G : gS} {P : Pn} {h : Int64} (m : MH F G h) (g : MgP F P) : MgP G P := MgP_tr (fun q k u => by
  by_cases z : q = 121
  · subst z; exact m.2.1 k (by omega) (by omega) (by omega)
  · rw [m.1 q z (by omega)]) g
theorem MH.L {F G : gS} {j : Nat} {L : Pl} {h : Int64} (m : MH F G h) (g : MpL F j L) : MpL G j L := MpL_tr (fun q k u v => by rw [m.1 q (by omega) (by omega)]) g
theorem m_digest {np nc p len s i : Nat} {P : Pn} {c : Cd} {Ls : Nat → Pl} {F E : gS} {Q : Int64 → gS → Prop} (hi : i < 2 ^ 20) (h1 : IPan F P p i) (hnp : np ≤ 6) (e8 : F 121 8 = nI np) (gL : ∀ i, i < np → okL (Ls i) ∧ MpL F i (Ls i)) (hck : ICk E P nc) (e15 : F 121 15 = nI nc) (e132 : F 132 = E 132) (e133 : F 133 = E 133) (c1 : ∀ j, j < nn P → F 124 j = c.1 j) (c2 : ∀ j, j < nn P → F 125 j = c.2.1 j) (c3 : F 121 7 = c.2.2) (okc : okC P c) (hlen : len ≤ 40) (e19 : F 121 19 = nI len) (hpg : ∀ j, j < len → E 2 j = F 134 j) (e18 : F 121 18 = nI s) (eb : sN (F 125) (nn P) = sN (E 28) 16)
    (h : ∀ G, MH F G (dg6 E P c Ls np nc p len s) → Q (dg6 E P c Ls np nc p len s) G) : wp_X12_digest F Q := by
  have hn : nn P ≤ 16 := by rcases pan_or hi h1 with z | z <;> omega
  have hnc := hck.1
  have b0 := h1.2.1.1
  have b1 := h1.2.1.2.1
  have cells : ∀ {G : gS} {x : Int64}, MH F G x → G 121 0 * G 121 1 = nI (nn P) := fun m => by rw [m.2.1 0 (by omega) (by omega) (by omega), m.2.1 1 (by omega) (by omega) (by omega), b0, b1, pk_mul]; rfl
  have k217 : ∀ (G : gS) (x : Int64), MH F G x → x = dg5 E P c Ls np nc p len → LP2 (wb_X12_digest_217 Q) G 0 := by
    intro G x m ex
    refine for2 9 (fun w G => MH F G (mxN (fun w => (cnV (nI (nn P)) (nI np) (nI nc) (nI len) c.2.2 (sN (E 28) 16) (nI p) (nI s) (sN (fun i => E (49 + 3 * i + 2) 6) nc) w).toInt64) w x)) (by omega) (fun K w G hw m hK => ?_) (fun K G m => ?_) 0 G (Nat.zero_le _) m
    · unfold wb_X12_digest_217
      refine if_n (nI_ge (b := 9) hw (by omega)) ?_
      refine m_countV (n := nn P) (np := np) (nc := nc) (len := len) (p := p) (s := s) (f := c.2.2) (b := sN (E 28) 16) hw hn hnc (cells m) (by rw [m.2.1 _ (by omega) (by omega) (by omega), e8]) (by rw [m.2.1 _ (by omega) (by omega) (by omega), e15]) (by rw [m.2.1 _ (by omega) (by omega) (by omega), e19]) (by rw [m.2.1 _ (by omega) (by omega) (by omega), c3]) (by rw [m.1 125 (by omega) (by omega), eb]) (by rw [m.2.1 _ (by omega) (by omega) (by omega)]; exact h1.2.2.2.1) (by rw [m.2.1 _ (by omega) (by omega) (by omega), e18]) ?_
      have es : sN (fun i => G 132 (7 * i + 6)) nc = sN (fun i => E (49 + 3 * i + 2) 6) nc := sN_cg _ (fun a ha => by rw [m.1 132 (by omega) (by omega), e132, (hck.2.2.2 a ha).1 6 (by omega)])
      rw [es]
      exact m_mix m (fun H mh => hK _ mh)
    · unfold wb_X12_digest_217
      refine if_y (nI_le (a := 9) (Nat.le_refl _) (by omega)) ?_
      have e6 : mxN (fun w => (cnV (nI (nn P)) (nI np) (nI nc) (nI len) c.2.2 (sN (E 28) 16) (nI p) (nI s) (sN (fun i => E (49 + 3 * i + 2) 6) nc) w).toInt64) 9 x = dg6 E P c Ls np nc p len s := by rw [ex]; rfl
      rw [e6] at m
      rw [m.2.2]; exact h G m
  have k190 : ∀ (G : gS) (x : Int64), MH F G x → x = dg4 E P c Ls np nc p → LP2 (wb_X12_digest_190 Q) G 0 := by
    intro G x m ex
    refine for2 len (fun j G => MH F G (mxN (fun j => (E 2 j).toInt64) j x)) (by omega) (fun K j G hj m hK => ?_) (fun K G m => ?_) 0 G (Nat.zero_le _) m
    · unfold wb_X12_digest_190
      rw [m.2.1 19 (by omega) (by omega) (by omega), e19]
      refine if_n (nI_ge hj (by omega)) ⟨vp_in_nI (by omega) (by omega), ?_⟩
      rw [nI_clamp (by omega), m.1 134 (by omega) (by omega), ← hpg j hj]
      exact m_mix m (fun H mh => hK _ mh)
    · unfold wb_X12_digest_190
      rw [m.2.1 19 (by omega) (by omega) (by omega), e19]
      refine if_y (nI_le (Nat.le_refl _) (by omega)) (k217 G _ m ?_)
      rw [ex]; rfl
  have k144 : ∀ (G : gS) (x : Int64), MH F G x → x = dg3 E P c Ls np nc → LP2 (wb_X12_digest_144 Q) G 0 := by
    intro G x m ex
    rcases pan_or hi h1 with ⟨z1, z2, z3, z4⟩ | ⟨z1, z2, z3, z4, z5, z6⟩
    · have g4 : x = dg4 E P c Ls np nc p := by rw [ex]; unfold dg4; rw [if_pos z1]
      refine ⟨1, ?_⟩
      show wb_X12_digest_144 Q _ G 0
      unfold wb_X12_digest_144
      refine if_c (fun _ => k190 G x m g4) (fun _ => if_y ?_ (k190 G x m g4))
      rw [m.2.1 2 (by omega) (by omega) (by omega), z4]; decide
    · have hp := h1.2.2.2.2.1
      refine for2 np (fun q G => MH F G (oN (dTry P c Ls) q x)) (by omega) (fun K q G hq m hK => ?_) (fun K G m => ?_) 0 G (Nat.zero_le _) m
      · obtain ⟨ok, gl⟩ := gL q hq
        unfold wb_X12_digest_144
        rw [m.2.1 8 (by omega) (by omega) (by omega), e8, m.2.1 2 (by omega) (by omega) (by omega), h1.2.2.2.1]
        refine if_n (nI_ge hq (by omega)) (if_n (nI_nle (by omega) (by omega)) ?_)
        refine m_layNext (j := q) (P := P) (L := Ls q) (c := c) z1 ok okc (by omega) (m.P h1.2.1) (m.L gl) (fun a ha => by rw [m.1 124 (by omega) (by omega), c1 a ha]) (fun a ha => by rw [m.1 125 (by omega) (by omega), c2 a ha]) (by rw [m.2.1 7 (by omega) (by omega) (by omega), c3]) (fun H k1 k2 k3 k4 k5 => ?_)
        have mh : MH F H (oN (dTry P c Ls) q x) := ⟨fun a a1 a2 => by rw [k1 a a1 a2, m.1 a a1 a2], fun k a1 a2 a3 => by rw [k2 k (by omega), m.2.1 k a1 a2 a3], by rw [k2 66 (by omega), k2 67 (by omega)]; exact m.2.2⟩
        have e54 : H 121 54 = bkD P (Ls q) c 0 := k5 0 (by omega)
        have e55 : H 121 55 = bkD P (Ls q) c 1 := k5 1 (by omega)
        have f55 : ∀ v, (upL H 121 66 67 v) 121 55 = H 121 55 := fun v => by
          have eu : (upL H 121 66 67 v) 121 = upd (upd (H 121) 66 (gHi v)) 67 (gLo v) := if_pos rfl
          rw [eu, pk_un (by omega), pk_un (by omega)]
        unfold wp_X12_mix
        dsimp only [Nm]
        rw [mh.2.2, e54, f55, e55]
        have hu : ∀ (G : gS) (v : Int64) (q : Nat), q ≠ 121 → (upL G 121 66 67 v) q = G q := fun G v q h => if_neg h
        have hs : ∀ (G : gS) (v : Int64), (upL G 121 66 67 v) 121 = upd (upd (G 121) 66 (gHi v)) 67 (gLo v) := fun G v => if_pos rfl
        have mL : ∀ (G : gS) (x v : Int64), MH F G x → MH F (upL G 121 66 67 v) v := fun G x v mg => ⟨fun a a1 a2 => by rw [hu G v a a1, mg.1 a a1 a2], fun k a1 a2 a3 => by rw [hs, pk_un a3, pk_un a2, mg.2.1 k a1 a2 a3], by rw [hs, pk_us, pk_un (by omega), pk_us, gL_back]⟩
        have m2 := mL H _ ((31 : Int64) * oN (dTry P c Ls) q x + (bkD P (Ls q) c 0).toInt64) mh
        rw [m2.2.2]
        exact hK _ (mL _ _ _ m2)
      · unfold wb_X12_digest_144
        rw [m.2.1 8 (by omega) (by omega) (by omega), e8]
        refine if_y (nI_le (Nat.le_refl _) (by omega)) (k190 G _ m ?_)
        rw [ex]; unfold dg4; rw [if_neg (by omega)]
  have k123 : ∀ (G : gS) (x : Int64), MH F G x → x = dg2 P c Ls np → LP2 (wb_X12_digest_123 Q) G 0 := by
    intro G x m ex
    refine for2 nc (fun q G => MH F G (oN (dCake E (nn P)) q x)) (by omega) (fun K q G hq m hK => ?_) (fun K G m => ?_) 0 G (Nat.zero_le _) m
    · obtain ⟨d1, d2, d3⟩ := hck.2.2.2 q hq
      unfold wb_X12_digest_123
      rw [m.2.1 15 (by omega) (by omega) (by omega), e15]
      refine if_n (nI_ge hq (by omega)) ?_
      unfold wp_X12_mixCake
      refine for2 7 (fun w G => MH F G (mxN (fun k => (E (49 + 3 * q + 2) k).toInt64) w (oN (dCake E (nn P)) q x))) (by omega) (fun K2 w G hw m hK2 => ?_) (fun K2 G m => ?_) 0 G (Nat.zero_le _) m
      · have e7 : 7 * nI q + nI w = nI (7 * q + w) := by
          have z1 : 7 * nI q = nI (7 * q) := pk_mul 7 q
          rw [z1, nI_add]
        unfold wb_X12_mixCake_2
        rw [e7]
        refine if_n (nI_ge (b := 7) hw (by omega)) ⟨vp_in_nI (by omega) (by omega), ?_⟩
        rw [nI_clamp (by omega), m.1 132 (by omega) (by omega), e132, ← d1 w hw]
        exact m_mix m (fun H mh => hK2 _ mh)
      · unfold wb_X12_mixCake_2
        refine if_y (nI_le (a := 7) (Nat.le_refl _) (by omega)) ?_
        refine for2 (nn P) (fun j G => MH F G (mxN (fun j => (E (49 + 3 * q + 1) j).toInt64) j (mxN (fun k => (E (49 + 3 * q + 2) k).toInt64) 7 (oN (dCake E (nn P)) q x)))) (by omega) (fun K3 j G hj m hK3 => ?_) (fun K3 G m => ?_) 0 G (Nat.zero_le _) m
        · have e16 : 16 * nI q + nI j = nI (16 * q + j) := by
            have z1 : 16 * nI q = nI (16 * q) := pk_mul 16 q
            rw [z1, nI_add]
          unfold wb_X12_mixCake_32 wp_X12_cells
          rw [cells m, e16]
          refine if_n (nI_ge hj (by omega)) ⟨vp_in_nI (by omega) (by omega), ?_⟩
          rw [nI_clamp (by omega), m.1 133 (by omega) (by omega), e133, ← d2 j hj]
          exact m_mix m (fun H mh => hK3 _ mh)
        · unfold wb_X12_mixCake_32 wp_X12_cells
          rw [cells m]
          exact if_y (nI_le (Nat.le_refl _) (by omega)) (hK _ m)
    · unfold wb_X12_digest_123
      rw [m.2.1 15 (by omega) (by omega) (by omega), e15]
      refine if_y (nI_le (Nat.le_refl _) (by omega)) (k144 G _ m ?_)
      rw [ex]; rfl
  have k49 : ∀ (G : gS) (x : Int64), MH F G x → x = dg1 P c → LP2 (wb_X12_digest_49 Q) G 0 := by
    intro G x m ex
    refine for2 np (fun q G => MH F G (oN (dPlan Ls) q x)) (by omega) (fun K q G hq m hK => ?_) (fun K G m => ?_) 0 G (Nat.zero_le _) m
    · obtain ⟨ok, gl⟩ := gL q hq
      have o5 := ok.2.2.2.2
      have iq : vp_in (nI q) 6 := vp_in_nI (by omega) (by omega)
      unfold wb_X12_digest_49
      rw [m.2.1 8 (by omega) (by omega) (by omega), e8]
      refine if_n (nI_ge hq (by omega)) ?_
      refine for2 5 (fun w G => MH F G (mxN (fun w => (tvL (Ls q) w).toInt64) w (oN (dPlan Ls) q x))) (by omega) (fun K2 w G hw m hK2 => ?_) (fun K2 G m => ?_) 0 G (Nat.zero_le _) m
      · unfold wb_X12_digest_59
        exact if_n (nI_ge (b := 5) hw (by omega)) (m_toldV (by omega) hw (m.L gl) (m_mix m (fun H mh => hK2 _ mh)))
      · unfold wb_X12_digest_59
        refine if_y (nI_le (a := 5) (Nat.le_refl _) (by omega)) ?_
        refine for2 (Ls q).2.2.2.2.1 (fun j G => MH F G (mxN (fun i => ((Ls q).2.2.2.2.2 i).toInt64) j (mxN (fun w => (tvL (Ls q) w).toInt64) 5 (oN (dPlan Ls) q x)))) (by omega) (fun K3 j G hj m hK3 => ?_) (fun K3 G m => ?_) 0 G (Nat.zero_le _) m
        · have e6 : 6 * nI q + nI j = nI (6 * q + j) := by
            have z1 : 6 * nI q = nI (6 * q) := pk_mul 6 q
            rw [z1, nI_add]
          have gl' := m.L gl
          unfold wb_X12_digest_83
          rw [nI_clamp (by omega), gl'.2.2.2.2.1, e6]
          refine ⟨iq, if_n (nI_ge hj (by omega)) ⟨vp_in_nI (by omega) (by omega), ?_⟩⟩
          rw [nI_clamp (by omega), gl'.2.2.2.2.2 j hj]
          exact m_mix m (fun H mh => hK3 _ mh)
        · have gl' := m.L gl
          unfold wb_X12_digest_83
          rw [nI_clamp (by omega), gl'.2.2.2.2.1]
          exact ⟨iq, if_y (nI_le (Nat.le_refl _) (by omega)) (hK _ m)⟩
    · unfold wb_X12_digest_49
      rw [m.2.1 8 (by omega) (by omega) (by omega), e8]
      refine if_y (nI_le (Nat.le_refl _) (by omega)) (k123 G _ m ?_)
      rw [ex]; rfl
  unfold wp_X12_digest
  have hu : ∀ (q : Nat), q ≠ 121 → (upL F 121 66 67 499) q = F q := fun q h => if_neg h
  have hs : (upL F 121 66 67 499) 121 = upd (upd (F 121) 66 (gHi 499)) 67 (gLo 499) := if_pos rfl
  refine for2 (nn P) (fun j G => MH F G (oN (dCell P c) j 499)) (by omega) (fun K j G hj m hK => ?_) (fun K G m => ?_) 0 _ (Nat.zero_le _) ⟨fun a a1 a2 => hu a a1, fun k a1 a2 a3 => by rw [hs, pk_un a3, pk_un a2], by rw [hs, pk_us, pk_un (by omega), pk_us, gL_back]; rfl⟩
  · unfold wb_X12_digest_9 wp_X12_cells
    rw [cells m]
    refine if_n (nI_ge hj (by omega)) ?_
    refine for2 4 (fun w G => MH F G (mxN (fun w => (cvO (P.2.2.1 j) (P.2.2.2 j) (c.1 j) (c.2.1 j) w).toInt64) w (oN (dCell P c) j 499))) (by omega) (fun K2 w G hw m hK2 => ?_) (fun K2 G m => ?_) 0 G (Nat.zero_le _) m
    · unfold wb_X12_digest_19
      refine if_n (nI_ge (b := 4) hw (by omega)) (m_cellV hn hj hw (m.P h1.2.1) (fun a ha => by rw [m.1 124 (by omega) (by omega), c1 a ha]) (fun a ha => by rw [m.1 125 (by omega) (by omega), c2 a ha]) (m_mix m (fun H mh => hK2 _ mh)))
    · unfold wb_X12_digest_19
      exact if_y (nI_le (a := 4) (Nat.le_refl _) (by omega)) (hK _ m)
  · unfold wb_X12_digest_9 wp_X12_cells
    rw [cells m]
    exact if_y (nI_le (Nat.le_refl _) (by omega)) (k49 G _ m rfl)
theorem T_digest {i : Nat} {F : gS} (hi : i < 2 ^ 20) (h : Inv i F) : wp_X11_digest F (fun r G => wp_X12_digest G (fun r' H => r = r' ∧ Inv (i + 1) H)) := by
  have hI := h
  obtain ⟨P, p, np, nc, c, len, s, h1, h2, h3, h4, h5, h6, h7⟩ := h
  obtain ⟨g1, g2, g3, g4⟩ := h2
  have hn : nn P ≤ 16 := by rcases pan_or hi h1 with z | z <;> omega
  have hsk : ∀ i, ∃ L, i < np → (okL L ∧ AgL F (37 + 2 * i) L ∧ MpL F i L) := fun i => by
    by_cases q : i < np
    · obtain ⟨L, hL⟩ := g4 i q; exact ⟨L, fun _ => hL⟩
    · exact ⟨(0, 0, 0, 0, 0, fun _ => 0), fun z => absurd z q⟩
  obtain ⟨Ls, hLs⟩ := Classical.skolem.mp hsk
  have hb := bits_eq h4 hn
  have h4' := h4
  obtain ⟨c1, c2, c3, c4, c5, c6⟩ := h4
  refine s_digest (Ls := Ls) hi h1 g1 g2 (fun a ha => ⟨(hLs a ha).1, (hLs a ha).2.1⟩) h3.1 h3.2.1 c1 c5 h6.1 h6.2.1 h7.2.1 (fun G sx => ?_)
  have gq : ∀ q, (q < 12 ∨ 25 < q) → G q = F q := sx.w
  have eqG : ∀ q k, (q < 12 ∨ 25 < q) → G q k = F q k := fun q k u => by rw [gq q u]
  have h1' : IPan G P p i := IPan_tr (fun q j u => eqG q j (by unfold uPan at u; omega)) (Nat.le_refl _) h1
  refine m_digest (E := F) (Ls := Ls) hi h1' g1 (by rw [eqG _ _ (by omega), g3]) (fun a ha => ⟨(hLs a ha).1, MpL_tr (fun q k u v => eqG q k (by omega)) (hLs a ha).2.2⟩) h3 (by rw [eqG _ _ (by omega), h3.2.2.1]) (gq 132 (by omega)) (gq 133 (by omega)) (fun k hk => by rw [eqG _ _ (by omega), c2 k hk]) (fun k hk => by rw [eqG _ _ (by omega), c3 k hk]) (by rw [eqG _ _ (by omega), c4]) c5 h6.1 (by rw [eqG _ _ (by omega), h6.2.2.1]) (fun j hj => by rw [eqG _ _ (by omega), (h6.2.2.2 j hj).1]) (by rw [eqG _ _ (by omega), h7.2.2]) (by rw [gq 125 (by omega), hb]) (fun H mh => ⟨rfl, Inv_tr (fun q k u => ?_) (by omega) hI⟩)
  unfold uA at u
  by_cases z : q = 121
  · subst z; rw [mh.2.1 k (by omega) (by omega) (by omega), gq _ (by omega)]
  · rw [mh.1 q z (by omega), gq q (by omega)]
