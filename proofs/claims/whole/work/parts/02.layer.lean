/-! The words that may be carried along, all of them, for every method alike -/
def tblG : List Cond := lw_tbl.filter goodWord
theorem tg_t {w : Cond} (h : w ∈ tables_1) (hg : goodWord w = true) : w ∈ tblG := List.mem_filter.mpr ⟨List.mem_append_right _ h, hg⟩
theorem tg_s {w : Cond} (h : w ∈ k2_sels lw_privs) (hg : goodWord w = true) : w ∈ tblG := List.mem_filter.mpr ⟨List.mem_append_left _ h, hg⟩
theorem tb1 {w : Cond} (h : w ∈ tables_1_1) : w ∈ tables_1 := List.mem_append_left _ h
theorem tb2 {w : Cond} (h : w ∈ tables_1_2) : w ∈ tables_1 := List.mem_append_right _ (List.mem_append_left _ h)
theorem tb3 {w : Cond} (h : w ∈ tables_1_3) : w ∈ tables_1 := List.mem_append_right _ (List.mem_append_right _ (List.mem_append_left _ h))
theorem tb4 {w : Cond} (h : w ∈ tables_1_4) : w ∈ tables_1 := List.mem_append_right _ (List.mem_append_right _ (List.mem_append_right _ (List.mem_append_left _ h)))
theorem tb5 {w : Cond} (h : w ∈ tables_1_5) : w ∈ tables_1 := List.mem_append_right _ (List.mem_append_right _ (List.mem_append_right _ (List.mem_append_right _ (List.mem_append_left _ h))))
theorem tb6 {w : Cond} (h : w ∈ tables_1_6) : w ∈ tables_1 := List.mem_append_right _ (List.mem_append_right _ (List.mem_append_right _ (List.mem_append_right _ (List.mem_append_right _ h))))
theorem tg_good {w : Cond} (h : w ∈ tblG) : goodWord w = true := (List.mem_filter.mp h).2
theorem tg_in {ws : List Cond} (h : ∀ w ∈ ws, w ∈ tblG) : GoodIn tblG ws := fun w hw => ⟨h w hw, good_of_word (tg_good (h w hw))⟩
/-- words of nest mates and abstract methods, which no list of steady words carries -/
def isN : Cond → Bool
  | .methodLinkNest _ _ _ _ => true
  | .fieldLinkNest _ _ _ _ _ _ => true
  | .declares _ => true
  | _ => false
theorem nw_warm {w : Cond} (h : isN w = true) {s U : State} (hW : s.WarmedH U.vm) (hZ : va_Nw w s) : va_Nw w U := by
  cases w <;> first | exact va_Nw.warmM hW hZ | exact va_Nw.warmF hW hZ | exact va_Nw.warmD hW hZ | exact absurd h Bool.false_ne_true
theorem nw_tab {w : Cond} (h : isN w = true) : w.onTables = true := by
  cases w <;> first | rfl | exact absurd h Bool.false_ne_true
/-! The world: all cells of the system and of the reference, by number. The state: what they hold, by number and place -/
abbrev gS : Type := Nat → Nat → Int32
/-- class numbers and slots; array classes; addresses; the first new address, and where statics and texts lie -/
abbrev gE : Type := va_G × (Nat → ClassId) × (Nat → Nat) × (Nat → Nat)
def ad (E : gE) (k : Nat) : Nat := E.2.2.1 k
def gA (E : gE) : Nat → Prop := fun q => E.2.2.2 0 ≤ q
def gK : List Nat := [9, 4, 1040, 6, 1016, 2016, 8, 1005, 1006, 5, 1016, 2016, 2016, 1016, 2, 1, 1016, 1016, 1, 1016, 1016, 0, 1016, 1007, 7, 1006, 1, 1016, 1016, 1, 1016, 1016, 4006, 5024, 3, 1009, 1009,
  7, 1006, 7, 1006, 7, 1006, 7, 1006, 7, 1006, 7, 1006,
  0, 1016, 1007, 0, 1016, 1007, 0, 1016, 1007, 0, 1016, 1007, 0, 1016, 1007, 0, 1016, 1007, 0, 1016, 1007, 0, 1016, 1007, 0, 1016, 1007, 0, 1016, 1007, 0, 1016, 1007, 0, 1016, 1007,
  0, 1016, 1007, 0, 1016, 1007, 0, 1016, 1007, 0, 1016, 1007, 0, 1016, 1007, 0, 1016, 1007, 0, 1016, 1007, 0, 1016, 1007, 0, 1016, 1007, 0, 1016, 1007, 0, 1016, 1007, 0, 1016, 1007,
  10, 1016, 2016, 1016, 1016, 1006, 1006, 1006, 1006, 1006, 1036, 1168, 1384, 3040, 1016, 1016, 1016, 2016, 1006, 1016, 1016, 1006, 1016, 1016, 2016, 1032, 1016, 1009, 1009]
def kd (k : Nat) : Nat := gK.getD k 99
theorem kd_lt {k ci : Nat} (h : kd k = ci) (hc : ci ≠ 99) : k < 150 := by
  rcases Nat.lt_or_ge k 150 with q | q
  · exact q
  · exfalso
    have h1 : gK.length = 150 := by decide +kernel
    have h2 : kd k = 99 := by
      unfold kd
      rw [List.getD_eq_getElem?_getD, List.getElem?_eq_none (by omega)]
      rfl
    exact hc (h.symm.trans h2)
/-- a long as two ints, and back -/
def gHi (v : Int64) : Int32 := ⟨⟨v.toBitVec.extractLsb' 32 32⟩⟩
def gLo (v : Int64) : Int32 := ⟨⟨v.toBitVec.extractLsb' 0 32⟩⟩
def gL (a b : Int32) : Int64 := ⟨⟨a.toBitVec ++ b.toBitVec⟩⟩
theorem gL_back (v : Int64) : gL (gHi v) (gLo v) = v := by
  apply Int64.toBitVec_inj.mp
  show v.toBitVec.extractLsb' 32 32 ++ v.toBitVec.extractLsb' 0 32 = v.toBitVec
  apply BitVec.eq_of_getLsbD_eq
  intro i hi
  rw [BitVec.getLsbD_append]
  by_cases h : i < 32
  · simp [h]
  · simp [h]
    have e : 32 + (i - 32) = i := by omega
    have e2 : i - 32 < 32 := by omega
    simp [e, e2]
def flds (E : gE) (ci k : Nat) (f : Nat → Int32) : List Value := match ci with
  | 0 => [.ref (ad E (k + 1)), .ref (ad E (k + 2))]
  | 1 => [.ref (ad E (k + 1)), .ref (ad E (k + 2)), .int (f 2)]
  | 2 => [.ref (ad E 9), .ref (ad E 15), .ref (ad E 18), .ref (ad E 21), .ref (ad E 24), .int (f 5), .int (f 6), .int (f 7)]
  | 3 => [.ref (ad E (k + 1)), .ref (ad E (k + 2)), .int (f 2), .int (f 3)]
  | 4 => [.ref (ad E (k + 1)), .int (f 1)]
  | 5 => [.ref (ad E (k + 1)), .ref (ad E (k + 2)), .int (f 2), .int (f 3), .int (f 4), .ref (ad E (k + 3)), .ref (ad E (k + 4))]
  | 6 => [.ref (ad E (k + 1)), .ref (ad E (k + 2)), .int (f 2), .int (f 3), .int (f 4), .int (f 5), .int (f 6)]
  | 7 => [.ref (ad E (k + 1)), .int (f 1), .int (f 2), .int (f 3), .int (f 4), .int (f 5)]
  | 8 => [.ref (ad E (k + 1)), .ref (ad E (k + 2)), .int (f 2), .int (f 3)]
  | 9 => [.ref (ad E 1), .ref (ad E 3), .ref (ad E 6), .ref (ad E 14), .ref (ad E 9), .ref (ad E 26), .ref (ad E 29), .ref (ad E 32), .ref (ad E 33), .ref (ad E 34), .int (f 10), .int (f 11), .int (f 12), .int (f 13), .int (f 14), .int (f 15)]
  | 10 => [.int (f 0), .int (f 1), .int (f 2), .ref (ad E 122), .ref (ad E 123), .ref (ad E 124), .ref (ad E 125), .int (f 7), .int (f 8), .ref (ad E 126), .ref (ad E 127), .ref (ad E 128), .ref (ad E 129), .ref (ad E 130), .ref (ad E 131), .int (f 15), .ref (ad E 132), .ref (ad E 133), .int (f 18), .int (f 19), .ref (ad E 134), .int (f 21), .int (f 22), .int (f 23), .int (f 24), .ref (ad E 135), .ref (ad E 136), .int (f 27), .int (f 28), .int (f 29), .int (f 30), .int (f 31), .int (f 32), .ref (ad E 137), .ref (ad E 138), .int (f 35), .int (f 36), .int (f 37), .int (f 38), .int (f 39), .ref (ad E 139), .ref (ad E 140), .ref (ad E 141), .int (f 43), .int (f 44), .int (f 45), .int (f 46), .int (f 47), .int (f 48), .ref (ad E 142), .ref (ad E 143), .ref (ad E 144), .ref (ad E 145), .ref (ad E 146), .int (f 54), .int (f 55), .int (f 56), .int (f 57), .int (f 58), .int (f 59), .int (f 60), .int (f 61), .int (f 62), .ref (ad E 147), .ref (ad E 148), .ref (ad E 149), .long (gL (f 66) (f 67))]
  | _ => []
def cE (E : gE) (kk k : Nat) (f : Nat → Int32) : va_E :=
  if kk < 1000 then .inr (kk, flds E kk k f)
  else if kk < 2000 then .inl (E.2.1 0, kk - 1000, .inl f)
  else if kk < 3000 then .inl (E.2.1 1, kk - 2000, .inl f)
  else if kk < 4000 then .inl (E.2.1 2, kk - 3000, .inl f)
  else if kk < 5000 then .inl (E.2.1 3, 6, .inr (.inr (.inr (.inr (fun i => some (ad E (37 + 2 * i)))))))
  else .inl (E.2.1 4, 24, .inr (.inr (.inr (.inr (fun i => some (ad E (49 + 3 * i)))))))
theorem cE_o (E : gE) {kk : Nat} (k : Nat) (f : Nat → Int32) (h : kk < 1000) : cE E kk k f = .inr (kk, flds E kk k f) := if_pos h
theorem cE_i (E : gE) (n k : Nat) (f : Nat → Int32) (h : n < 1000) : cE E (1000 + n) k f = .inl (E.2.1 0, n, .inl f) := by
  unfold cE; rw [if_neg (by omega), if_pos (by omega), Nat.add_sub_cancel_left]
theorem cE_z (E : gE) (n k : Nat) (f : Nat → Int32) (h : n < 1000) : cE E (2000 + n) k f = .inl (E.2.1 1, n, .inl f) := by
  unfold cE; rw [if_neg (by omega), if_neg (by omega), if_pos (by omega), Nat.add_sub_cancel_left]
theorem cE_b (E : gE) (n k : Nat) (f : Nat → Int32) (h : n < 1000) : cE E (3000 + n) k f = .inl (E.2.1 2, n, .inl f) := by
  unfold cE; rw [if_neg (by omega), if_neg (by omega), if_neg (by omega), if_pos (by omega), Nat.add_sub_cancel_left]
def gws (E : gE) (F : gS) : va_W := (List.range 150).map (fun k => (ad E k, cE E (kd k) k (F k)))
theorem gws_at (E : gE) (F : gS) {k : Nat} (h : k < 150) : (gws E F)[k]? = some (ad E k, cE E (kd k) k (F k)) := by
  unfold gws
  rw [List.getElem?_map, List.getElem?_range h]
  rfl
/-- a row put in place of cell k's -/
def upR (F : gS) (k : Nat) (f : Nat → Int32) : gS := fun q => if q = k then f else F q
/-- the number v at place j of cell k -/
def upF (F : gS) (k j : Nat) (v : Int32) : gS := fun q => if q = k then upd (F k) j v else F q
theorem gws_set (E : gE) (F : gS) {k : Nat} (f : Nat → Int32) : (gws E F).set k (ad E k, cE E (kd k) k f) = gws E (upR F k f) := by
  apply List.ext_getElem?
  intro i
  rw [List.getElem?_set]
  by_cases hk : k < 150
  · by_cases hi : k = i
    · subst hi
      have hl : k < (gws E F).length := by unfold gws; simp; exact hk
      rw [if_pos rfl, if_pos hl, gws_at E _ hk]
      unfold upR
      rw [if_pos rfl]
    · rw [if_neg hi]
      by_cases h : i < 150
      · rw [gws_at E _ h, gws_at E _ h]
        unfold upR
        rw [if_neg (Ne.symm hi)]
      · rw [List.getElem?_eq_none (by unfold gws; simp; omega), List.getElem?_eq_none (by unfold gws; simp; omega)]
  · by_cases hi : k = i
    · subst hi
      have hl : ¬ k < (gws E F).length := by unfold gws; simp; omega
      rw [if_pos rfl, if_neg hl, List.getElem?_eq_none (by unfold gws; simp; omega)]
    · rw [if_neg hi]
      by_cases h : i < 150
      · rw [gws_at E _ h, gws_at E _ h]
        unfold upR
        rw [if_neg (Ne.symm hi)]
      · rw [List.getElem?_eq_none (by unfold gws; simp; omega), List.getElem?_eq_none (by unfold gws; simp; omega)]
def gT (E : gE) : List (ClassId × FieldType) := [(E.2.1 0, .int), (E.2.1 1, .boolean), (E.2.1 2, .byte), (E.2.1 3, .object "FirstPancake$Plan"), (E.2.1 4, .object "FirstPancake$Cake")]
def gWorth : List Int32 := [10, 4, 6, 1, 5, 2]
def gAbove : List Int32 := [0, 0, 0, 2, 0, 4]
def gMost : List Int32 := [0, 9, 60, 60, 60]
def gText : List (List Int32) := [[110, 101, 115, 119], [102, 97, 116, 117]]
/-- what lies below the first new cell, and never changes -/
def gZ (E : gE) (s : State) (H : Heap) : Prop :=
  va_Z "FirstPancake" "WORTHS" "[I" (.ref (E.2.2.2 1)) (gA E) s H ∧ va_T .int (E.2.2.2 1) 6 (fun j => .int (gWorth.getD j 0)) (gA E) s H ∧
  va_Z "FirstPancake" "ABOVE" "[I" (.ref (E.2.2.2 2)) (gA E) s H ∧ va_T .int (E.2.2.2 2) 6 (fun j => .int (gAbove.getD j 0)) (gA E) s H ∧
  va_Z "FirstPancake$PlanText" "MOST" "[I" (.ref (E.2.2.2 3)) (gA E) s H ∧ va_T .int (E.2.2.2 3) 5 (fun j => .int (gMost.getD j 0)) (gA E) s H ∧
  va_Z "java/lang/String" "COMPACT_STRINGS" "Z" (.int 1) (gA E) s H ∧ va_Zq "jdk/internal/util/Preconditions" "SIOOBE_FORMATTER" "Ljava/util/function/BiFunction;" (gA E) s H ∧
  vk_S 2 [4, 4] gText (fun i => E.2.2.2 (4 + i)) (fun i => E.2.2.2 (6 + i)) (gA E) s H
theorem gZ.moved {E : gE} {u U : State} {H : Heap} (hvm : u.vm.Alike U.vm) (h : gZ E u H) : gZ E U H := by
  obtain ⟨h1, h2, h3, h4, h5, h6, h7, h8, h9⟩ := h
  exact ⟨h1.moved hvm, h2.moved hvm, h3.moved hvm, h4.moved hvm, h5.moved hvm, h6.moved hvm, h7.moved hvm, h8.moved hvm, h9.moved hvm⟩
theorem gZ.kept {E : gE} {U : State} {H H1 : Heap} (h : gZ E U H) (hq : ∀ a : Nat, a < H.size → ¬ gA E a → H1[a]? = H[a]?) : gZ E U H1 := by
  obtain ⟨h1, h2, h3, h4, h5, h6, h7, h8, h9⟩ := h
  exact ⟨h1.kept hq, h2.kept hq, h3.kept hq, h4.kept hq, h5.kept hq, h6.kept hq, h7.kept hq, h8.kept hq, h9.kept hq⟩
/-- what every method's start brings along beside its cells -/
def gC (E : gE) (s : State) : Prop :=
  va_K E.1 vwCl (gT E) s ∧ (∀ i j : Nat, i < 150 → j < 150 → ad E i = ad E j → i = j) ∧ (∀ i : Nat, i < 150 → gA E (ad E i)) ∧ gZ E s s.heap ∧
  (∀ w ∈ lw_tbl, isN w = true → va_Nw w s) ∧ vk_R "FirstPancake$PlanText" 38 "nesw" (E.2.2.2 4) s ∧ vk_R "FirstPancake$PlanText" 55 "fatu" (E.2.2.2 5) s
theorem gC.same {E : gE} {u U : State} (hv : U.vm = u.vm) (hh : U.heap = u.heap) (h : gC E u) : gC E U := by
  obtain ⟨h1, h2, h3, h4, h5, h6, h7⟩ := h
  have hal : u.vm.Alike U.vm := by rw [hv]; exact Vm.Alike.refl _
  exact ⟨h1.moved hal, h2, h3, by rw [hh]; exact h4.moved hal, fun w hw hn => va_Nw.same (nw_tab hn) hv.symm (h5 w hw hn), h6.same hv, h7.same hv⟩
theorem gC.call {E : gE} {s U : State} {H : Heap} {locs : List Loc} (h : gC E s) (hS : va_S (gA E) s.heap H locs) (hU : U.heap = H) (hW : s.WarmedH U.vm) : gC E U := by
  obtain ⟨h1, h2, h3, h4, h5, h6, h7⟩ := h
  refine ⟨h1.moved hW.alike, h2, h3, ?_, fun w hw hn => nw_warm hn hW (h5 w hw hn), h6.warm hW, h7.warm hW⟩
  rw [hU]
  exact (h4.kept (fun a h1 h2 => hS.2.1 a h1 h2)).moved hW.alike
theorem gD {E : gE} {s : State} (h : gC E s) (F : gS) : va_D (gA E) (gws E F) := by
  have key : ∀ (k : Nat) (q : Nat × va_E), (gws E F)[k]? = some q → k < 150 ∧ q.1 = ad E k := by
    intro k q hk
    rcases Nat.lt_or_ge k 150 with z | z
    · rw [gws_at E F z] at hk
      cases hk
      exact ⟨z, rfl⟩
    · rw [List.getElem?_eq_none (by unfold gws; simp; omega)] at hk
      cases hk
  refine ⟨fun i j p q hi hj hpq => ?_, fun k q hk => ?_⟩
  · obtain ⟨a1, a2⟩ := key i p hi
    obtain ⟨b1, b2⟩ := key j q hj
    exact h.2.1 i j a1 b1 (by rw [← a2, ← b2]; exact hpq)
  · obtain ⟨a1, a2⟩ := key k q hk
    rw [a2]
    exact h.2.2.1 k a1
def gP (E : gE) (F : gS) (U : State) : Prop := va_P E.1 vwCl (gws E F) U.heap ∧ gC E U
def gB (E : gE) (F : gS) (t : State) : Prop := va_P E.1 vwCl (gws E F) t.heap
theorem gP_blind (E : gE) (F : gS) (av : List Value) : FrameBlind (va_Pc av (gP E F)) := fun a U g mk q => ⟨q.1, q.2.1, gC.same (u := U) rfl rfl q.2.2⟩
/-- what a walk stands on -/
def CX (p : Program) (s : State) (m : MethodId) (args : Array Value) (meth : Method) (c : Code) (cc : ByteArray) (own : String) (ret : Option FieldType) (E : gE) (nL : Nat) : Prop :=
  p.tables.exec = Jvm.exec ∧ c.code = cc ∧ c.maxLocals = nL ∧ s.vm.findClass own = some m.cls ∧ (∀ w ∈ tblG, w.before args s = true) ∧ gC E s ∧ meth.sig.returnType = ret ∧ meth.locks = false
/-- the machine at pc, with the state F in the cells, these locals, this stack: it comes to Q -/
def VV (p : Program) (l : Launch) (e : Env) (R : Room) (s : State) (m : MethodId) (args : Array Value) (below : List Frame) (meth : Method) (c : Code) (nc ns : Nat) (Q : State → Prop) (E : gE) (nL : Nat) (F : gS) (pc : Nat) (lv : List (Nat × Value)) (st : List Value) : Prop :=
  ∀ (H : Heap) (locs : List Loc) (ls : Array Slot), va_P E.1 vwCl (gws E F) H → va_S (gA E) s.heap H locs → lv_has ls nL lv → W p l e R s m args below meth c H locs nc ns Q (F0 m pc ls st)
/-- a value gets a name -/
abbrev Nm {α : Type} (x : α) (P : α → Prop) : Prop := P x
section VR
variable {p : Program} {l : Launch} {e : Env} {R : Room} {s : State} {m : MethodId} {args : Array Value} {below : List Frame} {meth : Method} {c : Code} {nc ns : Nat} {Q : State → Prop} {E : gE} {nL : Nat} {F : gS} {pc : Nat} {lv : List (Nat × Value)} {st : List Value}
variable {cc : ByteArray} {own : String} {ret : Option FieldType}
theorem v_sub {lv' : List (Nat × Value)} (ks : List Nat) (h : lv_pick lv ks = lv') (kk : VV p l e R s m args below meth c nc ns Q E nL F pc lv' st) : VV p l e R s m args below meth c nc ns Q E nL F pc lv st :=
  fun H locs ls hP hS hl => kk H locs ls hP hS (lv_sub hl ks h)
theorem v_nmi {x : Int32} {P : Int32 → Prop} (h : Nm x P) (kk : ∀ y, P y → VV p l e R s m args below meth c nc ns Q E nL F pc lv (.int y :: st)) : VV p l e R s m args below meth c nc ns Q E nL F pc lv (.int x :: st) := kk x h
theorem v_nml {x : Int64} {P : Int64 → Prop} (h : Nm x P) (kk : ∀ y, P y → VV p l e R s m args below meth c nc ns Q E nL F pc lv (.long y :: st)) : VV p l e R s m args below meth c nc ns Q E nL F pc lv (.long x :: st) := kk x h
theorem v_nmF {P : gS → Prop} (h : Nm F P) (kk : ∀ G, P G → VV p l e R s m args below meth c nc ns Q E nL G pc lv st) : VV p l e R s m args below meth c nc ns Q E nL F pc lv st := kk F h
theorem v_iconst (hC : CX p s m args meth c cc own ret E nL) {n : Int} {v : Int32} (hd : decode cc pc = .ok (.iconst n, 1)) (hv : Int32.ofInt n = v) (kk : VV p l e R s m args below meth c nc ns Q E nL F (pc + 1) lv (.int v :: st)) : VV p l e R s m args below meth c nc ns Q E nL F pc lv st :=
  fun H locs ls hP hS hl => lv_iconst hC.1 hC.2.1 hd hv (kk H locs ls hP hS hl)
theorem v_bipush (hC : CX p s m args meth c cc own ret E nL) {n : Int} {v : Int32} (hd : decode cc pc = .ok (.bipush n, 2)) (hv : (Int8.ofInt n).toInt32 = v) (kk : VV p l e R s m args below meth c nc ns Q E nL F (pc + 2) lv (.int v :: st)) : VV p l e R s m args below meth c nc ns Q E nL F pc lv st :=
  fun H locs ls hP hS hl => lv_bipush hC.1 hC.2.1 hd hv (kk H locs ls hP hS hl)
theorem v_sipush (hC : CX p s m args meth c cc own ret E nL) {n : Int} {v : Int32} (hd : decode cc pc = .ok (.sipush n, 3)) (hv : (Int16.ofInt n).toInt32 = v) (kk : VV p l e R s m args below meth c nc ns Q E nL F (pc + 3) lv (.int v :: st)) : VV p l e R s m args below meth c nc ns Q E nL F pc lv st :=
  fun H locs ls hP hS hl => lv_sipush hC.1 hC.2.1 hd hv (kk H locs ls hP hS hl)
theorem v_ldc (hC : CX p s m args meth c cc own ret E nL) {index : Nat} {v : Int32} (hw : Jvm.Cond.constant own index v ∈ tblG) (hd : decode cc pc = .ok (.ldc index, 2)) (kk : VV p l e R s m args below meth c nc ns Q E nL F (pc + 2) lv (.int v :: st)) : VV p l e R s m args below meth c nc ns Q E nL F pc lv st :=
  fun H locs ls hP hS hl => lv_ldc hC.1 hC.2.1 hC.2.2.2.1 (hC.2.2.2.2.1 _ hw) hd (kk H locs ls hP hS hl)
theorem v_ldc2 (hC : CX p s m args meth c cc own ret E nL) {index : Nat} {v : Int64} (hw : Jvm.Cond.constantLong own index v ∈ tblG) (hd : decode cc pc = .ok (.ldc2_w index, 3)) (kk : VV p l e R s m args below meth c nc ns Q E nL F (pc + 3) lv (.long v :: st)) : VV p l e R s m args below meth c nc ns Q E nL F pc lv st :=
  fun H locs ls hP hS hl => lv_ldc2 hC.1 hC.2.1 hC.2.2.2.1 (hC.2.2.2.2.1 _ hw) hd (kk H locs ls hP hS hl)
theorem v_iload_n (hC : CX p s m args meth c cc own ret E nL) {k : Fin 4} {i : Nat} {x : Int32} (hd : decode cc pc = .ok (.iload_n k, 1)) (hi : (k : Nat) = i) (j : Nat) (hj : lv[j]? = some (i, .int x)) (kk : VV p l e R s m args below meth c nc ns Q E nL F (pc + 1) lv (.int x :: st)) : VV p l e R s m args below meth c nc ns Q E nL F pc lv st :=
  fun H locs ls hP hS hl => lv_iload_n hC.1 hC.2.1 hd hi (lv_at hl j hj) (kk H locs ls hP hS hl)
theorem v_iload (hC : CX p s m args meth c cc own ret E nL) {i : Nat} {x : Int32} (hd : decode cc pc = .ok (.iload i, 2)) (j : Nat) (hj : lv[j]? = some (i, .int x)) (kk : VV p l e R s m args below meth c nc ns Q E nL F (pc + 2) lv (.int x :: st)) : VV p l e R s m args below meth c nc ns Q E nL F pc lv st :=
  fun H locs ls hP hS hl => lv_iload hC.1 hC.2.1 hd (lv_at hl j hj) (kk H locs ls hP hS hl)
theorem v_lload_n (hC : CX p s m args meth c cc own ret E nL) {k : Fin 4} {i : Nat} {x : Int64} (hd : decode cc pc = .ok (.lload_n k, 1)) (hi : (k : Nat) = i) (j : Nat) (hj : lv[j]? = some (i, .long x)) (kk : VV p l e R s m args below meth c nc ns Q E nL F (pc + 1) lv (.long x :: st)) : VV p l e R s m args below meth c nc ns Q E nL F pc lv st :=
  fun H locs ls hP hS hl => lv_lload_n hC.1 hC.2.1 hd hi (lv_at hl j hj) (kk H locs ls hP hS hl)
theorem v_aload_n (hC : CX p s m args meth c cc own ret E nL) {k : Fin 4} {i : Nat} {x : Nat} (hd : decode cc pc = .ok (.aload_n k, 1)) (hi : (k : Nat) = i) (j : Nat) (hj : lv[j]? = some (i, .ref x)) (kk : VV p l e R s m args below meth c nc ns Q E nL F (pc + 1) lv (.ref x :: st)) : VV p l e R s m args below meth c nc ns Q E nL F pc lv st :=
  fun H locs ls hP hS hl => lv_aload_n hC.1 hC.2.1 hd hi (lv_at hl j hj) (kk H locs ls hP hS hl)
theorem v_aload (hC : CX p s m args meth c cc own ret E nL) {i : Nat} {x : Nat} (hd : decode cc pc = .ok (.aload i, 2)) (j : Nat) (hj : lv[j]? = some (i, .ref x)) (kk : VV p l e R s m args below meth c nc ns Q E nL F (pc + 2) lv (.ref x :: st)) : VV p l e R s m args below meth c nc ns Q E nL F pc lv st :=
  fun H locs ls hP hS hl => lv_aload hC.1 hC.2.1 hd (lv_at hl j hj) (kk H locs ls hP hS hl)
theorem v_istore_n (hC : CX p s m args meth c cc own ret E nL) {k : Fin 4} {i : Nat} {x : Int32} {lv' : List (Nat × Value)} (hd : decode cc pc = .ok (.istore_n k, 1)) (hi : (k : Nat) = i) (hn : i < nL) (hl' : (i, Value.int x) :: lv.filter (fun q => !(q.1 == i) && !(q.1 + 1 == i && q.2.category == 2)) = lv') (kk : VV p l e R s m args below meth c nc ns Q E nL F (pc + 1) lv' st) : VV p l e R s m args below meth c nc ns Q E nL F pc lv (.int x :: st) :=
  fun H locs ls hP hS hl => lv_istore_n hC.1 hC.2.1 hd hi hl hn hl' (fun ls' h' => kk H locs ls' hP hS h')
theorem v_istore (hC : CX p s m args meth c cc own ret E nL) {i : Nat} {x : Int32} {lv' : List (Nat × Value)} (hd : decode cc pc = .ok (.istore i, 2)) (hn : i < nL) (hl' : (i, Value.int x) :: lv.filter (fun q => !(q.1 == i) && !(q.1 + 1 == i && q.2.category == 2)) = lv') (kk : VV p l e R s m args below meth c nc ns Q E nL F (pc + 2) lv' st) : VV p l e R s m args below meth c nc ns Q E nL F pc lv (.int x :: st) :=
  fun H locs ls hP hS hl => lv_istore hC.1 hC.2.1 hd hl hn hl' (fun ls' h' => kk H locs ls' hP hS h')
theorem v_lstore_n (hC : CX p s m args meth c cc own ret E nL) {k : Fin 4} {i : Nat} {x : Int64} {lv' : List (Nat × Value)} (hd : decode cc pc = .ok (.lstore_n k, 1)) (hi : (k : Nat) = i) (hn : i + 1 < nL) (hl' : (i, Value.long x) :: lv.filter (fun q => !(q.1 == i) && (!(q.1 == i + 1) && !(q.1 + 1 == i && q.2.category == 2))) = lv') (kk : VV p l e R s m args below meth c nc ns Q E nL F (pc + 1) lv' st) : VV p l e R s m args below meth c nc ns Q E nL F pc lv (.long x :: st) :=
  fun H locs ls hP hS hl => lv_lstore_n hC.1 hC.2.1 hd hi hl hn hl' (fun ls' h' => kk H locs ls' hP hS h')
theorem v_astore_n (hC : CX p s m args meth c cc own ret E nL) {k : Fin 4} {i : Nat} {x : Nat} {lv' : List (Nat × Value)} (hd : decode cc pc = .ok (.astore_n k, 1)) (hi : (k : Nat) = i) (hn : i < nL) (hl' : (i, Value.ref x) :: lv.filter (fun q => !(q.1 == i) && !(q.1 + 1 == i && q.2.category == 2)) = lv') (kk : VV p l e R s m args below meth c nc ns Q E nL F (pc + 1) lv' st) : VV p l e R s m args below meth c nc ns Q E nL F pc lv (.ref x :: st) :=
  fun H locs ls hP hS hl => lv_astore_n hC.1 hC.2.1 hd hi hl hn hl' (fun ls' h' => kk H locs ls' hP hS h')
theorem v_astore (hC : CX p s m args meth c cc own ret E nL) {i : Nat} {x : Nat} {lv' : List (Nat × Value)} (hd : decode cc pc = .ok (.astore i, 2)) (hn : i < nL) (hl' : (i, Value.ref x) :: lv.filter (fun q => !(q.1 == i) && !(q.1 + 1 == i && q.2.category == 2)) = lv') (kk : VV p l e R s m args below meth c nc ns Q E nL F (pc + 2) lv' st) : VV p l e R s m args below meth c nc ns Q E nL F pc lv (.ref x :: st) :=
  fun H locs ls hP hS hl => lv_astore hC.1 hC.2.1 hd hl hn hl' (fun ls' h' => kk H locs ls' hP hS h')
theorem v_iinc (hC : CX p s m args meth c cc own ret E nL) {i : Nat} {n : Int} {x v : Int32} {P : Int32 → Prop} (lv' : Int32 → List (Nat × Value)) (hd : decode cc pc = .ok (.iinc i n, 3)) (j : Nat) (hj : lv[j]? = some (i, .int x)) (hn : i < nL) (hv : Int32.ofInt n = v) (hl' : ∀ z, (i, Value.int z) :: lv.filter (fun q => !(q.1 == i) && !(q.1 + 1 == i && q.2.category == 2)) = lv' z) (h : Nm (x + v) P) (kk : ∀ z, P z → VV p l e R s m args below meth c nc ns Q E nL F (pc + 3) (lv' z) st) : VV p l e R s m args below meth c nc ns Q E nL F pc lv st :=
  fun H locs ls hP hS hl => lv_iinc hC.1 hC.2.1 hd hl hj (by rw [hv]) hn (hl' (x + v)) (fun ls' h' => kk _ h H locs ls' hP hS h')
theorem v_iadd (hC : CX p s m args meth c cc own ret E nL) {x y : Int32} (hd : decode cc pc = .ok (.iadd, 1)) (kk : VV p l e R s m args below meth c nc ns Q E nL F (pc + 1) lv (.int (x + y) :: st)) : VV p l e R s m args below meth c nc ns Q E nL F pc lv (.int y :: .int x :: st) :=
  fun H locs ls hP hS hl => lv_iadd hC.1 hC.2.1 hd (kk H locs ls hP hS hl)
theorem v_isub (hC : CX p s m args meth c cc own ret E nL) {x y : Int32} (hd : decode cc pc = .ok (.isub, 1)) (kk : VV p l e R s m args below meth c nc ns Q E nL F (pc + 1) lv (.int (x - y) :: st)) : VV p l e R s m args below meth c nc ns Q E nL F pc lv (.int y :: .int x :: st) :=
  fun H locs ls hP hS hl => lv_isub hC.1 hC.2.1 hd (kk H locs ls hP hS hl)
theorem v_imul (hC : CX p s m args meth c cc own ret E nL) {x y : Int32} (hd : decode cc pc = .ok (.imul, 1)) (kk : VV p l e R s m args below meth c nc ns Q E nL F (pc + 1) lv (.int (x * y) :: st)) : VV p l e R s m args below meth c nc ns Q E nL F pc lv (.int y :: .int x :: st) :=
  fun H locs ls hP hS hl => lv_imul hC.1 hC.2.1 hd (kk H locs ls hP hS hl)
theorem v_iand (hC : CX p s m args meth c cc own ret E nL) {x y : Int32} (hd : decode cc pc = .ok (.iand, 1)) (kk : VV p l e R s m args below meth c nc ns Q E nL F (pc + 1) lv (.int (x &&& y) :: st)) : VV p l e R s m args below meth c nc ns Q E nL F pc lv (.int y :: .int x :: st) :=
  fun H locs ls hP hS hl => lv_iand hC.1 hC.2.1 hd (kk H locs ls hP hS hl)
theorem v_ishl (hC : CX p s m args meth c cc own ret E nL) {x y : Int32} (hd : decode cc pc = .ok (.ishl, 1)) (kk : VV p l e R s m args below meth c nc ns Q E nL F (pc + 1) lv (.int (x <<< (y &&& 31)) :: st)) : VV p l e R s m args below meth c nc ns Q E nL F pc lv (.int y :: .int x :: st) :=
  fun H locs ls hP hS hl => lv_ishl hC.1 hC.2.1 hd (kk H locs ls hP hS hl)
theorem v_ishr (hC : CX p s m args meth c cc own ret E nL) {x y : Int32} (hd : decode cc pc = .ok (.ishr, 1)) (kk : VV p l e R s m args below meth c nc ns Q E nL F (pc + 1) lv (.int (x >>> (y &&& 31)) :: st)) : VV p l e R s m args below meth c nc ns Q E nL F pc lv (.int y :: .int x :: st) :=
  fun H locs ls hP hS hl => lv_ishr hC.1 hC.2.1 hd (kk H locs ls hP hS hl)
theorem v_idiv (hC : CX p s m args meth c cc own ret E nL) {x y : Int32} {P : Prop} (hd : decode cc pc = .ok (.idiv, 1)) (h : ¬ y = 0 ∧ P) (kk : P → VV p l e R s m args below meth c nc ns Q E nL F (pc + 1) lv (.int (x / y) :: st)) : VV p l e R s m args below meth c nc ns Q E nL F pc lv (.int y :: .int x :: st) :=
  fun H locs ls hP hS hl => lv_idiv hC.1 hC.2.1 hd h.1 (kk h.2 H locs ls hP hS hl)
theorem v_irem (hC : CX p s m args meth c cc own ret E nL) {x y : Int32} {P : Prop} (hd : decode cc pc = .ok (.irem, 1)) (h : ¬ y = 0 ∧ P) (kk : P → VV p l e R s m args below meth c nc ns Q E nL F (pc + 1) lv (.int (x - x / y * y) :: st)) : VV p l e R s m args below meth c nc ns Q E nL F pc lv (.int y :: .int x :: st) :=
  fun H locs ls hP hS hl => lv_irem hC.1 hC.2.1 hd h.1 (kk h.2 H locs ls hP hS hl)
theorem v_ladd (hC : CX p s m args meth c cc own ret E nL) {x y : Int64} (hd : decode cc pc = .ok (.ladd, 1)) (kk : VV p l e R s m args below meth c nc ns Q E nL F (pc + 1) lv (.long (x + y) :: st)) : VV p l e R s m args below meth c nc ns Q E nL F pc lv (.long y :: .long x :: st) :=
  fun H locs ls hP hS hl => lv_ladd hC.1 hC.2.1 hd (kk H locs ls hP hS hl)
theorem v_lmul (hC : CX p s m args meth c cc own ret E nL) {x y : Int64} (hd : decode cc pc = .ok (.lmul, 1)) (kk : VV p l e R s m args below meth c nc ns Q E nL F (pc + 1) lv (.long (x * y) :: st)) : VV p l e R s m args below meth c nc ns Q E nL F pc lv (.long y :: .long x :: st) :=
  fun H locs ls hP hS hl => lv_lmul hC.1 hC.2.1 hd (kk H locs ls hP hS hl)
theorem v_land (hC : CX p s m args meth c cc own ret E nL) {x y : Int64} (hd : decode cc pc = .ok (.land, 1)) (kk : VV p l e R s m args below meth c nc ns Q E nL F (pc + 1) lv (.long (x &&& y) :: st)) : VV p l e R s m args below meth c nc ns Q E nL F pc lv (.long y :: .long x :: st) :=
  fun H locs ls hP hS hl => lv_land hC.1 hC.2.1 hd (kk H locs ls hP hS hl)
theorem v_lor (hC : CX p s m args meth c cc own ret E nL) {x y : Int64} (hd : decode cc pc = .ok (.lor, 1)) (kk : VV p l e R s m args below meth c nc ns Q E nL F (pc + 1) lv (.long (x ||| y) :: st)) : VV p l e R s m args below meth c nc ns Q E nL F pc lv (.long y :: .long x :: st) :=
  fun H locs ls hP hS hl => lv_lor hC.1 hC.2.1 hd (kk H locs ls hP hS hl)
theorem v_lshl (hC : CX p s m args meth c cc own ret E nL) {x : Int64} {y : Int32} (hd : decode cc pc = .ok (.lshl, 1)) (kk : VV p l e R s m args below meth c nc ns Q E nL F (pc + 1) lv (.long (x <<< (y.toInt64 &&& 63)) :: st)) : VV p l e R s m args below meth c nc ns Q E nL F pc lv (.int y :: .long x :: st) :=
  fun H locs ls hP hS hl => lv_lshl hC.1 hC.2.1 hd rfl (kk H locs ls hP hS hl)
theorem v_lshr (hC : CX p s m args meth c cc own ret E nL) {x : Int64} {y : Int32} (hd : decode cc pc = .ok (.lshr, 1)) (kk : VV p l e R s m args below meth c nc ns Q E nL F (pc + 1) lv (.long (x >>> (y.toInt64 &&& 63)) :: st)) : VV p l e R s m args below meth c nc ns Q E nL F pc lv (.int y :: .long x :: st) :=
  fun H locs ls hP hS hl => lv_lshr hC.1 hC.2.1 hd rfl (kk H locs ls hP hS hl)
theorem v_lushr (hC : CX p s m args meth c cc own ret E nL) {x : Int64} {y : Int32} (hd : decode cc pc = .ok (.lushr, 1)) (kk : VV p l e R s m args below meth c nc ns Q E nL F (pc + 1) lv (.long (x.toUInt64 >>> (y.toInt64.toUInt64 &&& Int64.toUInt64 63)).toInt64 :: st)) : VV p l e R s m args below meth c nc ns Q E nL F pc lv (.int y :: .long x :: st) :=
  fun H locs ls hP hS hl => lv_lushr hC.1 hC.2.1 hd rfl (kk H locs ls hP hS hl)
theorem v_i2l (hC : CX p s m args meth c cc own ret E nL) {x : Int32} (hd : decode cc pc = .ok (.i2l, 1)) (kk : VV p l e R s m args below meth c nc ns Q E nL F (pc + 1) lv (.long x.toInt64 :: st)) : VV p l e R s m args below meth c nc ns Q E nL F pc lv (.int x :: st) :=
  fun H locs ls hP hS hl => lv_i2l hC.1 hC.2.1 hd rfl (kk H locs ls hP hS hl)
theorem v_l2i (hC : CX p s m args meth c cc own ret E nL) {x : Int64} (hd : decode cc pc = .ok (.l2i, 1)) (kk : VV p l e R s m args below meth c nc ns Q E nL F (pc + 1) lv (.int x.toInt32 :: st)) : VV p l e R s m args below meth c nc ns Q E nL F pc lv (.long x :: st) :=
  fun H locs ls hP hS hl => lv_l2i hC.1 hC.2.1 hd rfl (kk H locs ls hP hS hl)
theorem v_i2b (hC : CX p s m args meth c cc own ret E nL) {x : Int32} (hd : decode cc pc = .ok (.i2b, 1)) (kk : VV p l e R s m args below meth c nc ns Q E nL F (pc + 1) lv (.int x.toInt8.toInt32 :: st)) : VV p l e R s m args below meth c nc ns Q E nL F pc lv (.int x :: st) :=
  fun H locs ls hP hS hl => lv_i2b hC.1 hC.2.1 hd rfl (kk H locs ls hP hS hl)
theorem v_i2c (hC : CX p s m args meth c cc own ret E nL) {x : Int32} (hd : decode cc pc = .ok (.i2c, 1)) (kk : VV p l e R s m args below meth c nc ns Q E nL F (pc + 1) lv (.int (x.toUInt32 % 65536).toInt32 :: st)) : VV p l e R s m args below meth c nc ns Q E nL F pc lv (.int x :: st) :=
  fun H locs ls hP hS hl => lv_i2c hC.1 hC.2.1 hd rfl (kk H locs ls hP hS hl)
theorem v_dup (hC : CX p s m args meth c cc own ret E nL) {va : Value} (hd : decode cc pc = .ok (.dup, 1)) (hva : va.category = 1) (kk : VV p l e R s m args below meth c nc ns Q E nL F (pc + 1) lv (va :: va :: st)) : VV p l e R s m args below meth c nc ns Q E nL F pc lv (va :: st) :=
  fun H locs ls hP hS hl => lv_dup hC.1 hC.2.1 hd hva (kk H locs ls hP hS hl)
theorem v_pop (hC : CX p s m args meth c cc own ret E nL) {va : Value} (hd : decode cc pc = .ok (.pop, 1)) (hva : va.category = 1) (kk : VV p l e R s m args below meth c nc ns Q E nL F (pc + 1) lv st) : VV p l e R s m args below meth c nc ns Q E nL F pc lv (va :: st) :=
  fun H locs ls hP hS hl => lv_pop hC.1 hC.2.1 hd hva (kk H locs ls hP hS hl)
theorem v_dup2 (hC : CX p s m args meth c cc own ret E nL) {va vb : Value} (hd : decode cc pc = .ok (.dup2, 1)) (hva : va.category = 1) (hvb : vb.category = 1) (kk : VV p l e R s m args below meth c nc ns Q E nL F (pc + 1) lv (va :: vb :: va :: vb :: st)) : VV p l e R s m args below meth c nc ns Q E nL F pc lv (va :: vb :: st) :=
  fun H locs ls hP hS hl => lv_dup2_11 hC.1 hC.2.1 hd hva hvb (kk H locs ls hP hS hl)
theorem v_goto (hC : CX p s m args meth c cc own ret E nL) {off : Int} {tgt : Nat} (hd : decode cc pc = .ok (.goto off, 3)) (ht : (pc : Int) + off = (tgt : Int)) (kk : VV p l e R s m args below meth c nc ns Q E nL F tgt lv st) : VV p l e R s m args below meth c nc ns Q E nL F pc lv st :=
  fun H locs ls hP hS hl => lv_goto hC.1 hC.2.1 hd ht (kk H locs ls hP hS hl)
theorem v_if_eq (hC : CX p s m args meth c cc own ret E nL) {x : Int32} {off : Int} {tgt : Nat} {A B : Prop} (hd : decode cc pc = .ok (.ifCond .eq off, 3)) (ht : (pc : Int) + off = (tgt : Int)) (h : if x = 0 then A else B) (kt : A → VV p l e R s m args below meth c nc ns Q E nL F tgt lv st) (kf : B → VV p l e R s m args below meth c nc ns Q E nL F (pc + 3) lv st) : VV p l e R s m args below meth c nc ns Q E nL F pc lv (.int x :: st) :=
  fun H locs ls hP hS hl => lv_if_eq hC.1 hC.2.1 hd ht (fun q => kt (by rwa [if_pos q] at h) H locs ls hP hS hl) (fun q => kf (by rwa [if_neg q] at h) H locs ls hP hS hl)
theorem v_if_ne (hC : CX p s m args meth c cc own ret E nL) {x : Int32} {off : Int} {tgt : Nat} {A B : Prop} (hd : decode cc pc = .ok (.ifCond .ne off, 3)) (ht : (pc : Int) + off = (tgt : Int)) (h : if x = 0 then A else B) (kt : B → VV p l e R s m args below meth c nc ns Q E nL F tgt lv st) (kf : A → VV p l e R s m args below meth c nc ns Q E nL F (pc + 3) lv st) : VV p l e R s m args below meth c nc ns Q E nL F pc lv (.int x :: st) :=
  fun H locs ls hP hS hl => lv_if_ne hC.1 hC.2.1 hd ht (fun q => kt (by rwa [if_neg q] at h) H locs ls hP hS hl) (fun q => kf (by rwa [if_pos q] at h) H locs ls hP hS hl)
theorem v_if_lt (hC : CX p s m args meth c cc own ret E nL) {x : Int32} {off : Int} {tgt : Nat} {A B : Prop} (hd : decode cc pc = .ok (.ifCond .lt off, 3)) (ht : (pc : Int) + off = (tgt : Int)) (h : if x < 0 then A else B) (kt : A → VV p l e R s m args below meth c nc ns Q E nL F tgt lv st) (kf : B → VV p l e R s m args below meth c nc ns Q E nL F (pc + 3) lv st) : VV p l e R s m args below meth c nc ns Q E nL F pc lv (.int x :: st) :=
  fun H locs ls hP hS hl => lv_if_lt hC.1 hC.2.1 hd ht (fun q => kt (by rwa [if_pos q] at h) H locs ls hP hS hl) (fun q => kf (by rwa [if_neg q] at h) H locs ls hP hS hl)
theorem v_if_ge (hC : CX p s m args meth c cc own ret E nL) {x : Int32} {off : Int} {tgt : Nat} {A B : Prop} (hd : decode cc pc = .ok (.ifCond .ge off, 3)) (ht : (pc : Int) + off = (tgt : Int)) (h : if 0 ≤ x then A else B) (kt : A → VV p l e R s m args below meth c nc ns Q E nL F tgt lv st) (kf : B → VV p l e R s m args below meth c nc ns Q E nL F (pc + 3) lv st) : VV p l e R s m args below meth c nc ns Q E nL F pc lv (.int x :: st) :=
  fun H locs ls hP hS hl => lv_if_ge hC.1 hC.2.1 hd ht (fun q => kt (by rwa [if_pos q] at h) H locs ls hP hS hl) (fun q => kf (by rwa [if_neg q] at h) H locs ls hP hS hl)
theorem v_if_gt (hC : CX p s m args meth c cc own ret E nL) {x : Int32} {off : Int} {tgt : Nat} {A B : Prop} (hd : decode cc pc = .ok (.ifCond .gt off, 3)) (ht : (pc : Int) + off = (tgt : Int)) (h : if 0 < x then A else B) (kt : A → VV p l e R s m args below meth c nc ns Q E nL F tgt lv st) (kf : B → VV p l e R s m args below meth c nc ns Q E nL F (pc + 3) lv st) : VV p l e R s m args below meth c nc ns Q E nL F pc lv (.int x :: st) :=
  fun H locs ls hP hS hl => lv_if_gt hC.1 hC.2.1 hd ht (fun q => kt (by rwa [if_pos q] at h) H locs ls hP hS hl) (fun q => kf (by rwa [if_neg q] at h) H locs ls hP hS hl)
theorem v_if_le (hC : CX p s m args meth c cc own ret E nL) {x : Int32} {off : Int} {tgt : Nat} {A B : Prop} (hd : decode cc pc = .ok (.ifCond .le off, 3)) (ht : (pc : Int) + off = (tgt : Int)) (h : if x ≤ 0 then A else B) (kt : A → VV p l e R s m args below meth c nc ns Q E nL F tgt lv st) (kf : B → VV p l e R s m args below meth c nc ns Q E nL F (pc + 3) lv st) : VV p l e R s m args below meth c nc ns Q E nL F pc lv (.int x :: st) :=
  fun H locs ls hP hS hl => lv_if_le hC.1 hC.2.1 hd ht (fun q => kt (by rwa [if_pos q] at h) H locs ls hP hS hl) (fun q => kf (by rwa [if_neg q] at h) H locs ls hP hS hl)
theorem v_ic_eq (hC : CX p s m args meth c cc own ret E nL) {x y : Int32} {off : Int} {tgt : Nat} {A B : Prop} (hd : decode cc pc = .ok (.if_icmp .eq off, 3)) (ht : (pc : Int) + off = (tgt : Int)) (h : if x = y then A else B) (kt : A → VV p l e R s m args below meth c nc ns Q E nL F tgt lv st) (kf : B → VV p l e R s m args below meth c nc ns Q E nL F (pc + 3) lv st) : VV p l e R s m args below meth c nc ns Q E nL F pc lv (.int y :: .int x :: st) :=
  fun H locs ls hP hS hl => lv_icmp_eq hC.1 hC.2.1 hd ht (fun q => kt (by rwa [if_pos q] at h) H locs ls hP hS hl) (fun q => kf (by rwa [if_neg q] at h) H locs ls hP hS hl)
theorem v_ic_ne (hC : CX p s m args meth c cc own ret E nL) {x y : Int32} {off : Int} {tgt : Nat} {A B : Prop} (hd : decode cc pc = .ok (.if_icmp .ne off, 3)) (ht : (pc : Int) + off = (tgt : Int)) (h : if x = y then A else B) (kt : B → VV p l e R s m args below meth c nc ns Q E nL F tgt lv st) (kf : A → VV p l e R s m args below meth c nc ns Q E nL F (pc + 3) lv st) : VV p l e R s m args below meth c nc ns Q E nL F pc lv (.int y :: .int x :: st) :=
  fun H locs ls hP hS hl => lv_icmp_ne hC.1 hC.2.1 hd ht (fun q => kt (by rwa [if_neg q] at h) H locs ls hP hS hl) (fun q => kf (by rwa [if_pos q] at h) H locs ls hP hS hl)
theorem v_ic_lt (hC : CX p s m args meth c cc own ret E nL) {x y : Int32} {off : Int} {tgt : Nat} {A B : Prop} (hd : decode cc pc = .ok (.if_icmp .lt off, 3)) (ht : (pc : Int) + off = (tgt : Int)) (h : if x < y then A else B) (kt : A → VV p l e R s m args below meth c nc ns Q E nL F tgt lv st) (kf : B → VV p l e R s m args below meth c nc ns Q E nL F (pc + 3) lv st) : VV p l e R s m args below meth c nc ns Q E nL F pc lv (.int y :: .int x :: st) :=
  fun H locs ls hP hS hl => lv_icmp_lt hC.1 hC.2.1 hd ht (fun q => kt (by rwa [if_pos q] at h) H locs ls hP hS hl) (fun q => kf (by rwa [if_neg q] at h) H locs ls hP hS hl)
theorem v_ic_ge (hC : CX p s m args meth c cc own ret E nL) {x y : Int32} {off : Int} {tgt : Nat} {A B : Prop} (hd : decode cc pc = .ok (.if_icmp .ge off, 3)) (ht : (pc : Int) + off = (tgt : Int)) (h : if y ≤ x then A else B) (kt : A → VV p l e R s m args below meth c nc ns Q E nL F tgt lv st) (kf : B → VV p l e R s m args below meth c nc ns Q E nL F (pc + 3) lv st) : VV p l e R s m args below meth c nc ns Q E nL F pc lv (.int y :: .int x :: st) :=
  fun H locs ls hP hS hl => lv_icmp_ge hC.1 hC.2.1 hd ht (fun q => kt (by rwa [if_pos q] at h) H locs ls hP hS hl) (fun q => kf (by rwa [if_neg q] at h) H locs ls hP hS hl)
theorem v_ic_gt (hC : CX p s m args meth c cc own ret E nL) {x y : Int32} {off : Int} {tgt : Nat} {A B : Prop} (hd : decode cc pc = .ok (.if_icmp .gt off, 3)) (ht : (pc : Int) + off = (tgt : Int)) (h : if y < x then A else B) (kt : A → VV p l e R s m args below meth c nc ns Q E nL F tgt lv st) (kf : B → VV p l e R s m args below meth c nc ns Q E nL F (pc + 3) lv st) : VV p l e R s m args below meth c nc ns Q E nL F pc lv (.int y :: .int x :: st) :=
  fun H locs ls hP hS hl => lv_icmp_gt hC.1 hC.2.1 hd ht (fun q => kt (by rwa [if_pos q] at h) H locs ls hP hS hl) (fun q => kf (by rwa [if_neg q] at h) H locs ls hP hS hl)
theorem v_ic_le (hC : CX p s m args meth c cc own ret E nL) {x y : Int32} {off : Int} {tgt : Nat} {A B : Prop} (hd : decode cc pc = .ok (.if_icmp .le off, 3)) (ht : (pc : Int) + off = (tgt : Int)) (h : if x ≤ y then A else B) (kt : A → VV p l e R s m args below meth c nc ns Q E nL F tgt lv st) (kf : B → VV p l e R s m args below meth c nc ns Q E nL F (pc + 3) lv st) : VV p l e R s m args below meth c nc ns Q E nL F pc lv (.int y :: .int x :: st) :=
  fun H locs ls hP hS hl => lv_icmp_le hC.1 hC.2.1 hd ht (fun q => kt (by rwa [if_pos q] at h) H locs ls hP hS hl) (fun q => kf (by rwa [if_neg q] at h) H locs ls hP hS hl)
end VR
