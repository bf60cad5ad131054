/-! rounds: several pans for one pair of hands -/
abbrev RS : Type := (Nat → Nat) × (Nat → Nat) × Nat × Nat × Nat
def uN (f : Nat → Nat) (k v : Nat) : Nat → Nat := fun j => if j = k then v else f j
theorem uN_s {f : Nat → Nat} {k v : Nat} : uN f k v k = v := if_pos rfl
theorem uN_n {f : Nat → Nat} {k v j : Nat} (h : j ≠ k) : uN f k v j = f j := if_neg h
def lgN (a : Nat → Nat) : Nat → Nat
  | 0 => 0
  | p + 1 => if a (lgN a p) ≤ a p then lgN a p else p
theorem lgN_lt (a : Nat → Nat) : ∀ m, 1 ≤ m → lgN a m < m
  | 0, h => absurd h (by omega)
  | m + 1, _ => by
    show (if a (lgN a m) ≤ a m then lgN a m else m) < m + 1
    split
    · rcases Nat.eq_zero_or_pos m with z | z
      · subst z; show 0 < 1; omega
      · have := lgN_lt a m z; omega
    · omega
def sta (n : Nat) (S : RS) : Nat := if S.2.2.2.2 < S.1 (lgN S.1 n) then S.1 (lgN S.1 n) else S.2.2.2.2
def adT (f1 f2 t : Nat) : Nat := if t = 0 then f1 else if t = 1 then f2 else 0
def nxT (t : Nat) : Nat := if t = 2 then 0 else t + 1
def stp (n f1 f2 hs bt : Nat) (S : RS) : RS :=
  (uN S.1 (lgN S.1 n) (sta n S + hs + adT f1 f2 (S.2.1 (lgN S.1 n))), uN S.2.1 (lgN S.1 n) (nxT (S.2.1 (lgN S.1 n))), (if S.2.1 (lgN S.1 n) = 2 ∧ sta n S + hs ≤ bt then S.2.2.1 + 1 else S.2.2.1), (if S.2.2.2.1 < sta n S - S.1 (lgN S.1 n) then sta n S - S.1 (lgN S.1 n) else S.2.2.2.1), sta n S + hs)
def rrN (n f1 f2 hs bt : Nat) : Nat → RS → RS
  | 0, S => S
  | k + 1, S => if bt ≤ sta n S then S else rrN n f1 f2 hs bt k (stp n f1 f2 hs bt S)
def okR (S : RS) : Prop := (∀ p, p < 9 → S.1 p ≤ 1106 ∧ S.2.1 p ≤ 2) ∧ S.2.2.2.2 ≤ 1007 ∧ S.2.2.2.1 ≤ 1106 ∧ S.2.2.1 ≤ S.2.2.2.2
theorem sta_ge (n : Nat) (S : RS) : S.2.2.2.2 ≤ sta n S ∧ S.1 (lgN S.1 n) ≤ sta n S := by unfold sta; split <;> omega
theorem stp_ok {n f1 f2 hs bt : Nat} {S : RS} (hn : 1 ≤ n) (hn9 : n ≤ 9) (h1 : f1 ≤ 99) (h2 : f2 ≤ 99) (h3 : 1 ≤ hs) (h4 : hs ≤ 9) (hb : bt ≤ 999) (h : okR S) (hs2 : sta n S < bt) : okR (stp n f1 f2 hs bt S) := by
  obtain ⟨a1, a2, a3, a4⟩ := h
  have hl := lgN_lt S.1 n hn
  have hg := sta_ge n S
  have had : adT f1 f2 (S.2.1 (lgN S.1 n)) ≤ 99 := by unfold adT; split; exact h1; split; exact h2; omega
  have hnx : nxT (S.2.1 (lgN S.1 n)) ≤ 2 := by
    have := (a1 (lgN S.1 n) (by omega)).2
    unfold nxT; split <;> omega
  refine ⟨fun p hp => ⟨?_, ?_⟩, ?_, ?_, ?_⟩
  · show uN S.1 (lgN S.1 n) _ p ≤ 1106
    by_cases q : p = lgN S.1 n
    · rw [q, uN_s]; omega
    · rw [uN_n q]; exact (a1 p hp).1
  · show uN S.2.1 (lgN S.1 n) _ p ≤ 2
    by_cases q : p = lgN S.1 n
    · rw [q, uN_s]; exact hnx
    · rw [uN_n q]; exact (a1 p hp).2
  · show sta n S + hs ≤ 1007; omega
  · show (if _ then _ else _) ≤ 1106
    split
    · omega
    · exact a3
  · show (if S.2.1 (lgN S.1 n) = 2 ∧ sta n S + hs ≤ bt then S.2.2.1 + 1 else S.2.2.1) ≤ sta n S + hs
    split <;> omega
def rlX (F : gS) (x : Int32) (S : RS) : Prop := (∀ p, p < 9 → F 35 p = nI (S.1 p) ∧ F 36 p = nI (S.2.1 p)) ∧ F 34 2 = nI S.2.2.1 ∧ F 34 3 = nI S.2.2.2.1 ∧ x = nI S.2.2.2.2
theorem s_longest {n : Nat} {a : Nat → Nat} {F : gS} {Q : Int32 → Prop} (hn : 1 ≤ n) (hn9 : n ≤ 9) (ha : ∀ p, p < 9 → F 35 p = nI (a p) ∧ a p ≤ 1106) (h : Q (nI (lgN a n))) : wp_X3_longestWanting (nI n) F Q := by
  unfold wp_X3_longestWanting
  refine for2 n (fun c x => x = nI (lgN a c) ∧ 1 ≤ c) (by omega) (fun K c x hc hI hK => ?_) (fun K x hI => ?_) 1 0 hn ⟨by show nI 0 = nI (if a 0 ≤ a 0 then 0 else 0); rw [if_pos (Nat.le_refl _)], by omega⟩
  · obtain ⟨rfl, i2⟩ := hI
    have hl := lgN_lt a c i2
    have e : lgN a (c + 1) = if a (lgN a c) ≤ a c then lgN a c else c := rfl
    unfold wb_X3_longestWanting_4
    refine if_n (nI_ge hc (by omega)) ⟨vp_in_nI (by omega) (by omega), vp_in_nI (by omega) (by omega), ?_⟩
    have b1 := ha (lgN a c) (by omega)
    have b2 := ha c (by omega)
    rw [nI_clamp (by omega), nI_clamp (by omega), b1.1, b2.1]
    refine if_c (fun q => hK _ ⟨?_, by omega⟩) (fun q => hK _ ⟨?_, by omega⟩)
    · rw [e, if_pos ((nI_leI (by omega) (by omega)).mp q)]
    · rw [e, if_neg (fun z => q (nI_le z (by omega)))]
  · obtain ⟨rfl, i2⟩ := hI
    unfold wb_X3_longestWanting_4
    exact if_y (nI_le (Nat.le_refl _) (by omega)) h
theorem m_longest {n : Nat} {a : Nat → Nat} {F : gS} {Q : Int32 → Prop} (hn : 1 ≤ n) (hn9 : n ≤ 9) (ha : ∀ p, p < 9 → F 148 p = nI (a p) ∧ a p ≤ 1106) (h : Q (nI (lgN a n))) : wp_X12_longest (nI n) F Q := by
  unfold wp_X12_longest
  refine for2 n (fun c x => x = nI (lgN a c) ∧ 1 ≤ c) (by omega) (fun K c x hc hI hK => ?_) (fun K x hI => ?_) 1 0 hn ⟨by show nI 0 = nI (if a 0 ≤ a 0 then 0 else 0); rw [if_pos (Nat.le_refl _)], by omega⟩
  · obtain ⟨rfl, i2⟩ := hI
    have hl := lgN_lt a c i2
    have e : lgN a (c + 1) = if a (lgN a c) ≤ a c then lgN a c else c := rfl
    unfold wb_X12_longest_4
    refine if_n (nI_ge hc (by omega)) ⟨vp_in_nI (by omega) (by omega), vp_in_nI (by omega) (by omega), ?_⟩
    have b1 := ha (lgN a c) (by omega)
    have b2 := ha c (by omega)
    rw [nI_clamp (by omega), nI_clamp (by omega), b1.1, b2.1]
    refine if_c (fun q => hK _ ⟨?_, by omega⟩) (fun q => hK _ ⟨?_, by omega⟩)
    · rw [e, if_pos ((nI_leI (by omega) (by omega)).mp q)]
    · rw [e, if_neg (fun z => q (nI_le z (by omega)))]
  · obtain ⟨rfl, i2⟩ := hI
    unfold wb_X12_longest_4
    exact if_y (nI_le (Nat.le_refl _) (by omega)) h
theorem s_fill9 {k : Nat} {v : Int32} {F : gS} {Q : gS → Prop} (h : Q (upR F k (pt 9 (fun _ => v) (F k)))) : wp_J7_fill_53178_9 k v F Q := by
  unfold wp_J7_fill_53178_9
  refine for2 9 (fun c F' => F' = upR F k (pt c (fun _ => v) (F k))) (by omega) (fun K c F' hc e hK => ?_) (fun K F' e => ?_) 0 F (Nat.zero_le _) (by rw [pt_0, upR_self])
  · unfold wb_J7_fill_53178_9_5
    refine if_n (nI_ge (b := 9) hc (by omega)) ⟨vp_in_nI hc (by omega), hK _ ?_⟩
    rw [nI_clamp (by omega), e, upF_upR]
    exact congrArg (upR F k) (pt_s c _ _ rfl)
  · unfold wb_J7_fill_53178_9_5
    refine if_y (nI_le (a := 9) (Nat.le_refl _) (by omega)) ?_
    rw [e]; exact h
theorem s_126 {K : gS → Int32 → Int32 → Prop} {Q : gS → Prop} {F : gS} {x1 x4 x5 x7 : Int32} {f1 f2 m p t : Nat} (hp : p < 9) (ht : F 36 p = nI t) (ht2 : t ≤ 2) (h : K (upF (upF F 35 p (nI (m + adT f1 f2 t))) 36 p (nI (nxT t))) (nI m) (x7 + 1)) : wp_X3_work_126 K Q F x1 (nI f1) (nI f2) x4 x5 (nI m) x7 (nI p) := by
  have ip : vp_in (nI p) 9 := vp_in_nI hp (by omega)
  have cp : (nI p).toNatClampNeg = p := nI_clamp (by omega)
  have k164 : ∀ t0, t0 = nI (adT f1 f2 t) → wp_X3_work_164 K Q F x1 (nI f1) (nI f2) x4 x5 (nI m) x7 (nI p) t0 (nI m) (nI p) := by
    intro t0 e
    unfold wp_X3_work_164
    rw [e, nI_add, cp]
    have w36 : (upF F 35 p (nI (m + adT f1 f2 t))) 36 p = nI t := by rw [upF_ne _ _ _ (by omega), ht]
    refine ⟨ip, ip, ?_⟩
    rw [w36]
    rcases (by omega : t = 0 ∨ t = 1 ∨ t = 2) with rfl | rfl | rfl
    · exact if_n (by decide) ⟨ip, ip, h⟩
    · exact if_n (by decide) ⟨ip, ip, h⟩
    · exact if_y (by decide) ⟨ip, h⟩
  unfold wp_X3_work_126
  rw [cp, ht]
  refine ⟨ip, ?_⟩
  rcases (by omega : t = 0 ∨ t = 1 ∨ t = 2) with rfl | rfl | rfl
  · exact if_y (by decide) (k164 _ rfl)
  · exact if_n (by decide) ⟨ip, if_y (by decide) (k164 _ rfl)⟩
  · exact if_n (by decide) ⟨ip, if_n (by decide) (k164 _ rfl)⟩
theorem stI {n : Nat} {S : RS} (h1 : S.2.2.2.2 ≤ 1007) (h2 : S.1 (lgN S.1 n) ≤ 1106) : (if nI S.2.2.2.2 < nI (S.1 (lgN S.1 n)) then nI (S.1 (lgN S.1 n)) else nI S.2.2.2.2) = nI (sta n S) := by
  unfold sta
  by_cases q : S.2.2.2.2 < S.1 (lgN S.1 n)
  · rw [if_pos (nI_lt q (by omega)), if_pos q]
  · rw [if_neg (nI_nlt (by omega) (by omega)), if_neg q]
def S0 : RS := (fun _ => 0, fun _ => 0, 0, 0, 0)
theorem S0_ok : okR S0 := ⟨fun _ _ => ⟨Nat.zero_le _, Nat.zero_le _⟩, Nat.zero_le _, Nat.zero_le _, Nat.le_refl _⟩
theorem s_work {n f1 f2 hs bt : Nat} {F : gS} {Q : gS → Prop} (hn : 1 ≤ n) (hn9 : n ≤ 9) (h1 : f1 ≤ 99) (h2 : f2 ≤ 99) (h3 : 1 ≤ hs) (h4 : hs ≤ 9) (hb : bt ≤ 999)
    (h : ∀ G, (∀ q, q ≠ 34 → q ≠ 35 → q ≠ 36 → G q = F q) → G 34 2 = nI (rrN n f1 f2 hs bt bt S0).2.2.1 → G 34 3 = nI (rrN n f1 f2 hs bt bt S0).2.2.2.1 → Q G) : wp_X3_work (nI n) (nI f1) (nI f2) (nI hs) (nI bt) F Q := by
  unfold wp_X3_work
  refine s_fill9 (s_fill9 ?_)
  dsimp only [Nm]
  generalize hF4 : upF (upF (upR (upR F 35 (pt 9 (fun _ => 0) (F 35))) 36 (pt 9 (fun _ => 0) ((upR F 35 (pt 9 (fun _ => 0) (F 35))) 36))) 34 2 0) 34 3 0 = F4
  have b1 : ∀ q, q ≠ 34 → q ≠ 35 → q ≠ 36 → F4 q = F q := fun q a b c => by rw [← hF4, upF_ne _ _ _ a, upF_ne _ _ _ a, upR_ne _ _ c, upR_ne _ _ b]
  have b2 : rlX F4 0 S0 := by
    refine ⟨fun p hp => ⟨?_, ?_⟩, ?_, ?_, rfl⟩
    · rw [← hF4, upF_ne _ _ _ (by omega), upF_ne _ _ _ (by omega), upR_ne _ _ (by omega), upR_eq, pt_lt _ _ hp]; rfl
    · rw [← hF4, upF_ne _ _ _ (by omega), upF_ne _ _ _ (by omega), upR_eq, pt_lt _ _ hp]; rfl
    · rw [← hF4, upF_eq, pk_un (by omega), upF_eq, pk_us]; rfl
    · rw [← hF4, upF_eq, pk_us]; rfl
  clear hF4
  generalize hR : rrN n f1 f2 hs bt bt S0 = Rf at h
  refine for3 bt (fun i F' x => ∃ S, (∀ q, q ≠ 34 → q ≠ 35 → q ≠ 36 → F' q = F q) ∧ rlX F' x S ∧ okR S ∧ i ≤ S.2.2.2.2 ∧ rrN n f1 f2 hs bt (bt - i) S = Rf) (by omega) (fun K i F' x hi hI hK => ?_) (fun K F' x hI => ?_) 0 F4 0 (Nat.zero_le _) ⟨S0, b1, b2, S0_ok, Nat.zero_le _, hR⟩
  · obtain ⟨S, j1, ⟨j2, j3, j4, rfl⟩, j5, j6, j7⟩ := hI
    obtain ⟨o1, o2, o3, o4⟩ := j5
    have hl := lgN_lt S.1 n hn
    have hp := j2 (lgN S.1 n) (by omega)
    have op := o1 (lgN S.1 n) (by omega)
    have hg := sta_ge n S
    have ip : vp_in (nI (lgN S.1 n)) 9 := vp_in_nI (by omega) (by omega)
    unfold wb_X3_work_32
    refine if_n (nI_ge hi (by omega)) (s_longest hn hn9 (fun p hp => ⟨(j2 p hp).1, (o1 p hp).1⟩) ⟨ip, ?_⟩)
    rw [nI_clamp (by omega), hp.1, stI o2 op.1]
    obtain ⟨k, ek⟩ : ∃ k, bt - i = k + 1 := ⟨bt - i - 1, by omega⟩
    rw [ek] at j7
    have st_le : sta n S ≤ 1106 := by unfold sta; split <;> omega
    refine if_c (fun z => ⟨ip, ?_⟩) (fun z => ?_)
    · have z' : sta n S < bt := (nI_ltI (by omega) (by omega)).mp z
      have ew : (if (F' 34 3) < (nI (sta n S) - nI (S.1 (lgN S.1 n))) then (nI (sta n S) - nI (S.1 (lgN S.1 n))) else (F' 34 3)) = nI (stp n f1 f2 hs bt S).2.2.2.1 := by
        rw [j4, pk_sub hg.2]
        show _ = nI (if S.2.2.2.1 < sta n S - S.1 (lgN S.1 n) then sta n S - S.1 (lgN S.1 n) else S.2.2.2.1)
        by_cases y : S.2.2.2.1 < sta n S - S.1 (lgN S.1 n)
        · rw [if_pos (nI_lt y (by omega)), if_pos y]
        · rw [if_neg (nI_nlt (by omega) (by omega)), if_neg y]
      rw [ew]
      dsimp only [Nm]
      have g36 : (upF F' 34 3 (nI (stp n f1 f2 hs bt S).2.2.2.1)) 36 (lgN S.1 n) = nI (S.2.1 (lgN S.1 n)) := by rw [upF_ne _ _ _ (by omega), hp.2]
      have g342 : (upF F' 34 3 (nI (stp n f1 f2 hs bt S).2.2.2.1)) 34 2 = nI S.2.2.1 := by rw [upF_eq, pk_un (by omega), j3]
      rw [g36, nI_add, g342]
      have j8 : rrN n f1 f2 hs bt k (stp n f1 f2 hs bt S) = Rf := by
        have : rrN n f1 f2 hs bt (k + 1) S = if bt ≤ sta n S then S else rrN n f1 f2 hs bt k (stp n f1 f2 hs bt S) := rfl
        rw [this, if_neg (by omega)] at j7; exact j7
      have fin : ∀ (Fz : gS), (∀ q, q ≠ 34 → Fz q = F' q) → Fz 34 2 = nI (stp n f1 f2 hs bt S).2.2.1 → Fz 34 3 = nI (stp n f1 f2 hs bt S).2.2.2.1 → wp_X3_work_126 K Q Fz (nI n) (nI f1) (nI f2) (nI hs) (nI bt) (nI (sta n S + hs)) (nI i) (nI (lgN S.1 n)) := by
        intro Fz e1 e2 e3
        refine s_126 (t := S.2.1 (lgN S.1 n)) (by omega) (by rw [e1 36 (by omega), hp.2]) op.2 (hK _ _ ⟨stp n f1 f2 hs bt S, fun q a b c => ?_, ⟨fun p hp9 => ⟨?_, ?_⟩, ?_, ?_, rfl⟩, stp_ok hn hn9 h1 h2 h3 h4 hb ⟨o1, o2, o3, o4⟩ z', ?_, ?_⟩)
        · rw [upF_ne _ _ _ c, upF_ne _ _ _ b, e1 q a, j1 q a b c]
        · rw [upF_ne _ _ _ (by omega), upF_eq]
          show upd (Fz 35) (lgN S.1 n) _ p = nI (uN S.1 (lgN S.1 n) _ p)
          by_cases y : p = lgN S.1 n
          · rw [y, pk_us, uN_s]
          · rw [pk_un y, uN_n y, e1 35 (by omega), (j2 p hp9).1]
        · rw [upF_eq, upF_ne _ _ _ (by omega)]
          show upd (Fz 36) (lgN S.1 n) _ p = nI (uN S.2.1 (lgN S.1 n) _ p)
          by_cases y : p = lgN S.1 n
          · rw [y, pk_us, uN_s]
          · rw [pk_un y, uN_n y, e1 36 (by omega), (j2 p hp9).2]
        · rw [upF_ne _ _ _ (by omega), upF_ne _ _ _ (by omega), e2]
        · rw [upF_ne _ _ _ (by omega), upF_ne _ _ _ (by omega), e3]
        · show i + 1 ≤ sta n S + hs; omega
        · have : bt - (i + 1) = k := by omega
          rw [this]; exact j8
      have ea : (stp n f1 f2 hs bt S).2.2.1 = if S.2.1 (lgN S.1 n) = 2 ∧ sta n S + hs ≤ bt then S.2.2.1 + 1 else S.2.2.1 := rfl
      refine ⟨ip, if_c (fun y => ?_) (fun y => fin _ (fun q hq => upF_ne _ _ _ hq) ?_ ?_)⟩
      · have y' : S.2.1 (lgN S.1 n) = 2 := (nI_eq (b := 2) (by omega) (by omega)).mp y
        refine if_c (fun u => fin _ (fun q hq => upF_ne _ _ _ hq) ?_ ?_) (fun u => fin _ (fun q hq => by rw [upF_ne _ _ _ hq, upF_ne _ _ _ hq]) ?_ ?_)
        · have u' : bt < sta n S + hs := (nI_ltI (by omega) (by omega)).mp u
          rw [upF_eq, pk_un (by omega), j3, ea, if_neg (by omega)]
        · rw [upF_eq, pk_us]
        · have u' : ¬ bt < sta n S + hs := fun v => u (nI_lt v (by omega))
          rw [upF_eq, pk_us, ea, if_pos ⟨y', by omega⟩, nI_1]
        · rw [upF_eq, pk_un (by omega), upF_eq, pk_us]
      · have y' : ¬ S.2.1 (lgN S.1 n) = 2 := fun v => y (by rw [v]; rfl)
        rw [upF_eq, pk_un (by omega), j3, ea, if_neg (fun v => y' v.1)]
      · rw [upF_eq, pk_us]
    · have z' : bt ≤ sta n S := by
        rcases Nat.lt_or_ge (sta n S) bt with y | y
        · exact absurd (nI_lt y (by omega)) z
        · exact y
      have j8 : S = Rf := by
        have : rrN n f1 f2 hs bt (k + 1) S = if bt ≤ sta n S then S else rrN n f1 f2 hs bt k (stp n f1 f2 hs bt S) := rfl
        rw [this, if_pos z'] at j7; exact j7
      rw [j8] at j3 j4
      exact h _ j1 j3 j4
  · obtain ⟨S, j1, ⟨j2, j3, j4, j9⟩, j5, j6, j7⟩ := hI
    rw [Nat.sub_self] at j7
    have j8 : S = Rf := j7
    rw [j8] at j3 j4
    unfold wb_X3_work_32
    exact if_y (nI_le (Nat.le_refl _) (by omega)) (h _ j1 j3 j4)
/-! the other side -/
theorem m_280 {K : gS → Int32 → Int32 → Int32 → Int32 → Prop} {Q : Int32 → gS → Prop} {F : gS} {x1 x4 x5 x6 x9 x11 : Int32} {f1 f2 m p t al t0 : Nat} (hp : p < 9) (ht : F 149 p = nI t) (ht2 : t ≤ 2) (h : K (upF (upF F 148 p (nI (m + adT f1 f2 t))) 149 p (nI (nxT t))) (nI (al + t0)) x9 (nI m) x11) : wp_X12_rounds_239 K Q F x1 (nI f1) (nI f2) x4 x5 x6 x9 (nI m) x11 (nI p) (nI t0) (nI al) := by
  have ip : vp_in (nI p) 9 := vp_in_nI hp (by omega)
  have cp : (nI p).toNatClampNeg = p := nI_clamp (by omega)
  have k280 : ∀ u0, u0 = nI (adT f1 f2 t) → wp_X12_rounds_280 K Q F x1 (nI f1) (nI f2) x4 x5 x6 (nI (al + t0)) x9 (nI m) x11 (nI p) u0 (nI m) (nI p) := by
    intro u0 e
    unfold wp_X12_rounds_280
    rw [e, nI_add, cp]
    have w149 : (upF F 148 p (nI (m + adT f1 f2 t))) 149 p = nI t := by rw [upF_ne _ _ _ (by omega), ht]
    dsimp only [Nm]
    rw [w149]
    refine ⟨ip, ip, ip, ?_⟩
    have e3 : nI t + 1 - (nI t + 1) / 3 * 3 = nI (nxT t) := by
      rcases (by omega : t = 0 ∨ t = 1 ∨ t = 2) with rfl | rfl | rfl <;> decide
    rw [e3]; exact h
  unfold wp_X12_rounds_239
  rw [cp, ht, nI_add]
  refine ⟨ip, ?_⟩
  rcases (by omega : t = 0 ∨ t = 1 ∨ t = 2) with rfl | rfl | rfl
  · exact if_y (by decide) (k280 _ rfl)
  · exact if_n (by decide) ⟨ip, if_y (by decide) (k280 _ rfl)⟩
  · exact if_n (by decide) ⟨ip, if_n (by decide) (k280 _ rfl)⟩
theorem m_rounds {n f1 f2 hs bt : Nat} {x6 : Int32} {F : gS} {Q : Int32 → gS → Prop} (hn : 1 ≤ n) (hn9 : n ≤ 9) (h1 : f1 ≤ 99) (h2 : f2 ≤ 99) (h3 : 1 ≤ hs) (h4 : hs ≤ 9) (hb : bt ≤ 999)
    (h : ∀ G, (∀ q, q ≠ 148 → q ≠ 149 → G q = F q) → if x6 = 0 then Q (nI (rrN n f1 f2 hs bt bt S0).2.2.1) G else Q (nI (rrN n f1 f2 hs bt bt S0).2.2.2.1) G) : LP2 (wb_X12_rounds_81 Q (nI n) (nI f1) (nI f2) (nI hs) (nI bt) x6) F 0 := by
  generalize hR : rrN n f1 f2 hs bt bt S0 = Rf at h
  refine for2 9 (fun c F' => F' = upR (upR F 148 (pt c (fun _ => 0) (F 148))) 149 (pt c (fun _ => 0) (F 149))) (by omega) (fun K c F' hc e hK => ?_) (fun K F' e => ?_) 0 F (Nat.zero_le _) (by rw [pt_0, pt_0, upR_self, upR_self])
  · have i9 : vp_in (nI c) 9 := vp_in_nI hc (by omega)
    unfold wb_X12_rounds_81
    refine if_n (nI_ge (b := 9) hc (by omega)) ⟨i9, i9, hK _ ?_⟩
    rw [nI_clamp (by omega), e, upF_upR2 _ (by omega), upF_upR, pt_s c _ _ rfl, pt_s c _ _ rfl]
  unfold wb_X12_rounds_81
  refine if_y (nI_le (a := 9) (Nat.le_refl _) (by omega)) ?_
  have b1 : ∀ q, q ≠ 148 → q ≠ 149 → F' q = F q := fun q a b => by rw [e, upR_ne _ _ b, upR_ne _ _ a]
  have b2 : ∀ p, p < 9 → F' 148 p = nI (S0.1 p) ∧ F' 149 p = nI (S0.2.1 p) := fun p hp => ⟨by rw [e, upR_ne _ _ (by omega), upR_eq, pt_lt _ _ hp]; rfl, by rw [e, upR_eq, pt_lt _ _ hp]; rfl⟩
  clear e
  refine LP5_of (fun F2 x8 x9 x10 x11 => ∃ S i, (∀ q, q ≠ 148 → q ≠ 149 → F2 q = F q) ∧ (∀ p, p < 9 → F2 148 p = nI (S.1 p) ∧ F2 149 p = nI (S.2.1 p)) ∧ x8 = nI S.2.2.1 ∧ x9 = nI S.2.2.2.1 ∧ x10 = nI S.2.2.2.2 ∧ okR S ∧ i ≤ S.2.2.2.2 ∧ ((x11 = 1 ∧ rrN n f1 f2 hs bt (bt - i) S = Rf) ∨ (x11 = 0 ∧ S = Rf))) (fun _ _ _ x10 x11 => if x11 = 0 then 0 else 1008 - x10.toNatClampNeg) (fun K F2 x8 x9 x10 x11 hI hK => ?_) F' 0 0 0 1 ⟨S0, 0, b1, b2, rfl, rfl, rfl, S0_ok, Nat.zero_le _, Or.inl ⟨rfl, hR⟩⟩
  obtain ⟨S, i, j1, j2, rfl, rfl, rfl, j5, j6, j7⟩ := hI
  unfold wb_X12_rounds_122
  rcases j7 with ⟨rfl, j7⟩ | ⟨rfl, rfl⟩
  · refine if_n t10 ?_
    obtain ⟨o1, o2, o3, o4⟩ := j5
    have hl := lgN_lt S.1 n hn
    have hp := j2 (lgN S.1 n) (by omega)
    have op := o1 (lgN S.1 n) (by omega)
    have hg := sta_ge n S
    have st_le : sta n S ≤ 1106 := by unfold sta; split <;> omega
    have ip : vp_in (nI (lgN S.1 n)) 9 := vp_in_nI (by omega) (by omega)
    have stopK : bt ≤ sta n S → K F2 (nI S.2.2.1) (nI S.2.2.2.1) (nI S.2.2.2.2) 0 := by
      intro z
      have eS : S = Rf := by
        rcases Nat.eq_zero_or_pos (bt - i) with y | y
        · rw [y] at j7; exact j7
        · obtain ⟨k, ek⟩ : ∃ k, bt - i = k + 1 := ⟨bt - i - 1, by omega⟩
          rw [ek] at j7
          have : rrN n f1 f2 hs bt (k + 1) S = if bt ≤ sta n S then S else rrN n f1 f2 hs bt k (stp n f1 f2 hs bt S) := rfl
          rw [this, if_pos z] at j7; exact j7
      refine hK _ _ _ _ _ ⟨S, i, j1, j2, rfl, rfl, rfl, ⟨o1, o2, o3, o4⟩, j6, Or.inr ⟨rfl, eS⟩⟩ ?_
      show (if (0 : Int32) = 0 then 0 else _) < (if (1 : Int32) = 0 then 0 else 1008 - (nI S.2.2.2.2).toNatClampNeg)
      rw [if_pos rfl, if_neg t10, nI_clamp (by omega)]; omega
    have goK : ∀ b, b = nI (sta n S) → sta n S < bt → wp_X12_rounds_172 K Q F2 (nI n) (nI f1) (nI f2) (nI hs) (nI bt) x6 (nI S.2.2.1) (nI S.2.2.2.1) (nI S.2.2.2.2) (nI (lgN S.1 n)) b 1 := by
      intro b eb z
      subst eb
      have hib : i < bt := by omega
      obtain ⟨k, ek⟩ : ∃ k, bt - i = k + 1 := ⟨bt - i - 1, by omega⟩
      have j8 : rrN n f1 f2 hs bt k (stp n f1 f2 hs bt S) = Rf := by
        rw [ek] at j7
        have : rrN n f1 f2 hs bt (k + 1) S = if bt ≤ sta n S then S else rrN n f1 f2 hs bt k (stp n f1 f2 hs bt S) := rfl
        rw [this, if_neg (by omega)] at j7; exact j7
      have fin : ∀ (t0 : Nat) (w : Int32), w = nI (stp n f1 f2 hs bt S).2.2.2.1 → S.2.2.1 + t0 = (stp n f1 f2 hs bt S).2.2.1 → wp_X12_rounds_239 K Q F2 (nI n) (nI f1) (nI f2) (nI hs) (nI bt) x6 w (nI (sta n S + hs)) 1 (nI (lgN S.1 n)) (nI t0) (nI S.2.2.1) := by
        intro t0 w ew et
        refine m_280 (t := S.2.1 (lgN S.1 n)) (by omega) hp.2 op.2 (hK _ _ _ _ _ ⟨stp n f1 f2 hs bt S, i + 1, fun q a b => ?_, fun p hp9 => ⟨?_, ?_⟩, by rw [et], ew, rfl, stp_ok hn hn9 h1 h2 h3 h4 hb ⟨o1, o2, o3, o4⟩ z, ?_, Or.inl ⟨rfl, ?_⟩⟩ ?_)
        · rw [upF_ne _ _ _ b, upF_ne _ _ _ a, j1 q a b]
        · rw [upF_ne _ _ _ (by omega), upF_eq]
          show upd (F2 148) (lgN S.1 n) _ p = nI (uN S.1 (lgN S.1 n) _ p)
          by_cases y : p = lgN S.1 n
          · rw [y, pk_us, uN_s]
          · rw [pk_un y, uN_n y, (j2 p hp9).1]
        · rw [upF_eq, upF_ne _ _ _ (by omega)]
          show upd (F2 149) (lgN S.1 n) _ p = nI (uN S.2.1 (lgN S.1 n) _ p)
          by_cases y : p = lgN S.1 n
          · rw [y, pk_us, uN_s]
          · rw [pk_un y, uN_n y, (j2 p hp9).2]
        · show i + 1 ≤ sta n S + hs; omega
        · have : bt - (i + 1) = k := by omega
          rw [this]; exact j8
        · show (if (1 : Int32) = 0 then 0 else 1008 - (nI (sta n S + hs)).toNatClampNeg) < (if (1 : Int32) = 0 then 0 else 1008 - (nI S.2.2.2.2).toNatClampNeg)
          rw [if_neg t10, if_neg t10, nI_clamp (by omega), nI_clamp (by omega)]; omega
      have ea : (stp n f1 f2 hs bt S).2.2.1 = if S.2.1 (lgN S.1 n) = 2 ∧ sta n S + hs ≤ bt then S.2.2.1 + 1 else S.2.2.1 := rfl
      have k205 : ∀ w : Int32, w = nI (stp n f1 f2 hs bt S).2.2.2.1 → wp_X12_rounds_205 K Q F2 (nI n) (nI f1) (nI f2) (nI hs) (nI bt) x6 (nI S.2.2.1) 1 (nI (lgN S.1 n)) (nI (sta n S)) w := by
        intro w ew
        unfold wp_X12_rounds_205
        rw [nI_add, nI_clamp (by omega), hp.2]
        refine ⟨ip, if_c (fun y => ?_) (fun y => fin 0 w ew ?_)⟩
        · have y' : S.2.1 (lgN S.1 n) = 2 := (nI_eq (b := 2) (by omega) (by omega)).mp y
          refine if_c (fun u => fin 0 w ew ?_) (fun u => fin 1 w ew ?_)
          · have u' : bt < sta n S + hs := (nI_ltI (by omega) (by omega)).mp u
            rw [ea, if_neg (by omega)]; rfl
          · have u' : ¬ bt < sta n S + hs := fun v => u (nI_lt v (by omega))
            rw [ea, if_pos ⟨y', by omega⟩]
        · have y' : ¬ S.2.1 (lgN S.1 n) = 2 := fun v => y (by rw [v]; rfl)
          rw [ea, if_neg (fun v => y' v.1)]; rfl
      unfold wp_X12_rounds_172
      refine if_n t10 ⟨ip, ?_⟩
      rw [nI_clamp (by omega), hp.1, pk_sub hg.2]
      have ew : (stp n f1 f2 hs bt S).2.2.2.1 = if S.2.2.2.1 < sta n S - S.1 (lgN S.1 n) then sta n S - S.1 (lgN S.1 n) else S.2.2.2.1 := rfl
      refine if_c (fun y => k205 _ ?_) (fun y => k205 _ ?_)
      · have y' : sta n S - S.1 (lgN S.1 n) ≤ S.2.2.2.1 := (nI_leI (by omega) (by omega)).mp y
        rw [ew, if_neg (by omega)]
      · have y' : ¬ sta n S - S.1 (lgN S.1 n) ≤ S.2.2.2.1 := fun v => y (nI_le v (by omega))
        rw [ew, if_pos (by omega)]
    have k172 : ∀ b, b = nI (sta n S) → bt ≤ sta n S → wp_X12_rounds_172 K Q F2 (nI n) (nI f1) (nI f2) (nI hs) (nI bt) x6 (nI S.2.2.1) (nI S.2.2.2.1) (nI S.2.2.2.2) (nI (lgN S.1 n)) b 0 := by
      intro b _ z
      unfold wp_X12_rounds_172
      exact if_y rfl (stopK z)
    refine m_longest hn hn9 (fun p hp => ⟨(j2 p hp).1, (o1 p hp).1⟩) ⟨ip, ?_⟩
    rw [nI_clamp (by omega), hp.1]
    refine if_c (fun y => ?_) (fun y => ⟨ip, ?_⟩)
    · have y' : S.1 (lgN S.1 n) ≤ S.2.2.2.2 := (nI_leI (by omega) (by omega)).mp y
      have es : nI S.2.2.2.2 = nI (sta n S) := by unfold sta; rw [if_neg (by omega)]
      refine if_c (fun u => k172 _ es ?_) (fun u => goK _ es ?_)
      · rw [es] at u; exact (nI_leI (by omega) (by omega)).mp u
      · rcases Nat.lt_or_ge (sta n S) bt with v | v
        · exact v
        · exact absurd (by rw [es]; exact nI_le v (by omega)) u
    · have y' : ¬ S.1 (lgN S.1 n) ≤ S.2.2.2.2 := fun v => y (nI_le v (by omega))
      have es : nI (S.1 (lgN S.1 n)) = nI (sta n S) := by unfold sta; rw [if_pos (by omega)]
      show if nI bt ≤ nI (S.1 (lgN S.1 n)) then _ else _
      refine if_c (fun u => k172 _ es ?_) (fun u => goK _ es ?_)
      · rw [es] at u; exact (nI_leI (by omega) (by omega)).mp u
      · rcases Nat.lt_or_ge (sta n S) bt with v | v
        · exact v
        · exact absurd (by rw [es]; exact nI_le v (by omega)) u
  · exact if_y rfl (h F2 j1)
theorem m_r35 {t0 x1 x2 x3 x4 x5 x6 : Int32} {F : gS} {Q : Int32 → gS → Prop} (h : t0 = 0) (q : Q (-102) F) : wp_X12_rounds_35 Q F x1 x2 x3 x4 x5 x6 t0 := by
  unfold wp_X12_rounds_35; exact if_y h q
theorem T_rounds {i : Nat} {x1 x2 x3 x4 x5 x6 : Int32} {F : gS} (h : Inv i F) : wp_X11_rounds x1 x2 x3 x4 x5 x6 F (fun r G => wp_X12_rounds x1 x2 x3 x4 x5 x6 G (fun r' H => r = r' ∧ Inv (i + 1) H)) := by
  unfold wp_X11_rounds
  by_cases w1 : wtB x1 1 9 = true
  · refine wx_y w1 (if_n t10 ?_)
    by_cases w2 : wtB x2 1 99 = true
    · refine wx_y w2 (if_n t10 ?_)
      by_cases w3 : wtB x3 1 99 = true
      · refine wx_y w3 (if_n t10 ?_)
        have dn : ∀ G, (Q : Int32 → gS → Prop) → wp_X12_rounds_35 Q G x1 x2 x3 x4 x5 x6 1 → wp_X12_rounds x1 x2 x3 x4 x5 x6 G Q := fun G Q hq => by
          unfold wp_X12_rounds
          exact wm_y w1 (if_n t10 (wm_y w2 (if_n t10 (wm_y w3 (if_n t10 hq)))))
        by_cases w4 : wtB x4 1 9 = true
        · refine wx_y w4 (if_n t10 ?_)
          by_cases w5 : wtB x5 0 999 = true
          · refine wx_y w5 (if_n t10 ?_)
            by_cases w6 : wtB x6 0 1 = true
            · refine wx_y w6 (if_n t10 ?_)
              obtain ⟨n, n1, n2, rfl⟩ := wt_rng (a := 1) (b := 9) (by omega) (by omega) w1
              obtain ⟨f1, -, p2, rfl⟩ := wt_rng (a := 1) (b := 99) (by omega) (by omega) w2
              obtain ⟨f2, -, q2, rfl⟩ := wt_rng (a := 1) (b := 99) (by omega) (by omega) w3
              obtain ⟨hs, s1, s2, rfl⟩ := wt_rng (a := 1) (b := 9) (by omega) (by omega) w4
              obtain ⟨bt, -, b2, rfl⟩ := wt_rng (a := 0) (b := 999) (by omega) (by omega) w5
              refine s_work n1 n2 p2 q2 s1 s2 b2 (fun G g1 g2 g3 => ?_)
              have fin : ∀ r, (if x6 = 0 then r = nI (rrN n f1 f2 hs bt bt S0).2.2.1 else r = nI (rrN n f1 f2 hs bt bt S0).2.2.2.1) → wp_X12_rounds (nI n) (nI f1) (nI f2) (nI hs) (nI bt) x6 G (fun r' H => r = r' ∧ Inv (i + 1) H) := by
                intro r hr
                refine dn G _ ?_
                unfold wp_X12_rounds_35
                refine if_n t10 (wm_y w4 (if_n t10 (wm_y w5 (if_n t10 (wm_y w6 (if_n t10 ?_))))))
                refine m_rounds n1 n2 p2 q2 s1 s2 b2 (fun H k1 => ?_)
                have hv : Inv (i + 1) H := Inv_tr (fun q k u => by unfold uA at u; rw [k1 q (by omega) (by omega), g1 q (by omega) (by omega) (by omega)]) (by omega) h
                refine if_c (fun z => ?_) (fun z => ?_)
                · rw [if_pos z] at hr; exact ⟨hr, hv⟩
                · rw [if_neg z] at hr; exact ⟨hr, hv⟩
              exact if_c (fun z => fin _ (by rw [if_pos z]; exact g2)) (fun z => fin _ (by rw [if_neg z]; exact g3))
            · refine wx_n w6 (if_y rfl (dn F _ ?_))
              unfold wp_X12_rounds_35
              exact if_n t10 (wm_y w4 (if_n t10 (wm_y w5 (if_n t10 (wm_n w6 (if_y rfl ⟨rfl, Inv_s h⟩))))))
          · refine wx_n w5 (if_y rfl (dn F _ ?_))
            unfold wp_X12_rounds_35
            exact if_n t10 (wm_y w4 (if_n t10 (wm_n w5 (if_y rfl ⟨rfl, Inv_s h⟩))))
        · refine wx_n w4 (if_y rfl (dn F _ ?_))
          unfold wp_X12_rounds_35
          exact if_n t10 (wm_n w4 (if_y rfl ⟨rfl, Inv_s h⟩))
      · refine wx_n w3 (if_y rfl ?_)
        unfold wp_X12_rounds
        exact wm_y w1 (if_n t10 (wm_y w2 (if_n t10 (wm_n w3 (if_y rfl (m_r35 rfl ⟨rfl, Inv_s h⟩))))))
    · refine wx_n w2 (if_y rfl ?_)
      unfold wp_X12_rounds
      exact wm_y w1 (if_n t10 (wm_n w2 (if_y rfl (m_r35 rfl ⟨rfl, Inv_s h⟩))))
  · refine wx_n w1 (if_y rfl ?_)
    unfold wp_X12_rounds
    exact wm_n w1 (if_y rfl (m_r35 rfl ⟨rfl, Inv_s h⟩))
