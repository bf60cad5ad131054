theorem kq_0 : kd 0 = 9 := rfl
theorem kq_1 : kd 1 = 4 := rfl
theorem kq_2 : kd 2 = 1040 := rfl
theorem kq_3 : kd 3 = 6 := rfl
theorem kq_4 : kd 4 = 1016 := rfl
theorem kq_5 : kd 5 = 2016 := rfl
theorem kq_6 : kd 6 = 8 := rfl
theorem kq_7 : kd 7 = 1005 := rfl
theorem kq_8 : kd 8 = 1006 := rfl
theorem kq_9 : kd 9 = 5 := rfl
theorem kq_10 : kd 10 = 1016 := rfl
theorem kq_11 : kd 11 = 2016 := rfl
theorem kq_12 : kd 12 = 2016 := rfl
theorem kq_13 : kd 13 = 1016 := rfl
theorem kq_14 : kd 14 = 2 := rfl
theorem kq_15 : kd 15 = 1 := rfl
theorem kq_16 : kd 16 = 1016 := rfl
theorem kq_17 : kd 17 = 1016 := rfl
theorem kq_18 : kd 18 = 1 := rfl
theorem kq_19 : kd 19 = 1016 := rfl
theorem kq_20 : kd 20 = 1016 := rfl
theorem kq_21 : kd 21 = 0 := rfl
theorem kq_22 : kd 22 = 1016 := rfl
theorem kq_23 : kd 23 = 1007 := rfl
theorem kq_24 : kd 24 = 7 := rfl
theorem kq_25 : kd 25 = 1006 := rfl
theorem kq_26 : kd 26 = 1 := rfl
theorem kq_27 : kd 27 = 1016 := rfl
theorem kq_28 : kd 28 = 1016 := rfl
theorem kq_29 : kd 29 = 1 := rfl
theorem kq_30 : kd 30 = 1016 := rfl
theorem kq_31 : kd 31 = 1016 := rfl
theorem kq_32 : kd 32 = 4006 := rfl
theorem kq_33 : kd 33 = 5024 := rfl
theorem kq_34 : kd 34 = 3 := rfl
theorem kq_35 : kd 35 = 1009 := rfl
theorem kq_36 : kd 36 = 1009 := rfl
theorem kq_37 : kd 37 = 7 := rfl
theorem kq_38 : kd 38 = 1006 := rfl
theorem kq_39 : kd 39 = 7 := rfl
theorem kq_40 : kd 40 = 1006 := rfl
theorem kq_41 : kd 41 = 7 := rfl
theorem kq_42 : kd 42 = 1006 := rfl
theorem kq_43 : kd 43 = 7 := rfl
theorem kq_44 : kd 44 = 1006 := rfl
theorem kq_45 : kd 45 = 7 := rfl
theorem kq_46 : kd 46 = 1006 := rfl
theorem kq_47 : kd 47 = 7 := rfl
theorem kq_48 : kd 48 = 1006 := rfl
theorem kq_49 : kd 49 = 0 := rfl
theorem kq_50 : kd 50 = 1016 := rfl
theorem kq_51 : kd 51 = 1007 := rfl
theorem kq_52 : kd 52 = 0 := rfl
theorem kq_53 : kd 53 = 1016 := rfl
theorem kq_54 : kd 54 = 1007 := rfl
theorem kq_55 : kd 55 = 0 := rfl
theorem kq_56 : kd 56 = 1016 := rfl
theorem kq_57 : kd 57 = 1007 := rfl
theorem kq_58 : kd 58 = 0 := rfl
theorem kq_59 : kd 59 = 1016 := rfl
theorem kq_60 : kd 60 = 1007 := rfl
theorem kq_61 : kd 61 = 0 := rfl
theorem kq_62 : kd 62 = 1016 := rfl
theorem kq_63 : kd 63 = 1007 := rfl
theorem kq_64 : kd 64 = 0 := rfl
theorem kq_65 : kd 65 = 1016 := rfl
theorem kq_66 : kd 66 = 1007 := rfl
theorem kq_67 : kd 67 = 0 := rfl
theorem kq_68 : kd 68 = 1016 := rfl
theorem kq_69 : kd 69 = 1007 := rfl
theorem kq_70 : kd 70 = 0 := rfl
theorem kq_71 : kd 71 = 1016 := rfl
theorem kq_72 : kd 72 = 1007 := rfl
theorem kq_73 : kd 73 = 0 := rfl
theorem kq_74 : kd 74 = 1016 := rfl
theorem kq_75 : kd 75 = 1007 := rfl
theorem kq_76 : kd 76 = 0 := rfl
theorem kq_77 : kd 77 = 1016 := rfl
theorem kq_78 : kd 78 = 1007 := rfl
theorem kq_79 : kd 79 = 0 := rfl
theorem kq_80 : kd 80 = 1016 := rfl
theorem kq_81 : kd 81 = 1007 := rfl
theorem kq_82 : kd 82 = 0 := rfl
theorem kq_83 : kd 83 = 1016 := rfl
theorem kq_84 : kd 84 = 1007 := rfl
theorem kq_85 : kd 85 = 0 := rfl
theorem kq_86 : kd 86 = 1016 := rfl
theorem kq_87 : kd 87 = 1007 := rfl
theorem kq_88 : kd 88 = 0 := rfl
theorem kq_89 : kd 89 = 1016 := rfl
theorem kq_90 : kd 90 = 1007 := rfl
theorem kq_91 : kd 91 = 0 := rfl
theorem kq_92 : kd 92 = 1016 := rfl
theorem kq_93 : kd 93 = 1007 := rfl
theorem kq_94 : kd 94 = 0 := rfl
theorem kq_95 : kd 95 = 1016 := rfl
theorem kq_96 : kd 96 = 1007 := rfl
theorem kq_97 : kd 97 = 0 := rfl
theorem kq_98 : kd 98 = 1016 := rfl
theorem kq_99 : kd 99 = 1007 := rfl
theorem kq_100 : kd 100 = 0 := rfl
theorem kq_101 : kd 101 = 1016 := rfl
theorem kq_102 : kd 102 = 1007 := rfl
theorem kq_103 : kd 103 = 0 := rfl
theorem kq_104 : kd 104 = 1016 := rfl
theorem kq_105 : kd 105 = 1007 := rfl
theorem kq_106 : kd 106 = 0 := rfl
theorem kq_107 : kd 107 = 1016 := rfl
theorem kq_108 : kd 108 = 1007 := rfl
theorem kq_109 : kd 109 = 0 := rfl
theorem kq_110 : kd 110 = 1016 := rfl
theorem kq_111 : kd 111 = 1007 := rfl
theorem kq_112 : kd 112 = 0 := rfl
theorem kq_113 : kd 113 = 1016 := rfl
theorem kq_114 : kd 114 = 1007 := rfl
theorem kq_115 : kd 115 = 0 := rfl
theorem kq_116 : kd 116 = 1016 := rfl
theorem kq_117 : kd 117 = 1007 := rfl
theorem kq_118 : kd 118 = 0 := rfl
theorem kq_119 : kd 119 = 1016 := rfl
theorem kq_120 : kd 120 = 1007 := rfl
theorem kq_121 : kd 121 = 10 := rfl
theorem kq_122 : kd 122 = 1016 := rfl
theorem kq_123 : kd 123 = 2016 := rfl
theorem kq_124 : kd 124 = 1016 := rfl
theorem kq_125 : kd 125 = 1016 := rfl
theorem kq_126 : kd 126 = 1006 := rfl
theorem kq_127 : kd 127 = 1006 := rfl
theorem kq_128 : kd 128 = 1006 := rfl
theorem kq_129 : kd 129 = 1006 := rfl
theorem kq_130 : kd 130 = 1006 := rfl
theorem kq_131 : kd 131 = 1036 := rfl
theorem kq_132 : kd 132 = 1168 := rfl
theorem kq_133 : kd 133 = 1384 := rfl
theorem kq_134 : kd 134 = 3040 := rfl
theorem kq_135 : kd 135 = 1016 := rfl
theorem kq_136 : kd 136 = 1016 := rfl
theorem kq_137 : kd 137 = 1016 := rfl
theorem kq_138 : kd 138 = 2016 := rfl
theorem kq_139 : kd 139 = 1006 := rfl
theorem kq_140 : kd 140 = 1016 := rfl
theorem kq_141 : kd 141 = 1016 := rfl
theorem kq_142 : kd 142 = 1006 := rfl
theorem kq_143 : kd 143 = 1016 := rfl
theorem kq_144 : kd 144 = 1016 := rfl
theorem kq_145 : kd 145 = 2016 := rfl
theorem kq_146 : kd 146 = 1032 := rfl
theorem kq_147 : kd 147 = 1016 := rfl
theorem kq_148 : kd 148 = 1009 := rfl
theorem kq_149 : kd 149 = 1009 := rfl
def Lp1 {A0 : Type} (B : (A0 → Prop) → A0 → Prop) : Nat → A0 → Prop
  | 0, _ => False
  | n + 1, a0 => B (Lp1 B n) a0
def LP1 {A0 : Type} (B : (A0 → Prop) → A0 → Prop) (a0 : A0) : Prop := ∃ n, Lp1 B n a0
theorem LP1_go {A0 : Type} {B : (A0 → Prop) → A0 → Prop} {V : A0 → Prop} (hB : ∀ K : A0 → Prop, (∀ a0, K a0 → V a0) → ∀ a0, B K a0 → V a0) : ∀ a0, LP1 B a0 → V a0 := by
  have key : ∀ n a0, Lp1 B n a0 → V a0 := by
    intro n
    induction n with
    | zero => intro a0 h; exact h.elim
    | succ n ih => intro a0 h; exact hB (Lp1 B n) ih a0 h
  intro a0 h
  obtain ⟨n, h⟩ := h
  exact key n a0 h
/-- the rule of loops: an invariant, a measure that falls -/
theorem LP1_of {A0 : Type} {B : (A0 → Prop) → A0 → Prop} (I : A0 → Prop) (μ : A0 → Nat) (hs : ∀ (K : A0 → Prop) (a0 : A0), I a0 → (∀ (b0 : A0), I b0 → μ b0 < μ a0 → K b0) → B K a0) (a0 : A0) (h : I a0) : LP1 B a0 := by
  have key : ∀ (n : Nat) (a0 : A0), I a0 → μ a0 < n → Lp1 B n a0 := by
    intro n
    induction n with
    | zero => intro a0 _ h; exact absurd h (Nat.not_lt_zero _)
    | succ n ih => intro a0 hI hm; exact hs (Lp1 B n) a0 hI (fun b0 hb hl => ih b0 hb (Nat.lt_of_lt_of_le hl (Nat.le_of_lt_succ hm)))
  exact ⟨μ a0 + 1, key _ a0 h (Nat.lt_succ_self _)⟩
def Lp2 {A0 A1 : Type} (B : (A0 → A1 → Prop) → A0 → A1 → Prop) : Nat → A0 → A1 → Prop
  | 0, _, _ => False
  | n + 1, a0, a1 => B (Lp2 B n) a0 a1
def LP2 {A0 A1 : Type} (B : (A0 → A1 → Prop) → A0 → A1 → Prop) (a0 : A0) (a1 : A1) : Prop := ∃ n, Lp2 B n a0 a1
theorem LP2_go {A0 A1 : Type} {B : (A0 → A1 → Prop) → A0 → A1 → Prop} {V : A0 → A1 → Prop} (hB : ∀ K : A0 → A1 → Prop, (∀ a0 a1, K a0 a1 → V a0 a1) → ∀ a0 a1, B K a0 a1 → V a0 a1) : ∀ a0 a1, LP2 B a0 a1 → V a0 a1 := by
  have key : ∀ n a0 a1, Lp2 B n a0 a1 → V a0 a1 := by
    intro n
    induction n with
    | zero => intro a0 a1 h; exact h.elim
    | succ n ih => intro a0 a1 h; exact hB (Lp2 B n) ih a0 a1 h
  intro a0 a1 h
  obtain ⟨n, h⟩ := h
  exact key n a0 a1 h
/-- the rule of loops: an invariant, a measure that falls -/
theorem LP2_of {A0 A1 : Type} {B : (A0 → A1 → Prop) → A0 → A1 → Prop} (I : A0 → A1 → Prop) (μ : A0 → A1 → Nat) (hs : ∀ (K : A0 → A1 → Prop) (a0 : A0) (a1 : A1), I a0 a1 → (∀ (b0 : A0) (b1 : A1), I b0 b1 → μ b0 b1 < μ a0 a1 → K b0 b1) → B K a0 a1) (a0 : A0) (a1 : A1) (h : I a0 a1) : LP2 B a0 a1 := by
  have key : ∀ (n : Nat) (a0 : A0) (a1 : A1), I a0 a1 → μ a0 a1 < n → Lp2 B n a0 a1 := by
    intro n
    induction n with
    | zero => intro a0 a1 _ h; exact absurd h (Nat.not_lt_zero _)
    | succ n ih => intro a0 a1 hI hm; exact hs (Lp2 B n) a0 a1 hI (fun b0 b1 hb hl => ih b0 b1 hb (Nat.lt_of_lt_of_le hl (Nat.le_of_lt_succ hm)))
  exact ⟨μ a0 a1 + 1, key _ a0 a1 h (Nat.lt_succ_self _)⟩
def Lp3 {A0 A1 A2 : Type} (B : (A0 → A1 → A2 → Prop) → A0 → A1 → A2 → Prop) : Nat → A0 → A1 → A2 → Prop
  | 0, _, _, _ => False
  | n + 1, a0, a1, a2 => B (Lp3 B n) a0 a1 a2
def LP3 {A0 A1 A2 : Type} (B : (A0 → A1 → A2 → Prop) → A0 → A1 → A2 → Prop) (a0 : A0) (a1 : A1) (a2 : A2) : Prop := ∃ n, Lp3 B n a0 a1 a2
theorem LP3_go {A0 A1 A2 : Type} {B : (A0 → A1 → A2 → Prop) → A0 → A1 → A2 → Prop} {V : A0 → A1 → A2 → Prop} (hB : ∀ K : A0 → A1 → A2 → Prop, (∀ a0 a1 a2, K a0 a1 a2 → V a0 a1 a2) → ∀ a0 a1 a2, B K a0 a1 a2 → V a0 a1 a2) : ∀ a0 a1 a2, LP3 B a0 a1 a2 → V a0 a1 a2 := by
  have key : ∀ n a0 a1 a2, Lp3 B n a0 a1 a2 → V a0 a1 a2 := by
    intro n
    induction n with
    | zero => intro a0 a1 a2 h; exact h.elim
    | succ n ih => intro a0 a1 a2 h; exact hB (Lp3 B n) ih a0 a1 a2 h
  intro a0 a1 a2 h
  obtain ⟨n, h⟩ := h
  exact key n a0 a1 a2 h
/-- the rule of loops: an invariant, a measure that falls -/
theorem LP3_of {A0 A1 A2 : Type} {B : (A0 → A1 → A2 → Prop) → A0 → A1 → A2 → Prop} (I : A0 → A1 → A2 → Prop) (μ : A0 → A1 → A2 → Nat) (hs : ∀ (K : A0 → A1 → A2 → Prop) (a0 : A0) (a1 : A1) (a2 : A2), I a0 a1 a2 → (∀ (b0 : A0) (b1 : A1) (b2 : A2), I b0 b1 b2 → μ b0 b1 b2 < μ a0 a1 a2 → K b0 b1 b2) → B K a0 a1 a2) (a0 : A0) (a1 : A1) (a2 : A2) (h : I a0 a1 a2) : LP3 B a0 a1 a2 := by
  have key : ∀ (n : Nat) (a0 : A0) (a1 : A1) (a2 : A2), I a0 a1 a2 → μ a0 a1 a2 < n → Lp3 B n a0 a1 a2 := by
    intro n
    induction n with
    | zero => intro a0 a1 a2 _ h; exact absurd h (Nat.not_lt_zero _)
    | succ n ih => intro a0 a1 a2 hI hm; exact hs (Lp3 B n) a0 a1 a2 hI (fun b0 b1 b2 hb hl => ih b0 b1 b2 hb (Nat.lt_of_lt_of_le hl (Nat.le_of_lt_succ hm)))
  exact ⟨μ a0 a1 a2 + 1, key _ a0 a1 a2 h (Nat.lt_succ_self _)⟩
def Lp4 {A0 A1 A2 A3 : Type} (B : (A0 → A1 → A2 → A3 → Prop) → A0 → A1 → A2 → A3 → Prop) : Nat → A0 → A1 → A2 → A3 → Prop
  | 0, _, _, _, _ => False
  | n + 1, a0, a1, a2, a3 => B (Lp4 B n) a0 a1 a2 a3
def LP4 {A0 A1 A2 A3 : Type} (B : (A0 → A1 → A2 → A3 → Prop) → A0 → A1 → A2 → A3 → Prop) (a0 : A0) (a1 : A1) (a2 : A2) (a3 : A3) : Prop := ∃ n, Lp4 B n a0 a1 a2 a3
theorem LP4_go {A0 A1 A2 A3 : Type} {B : (A0 → A1 → A2 → A3 → Prop) → A0 → A1 → A2 → A3 → Prop} {V : A0 → A1 → A2 → A3 → Prop} (hB : ∀ K : A0 → A1 → A2 → A3 → Prop, (∀ a0 a1 a2 a3, K a0 a1 a2 a3 → V a0 a1 a2 a3) → ∀ a0 a1 a2 a3, B K a0 a1 a2 a3 → V a0 a1 a2 a3) : ∀ a0 a1 a2 a3, LP4 B a0 a1 a2 a3 → V a0 a1 a2 a3 := by
  have key : ∀ n a0 a1 a2 a3, Lp4 B n a0 a1 a2 a3 → V a0 a1 a2 a3 := by
    intro n
    induction n with
    | zero => intro a0 a1 a2 a3 h; exact h.elim
    | succ n ih => intro a0 a1 a2 a3 h; exact hB (Lp4 B n) ih a0 a1 a2 a3 h
  intro a0 a1 a2 a3 h
  obtain ⟨n, h⟩ := h
  exact key n a0 a1 a2 a3 h
/-- the rule of loops: an invariant, a measure that falls -/
theorem LP4_of {A0 A1 A2 A3 : Type} {B : (A0 → A1 → A2 → A3 → Prop) → A0 → A1 → A2 → A3 → Prop} (I : A0 → A1 → A2 → A3 → Prop) (μ : A0 → A1 → A2 → A3 → Nat) (hs : ∀ (K : A0 → A1 → A2 → A3 → Prop) (a0 : A0) (a1 : A1) (a2 : A2) (a3 : A3), I a0 a1 a2 a3 → (∀ (b0 : A0) (b1 : A1) (b2 : A2) (b3 : A3), I b0 b1 b2 b3 → μ b0 b1 b2 b3 < μ a0 a1 a2 a3 → K b0 b1 b2 b3) → B K a0 a1 a2 a3) (a0 : A0) (a1 : A1) (a2 : A2) (a3 : A3) (h : I a0 a1 a2 a3) : LP4 B a0 a1 a2 a3 := by
  have key : ∀ (n : Nat) (a0 : A0) (a1 : A1) (a2 : A2) (a3 : A3), I a0 a1 a2 a3 → μ a0 a1 a2 a3 < n → Lp4 B n a0 a1 a2 a3 := by
    intro n
    induction n with
    | zero => intro a0 a1 a2 a3 _ h; exact absurd h (Nat.not_lt_zero _)
    | succ n ih => intro a0 a1 a2 a3 hI hm; exact hs (Lp4 B n) a0 a1 a2 a3 hI (fun b0 b1 b2 b3 hb hl => ih b0 b1 b2 b3 hb (Nat.lt_of_lt_of_le hl (Nat.le_of_lt_succ hm)))
  exact ⟨μ a0 a1 a2 a3 + 1, key _ a0 a1 a2 a3 h (Nat.lt_succ_self _)⟩
def Lp5 {A0 A1 A2 A3 A4 : Type} (B : (A0 → A1 → A2 → A3 → A4 → Prop) → A0 → A1 → A2 → A3 → A4 → Prop) : Nat → A0 → A1 → A2 → A3 → A4 → Prop
  | 0, _, _, _, _, _ => False
  | n + 1, a0, a1, a2, a3, a4 => B (Lp5 B n) a0 a1 a2 a3 a4
def LP5 {A0 A1 A2 A3 A4 : Type} (B : (A0 → A1 → A2 → A3 → A4 → Prop) → A0 → A1 → A2 → A3 → A4 → Prop) (a0 : A0) (a1 : A1) (a2 : A2) (a3 : A3) (a4 : A4) : Prop := ∃ n, Lp5 B n a0 a1 a2 a3 a4
theorem LP5_go {A0 A1 A2 A3 A4 : Type} {B : (A0 → A1 → A2 → A3 → A4 → Prop) → A0 → A1 → A2 → A3 → A4 → Prop} {V : A0 → A1 → A2 → A3 → A4 → Prop} (hB : ∀ K : A0 → A1 → A2 → A3 → A4 → Prop, (∀ a0 a1 a2 a3 a4, K a0 a1 a2 a3 a4 → V a0 a1 a2 a3 a4) → ∀ a0 a1 a2 a3 a4, B K a0 a1 a2 a3 a4 → V a0 a1 a2 a3 a4) : ∀ a0 a1 a2 a3 a4, LP5 B a0 a1 a2 a3 a4 → V a0 a1 a2 a3 a4 := by
  have key : ∀ n a0 a1 a2 a3 a4, Lp5 B n a0 a1 a2 a3 a4 → V a0 a1 a2 a3 a4 := by
    intro n
    induction n with
    | zero => intro a0 a1 a2 a3 a4 h; exact h.elim
    | succ n ih => intro a0 a1 a2 a3 a4 h; exact hB (Lp5 B n) ih a0 a1 a2 a3 a4 h
  intro a0 a1 a2 a3 a4 h
  obtain ⟨n, h⟩ := h
  exact key n a0 a1 a2 a3 a4 h
/-- the rule of loops: an invariant, a measure that falls -/
theorem LP5_of {A0 A1 A2 A3 A4 : Type} {B : (A0 → A1 → A2 → A3 → A4 → Prop) → A0 → A1 → A2 → A3 → A4 → Prop} (I : A0 → A1 → A2 → A3 → A4 → Prop) (μ : A0 → A1 → A2 → A3 → A4 → Nat) (hs : ∀ (K : A0 → A1 → A2 → A3 → A4 → Prop) (a0 : A0) (a1 : A1) (a2 : A2) (a3 : A3) (a4 : A4), I a0 a1 a2 a3 a4 → (∀ (b0 : A0) (b1 : A1) (b2 : A2) (b3 : A3) (b4 : A4), I b0 b1 b2 b3 b4 → μ b0 b1 b2 b3 b4 < μ a0 a1 a2 a3 a4 → K b0 b1 b2 b3 b4) → B K a0 a1 a2 a3 a4) (a0 : A0) (a1 : A1) (a2 : A2) (a3 : A3) (a4 : A4) (h : I a0 a1 a2 a3 a4) : LP5 B a0 a1 a2 a3 a4 := by
  have key : ∀ (n : Nat) (a0 : A0) (a1 : A1) (a2 : A2) (a3 : A3) (a4 : A4), I a0 a1 a2 a3 a4 → μ a0 a1 a2 a3 a4 < n → Lp5 B n a0 a1 a2 a3 a4 := by
    intro n
    induction n with
    | zero => intro a0 a1 a2 a3 a4 _ h; exact absurd h (Nat.not_lt_zero _)
    | succ n ih => intro a0 a1 a2 a3 a4 hI hm; exact hs (Lp5 B n) a0 a1 a2 a3 a4 hI (fun b0 b1 b2 b3 b4 hb hl => ih b0 b1 b2 b3 b4 hb (Nat.lt_of_lt_of_le hl (Nat.le_of_lt_succ hm)))
  exact ⟨μ a0 a1 a2 a3 a4 + 1, key _ a0 a1 a2 a3 a4 h (Nat.lt_succ_self _)⟩
def Lp6 {A0 A1 A2 A3 A4 A5 : Type} (B : (A0 → A1 → A2 → A3 → A4 → A5 → Prop) → A0 → A1 → A2 → A3 → A4 → A5 → Prop) : Nat → A0 → A1 → A2 → A3 → A4 → A5 → Prop
  | 0, _, _, _, _, _, _ => False
  | n + 1, a0, a1, a2, a3, a4, a5 => B (Lp6 B n) a0 a1 a2 a3 a4 a5
def LP6 {A0 A1 A2 A3 A4 A5 : Type} (B : (A0 → A1 → A2 → A3 → A4 → A5 → Prop) → A0 → A1 → A2 → A3 → A4 → A5 → Prop) (a0 : A0) (a1 : A1) (a2 : A2) (a3 : A3) (a4 : A4) (a5 : A5) : Prop := ∃ n, Lp6 B n a0 a1 a2 a3 a4 a5
theorem LP6_go {A0 A1 A2 A3 A4 A5 : Type} {B : (A0 → A1 → A2 → A3 → A4 → A5 → Prop) → A0 → A1 → A2 → A3 → A4 → A5 → Prop} {V : A0 → A1 → A2 → A3 → A4 → A5 → Prop} (hB : ∀ K : A0 → A1 → A2 → A3 → A4 → A5 → Prop, (∀ a0 a1 a2 a3 a4 a5, K a0 a1 a2 a3 a4 a5 → V a0 a1 a2 a3 a4 a5) → ∀ a0 a1 a2 a3 a4 a5, B K a0 a1 a2 a3 a4 a5 → V a0 a1 a2 a3 a4 a5) : ∀ a0 a1 a2 a3 a4 a5, LP6 B a0 a1 a2 a3 a4 a5 → V a0 a1 a2 a3 a4 a5 := by
  have key : ∀ n a0 a1 a2 a3 a4 a5, Lp6 B n a0 a1 a2 a3 a4 a5 → V a0 a1 a2 a3 a4 a5 := by
    intro n
    induction n with
    | zero => intro a0 a1 a2 a3 a4 a5 h; exact h.elim
    | succ n ih => intro a0 a1 a2 a3 a4 a5 h; exact hB (Lp6 B n) ih a0 a1 a2 a3 a4 a5 h
  intro a0 a1 a2 a3 a4 a5 h
  obtain ⟨n, h⟩ := h
  exact key n a0 a1 a2 a3 a4 a5 h
/-- the rule of loops: an invariant, a measure that falls -/
theorem LP6_of {A0 A1 A2 A3 A4 A5 : Type} {B : (A0 → A1 → A2 → A3 → A4 → A5 → Prop) → A0 → A1 → A2 → A3 → A4 → A5 → Prop} (I : A0 → A1 → A2 → A3 → A4 → A5 → Prop) (μ : A0 → A1 → A2 → A3 → A4 → A5 → Nat) (hs : ∀ (K : A0 → A1 → A2 → A3 → A4 → A5 → Prop) (a0 : A0) (a1 : A1) (a2 : A2) (a3 : A3) (a4 : A4) (a5 : A5), I a0 a1 a2 a3 a4 a5 → (∀ (b0 : A0) (b1 : A1) (b2 : A2) (b3 : A3) (b4 : A4) (b5 : A5), I b0 b1 b2 b3 b4 b5 → μ b0 b1 b2 b3 b4 b5 < μ a0 a1 a2 a3 a4 a5 → K b0 b1 b2 b3 b4 b5) → B K a0 a1 a2 a3 a4 a5) (a0 : A0) (a1 : A1) (a2 : A2) (a3 : A3) (a4 : A4) (a5 : A5) (h : I a0 a1 a2 a3 a4 a5) : LP6 B a0 a1 a2 a3 a4 a5 := by
  have key : ∀ (n : Nat) (a0 : A0) (a1 : A1) (a2 : A2) (a3 : A3) (a4 : A4) (a5 : A5), I a0 a1 a2 a3 a4 a5 → μ a0 a1 a2 a3 a4 a5 < n → Lp6 B n a0 a1 a2 a3 a4 a5 := by
    intro n
    induction n with
    | zero => intro a0 a1 a2 a3 a4 a5 _ h; exact absurd h (Nat.not_lt_zero _)
    | succ n ih => intro a0 a1 a2 a3 a4 a5 hI hm; exact hs (Lp6 B n) a0 a1 a2 a3 a4 a5 hI (fun b0 b1 b2 b3 b4 b5 hb hl => ih b0 b1 b2 b3 b4 b5 hb (Nat.lt_of_lt_of_le hl (Nat.le_of_lt_succ hm)))
  exact ⟨μ a0 a1 a2 a3 a4 a5 + 1, key _ a0 a1 a2 a3 a4 a5 h (Nat.lt_succ_self _)⟩
def Lp7 {A0 A1 A2 A3 A4 A5 A6 : Type} (B : (A0 → A1 → A2 → A3 → A4 → A5 → A6 → Prop) → A0 → A1 → A2 → A3 → A4 → A5 → A6 → Prop) : Nat → A0 → A1 → A2 → A3 → A4 → A5 → A6 → Prop
  | 0, _, _, _, _, _, _, _ => False
  | n + 1, a0, a1, a2, a3, a4, a5, a6 => B (Lp7 B n) a0 a1 a2 a3 a4 a5 a6
def LP7 {A0 A1 A2 A3 A4 A5 A6 : Type} (B : (A0 → A1 → A2 → A3 → A4 → A5 → A6 → Prop) → A0 → A1 → A2 → A3 → A4 → A5 → A6 → Prop) (a0 : A0) (a1 : A1) (a2 : A2) (a3 : A3) (a4 : A4) (a5 : A5) (a6 : A6) : Prop := ∃ n, Lp7 B n a0 a1 a2 a3 a4 a5 a6
theorem LP7_go {A0 A1 A2 A3 A4 A5 A6 : Type} {B : (A0 → A1 → A2 → A3 → A4 → A5 → A6 → Prop) → A0 → A1 → A2 → A3 → A4 → A5 → A6 → Prop} {V : A0 → A1 → A2 → A3 → A4 → A5 → A6 → Prop} (hB : ∀ K : A0 → A1 → A2 → A3 → A4 → A5 → A6 → Prop, (∀ a0 a1 a2 a3 a4 a5 a6, K a0 a1 a2 a3 a4 a5 a6 → V a0 a1 a2 a3 a4 a5 a6) → ∀ a0 a1 a2 a3 a4 a5 a6, B K a0 a1 a2 a3 a4 a5 a6 → V a0 a1 a2 a3 a4 a5 a6) : ∀ a0 a1 a2 a3 a4 a5 a6, LP7 B a0 a1 a2 a3 a4 a5 a6 → V a0 a1 a2 a3 a4 a5 a6 := by
  have key : ∀ n a0 a1 a2 a3 a4 a5 a6, Lp7 B n a0 a1 a2 a3 a4 a5 a6 → V a0 a1 a2 a3 a4 a5 a6 := by
    intro n
    induction n with
    | zero => intro a0 a1 a2 a3 a4 a5 a6 h; exact h.elim
    | succ n ih => intro a0 a1 a2 a3 a4 a5 a6 h; exact hB (Lp7 B n) ih a0 a1 a2 a3 a4 a5 a6 h
  intro a0 a1 a2 a3 a4 a5 a6 h
  obtain ⟨n, h⟩ := h
  exact key n a0 a1 a2 a3 a4 a5 a6 h
/-- the rule of loops: an invariant, a measure that falls -/
theorem LP7_of {A0 A1 A2 A3 A4 A5 A6 : Type} {B : (A0 → A1 → A2 → A3 → A4 → A5 → A6 → Prop) → A0 → A1 → A2 → A3 → A4 → A5 → A6 → Prop} (I : A0 → A1 → A2 → A3 → A4 → A5 → A6 → Prop) (μ : A0 → A1 → A2 → A3 → A4 → A5 → A6 → Nat) (hs : ∀ (K : A0 → A1 → A2 → A3 → A4 → A5 → A6 → Prop) (a0 : A0) (a1 : A1) (a2 : A2) (a3 : A3) (a4 : A4) (a5 : A5) (a6 : A6), I a0 a1 a2 a3 a4 a5 a6 → (∀ (b0 : A0) (b1 : A1) (b2 : A2) (b3 : A3) (b4 : A4) (b5 : A5) (b6 : A6), I b0 b1 b2 b3 b4 b5 b6 → μ b0 b1 b2 b3 b4 b5 b6 < μ a0 a1 a2 a3 a4 a5 a6 → K b0 b1 b2 b3 b4 b5 b6) → B K a0 a1 a2 a3 a4 a5 a6) (a0 : A0) (a1 : A1) (a2 : A2) (a3 : A3) (a4 : A4) (a5 : A5) (a6 : A6) (h : I a0 a1 a2 a3 a4 a5 a6) : LP7 B a0 a1 a2 a3 a4 a5 a6 := by
  have key : ∀ (n : Nat) (a0 : A0) (a1 : A1) (a2 : A2) (a3 : A3) (a4 : A4) (a5 : A5) (a6 : A6), I a0 a1 a2 a3 a4 a5 a6 → μ a0 a1 a2 a3 a4 a5 a6 < n → Lp7 B n a0 a1 a2 a3 a4 a5 a6 := by
    intro n
    induction n with
    | zero => intro a0 a1 a2 a3 a4 a5 a6 _ h; exact absurd h (Nat.not_lt_zero _)
    | succ n ih => intro a0 a1 a2 a3 a4 a5 a6 hI hm; exact hs (Lp7 B n) a0 a1 a2 a3 a4 a5 a6 hI (fun b0 b1 b2 b3 b4 b5 b6 hb hl => ih b0 b1 b2 b3 b4 b5 b6 hb (Nat.lt_of_lt_of_le hl (Nat.le_of_lt_succ hm)))
  exact ⟨μ a0 a1 a2 a3 a4 a5 a6 + 1, key _ a0 a1 a2 a3 a4 a5 a6 h (Nat.lt_succ_self _)⟩
def Lp8 {A0 A1 A2 A3 A4 A5 A6 A7 : Type} (B : (A0 → A1 → A2 → A3 → A4 → A5 → A6 → A7 → Prop) → A0 → A1 → A2 → A3 → A4 → A5 → A6 → A7 → Prop) : Nat → A0 → A1 → A2 → A3 → A4 → A5 → A6 → A7 → Prop
  | 0, _, _, _, _, _, _, _, _ => False
  | n + 1, a0, a1, a2, a3, a4, a5, a6, a7 => B (Lp8 B n) a0 a1 a2 a3 a4 a5 a6 a7
def LP8 {A0 A1 A2 A3 A4 A5 A6 A7 : Type} (B : (A0 → A1 → A2 → A3 → A4 → A5 → A6 → A7 → Prop) → A0 → A1 → A2 → A3 → A4 → A5 → A6 → A7 → Prop) (a0 : A0) (a1 : A1) (a2 : A2) (a3 : A3) (a4 : A4) (a5 : A5) (a6 : A6) (a7 : A7) : Prop := ∃ n, Lp8 B n a0 a1 a2 a3 a4 a5 a6 a7
theorem LP8_go {A0 A1 A2 A3 A4 A5 A6 A7 : Type} {B : (A0 → A1 → A2 → A3 → A4 → A5 → A6 → A7 → Prop) → A0 → A1 → A2 → A3 → A4 → A5 → A6 → A7 → Prop} {V : A0 → A1 → A2 → A3 → A4 → A5 → A6 → A7 → Prop} (hB : ∀ K : A0 → A1 → A2 → A3 → A4 → A5 → A6 → A7 → Prop, (∀ a0 a1 a2 a3 a4 a5 a6 a7, K a0 a1 a2 a3 a4 a5 a6 a7 → V a0 a1 a2 a3 a4 a5 a6 a7) → ∀ a0 a1 a2 a3 a4 a5 a6 a7, B K a0 a1 a2 a3 a4 a5 a6 a7 → V a0 a1 a2 a3 a4 a5 a6 a7) : ∀ a0 a1 a2 a3 a4 a5 a6 a7, LP8 B a0 a1 a2 a3 a4 a5 a6 a7 → V a0 a1 a2 a3 a4 a5 a6 a7 := by
  have key : ∀ n a0 a1 a2 a3 a4 a5 a6 a7, Lp8 B n a0 a1 a2 a3 a4 a5 a6 a7 → V a0 a1 a2 a3 a4 a5 a6 a7 := by
    intro n
    induction n with
    | zero => intro a0 a1 a2 a3 a4 a5 a6 a7 h; exact h.elim
    | succ n ih => intro a0 a1 a2 a3 a4 a5 a6 a7 h; exact hB (Lp8 B n) ih a0 a1 a2 a3 a4 a5 a6 a7 h
  intro a0 a1 a2 a3 a4 a5 a6 a7 h
  obtain ⟨n, h⟩ := h
  exact key n a0 a1 a2 a3 a4 a5 a6 a7 h
/-- the rule of loops: an invariant, a measure that falls -/
theorem LP8_of {A0 A1 A2 A3 A4 A5 A6 A7 : Type} {B : (A0 → A1 → A2 → A3 → A4 → A5 → A6 → A7 → Prop) → A0 → A1 → A2 → A3 → A4 → A5 → A6 → A7 → Prop} (I : A0 → A1 → A2 → A3 → A4 → A5 → A6 → A7 → Prop) (μ : A0 → A1 → A2 → A3 → A4 → A5 → A6 → A7 → Nat) (hs : ∀ (K : A0 → A1 → A2 → A3 → A4 → A5 → A6 → A7 → Prop) (a0 : A0) (a1 : A1) (a2 : A2) (a3 : A3) (a4 : A4) (a5 : A5) (a6 : A6) (a7 : A7), I a0 a1 a2 a3 a4 a5 a6 a7 → (∀ (b0 : A0) (b1 : A1) (b2 : A2) (b3 : A3) (b4 : A4) (b5 : A5) (b6 : A6) (b7 : A7), I b0 b1 b2 b3 b4 b5 b6 b7 → μ b0 b1 b2 b3 b4 b5 b6 b7 < μ a0 a1 a2 a3 a4 a5 a6 a7 → K b0 b1 b2 b3 b4 b5 b6 b7) → B K a0 a1 a2 a3 a4 a5 a6 a7) (a0 : A0) (a1 : A1) (a2 : A2) (a3 : A3) (a4 : A4) (a5 : A5) (a6 : A6) (a7 : A7) (h : I a0 a1 a2 a3 a4 a5 a6 a7) : LP8 B a0 a1 a2 a3 a4 a5 a6 a7 := by
  have key : ∀ (n : Nat) (a0 : A0) (a1 : A1) (a2 : A2) (a3 : A3) (a4 : A4) (a5 : A5) (a6 : A6) (a7 : A7), I a0 a1 a2 a3 a4 a5 a6 a7 → μ a0 a1 a2 a3 a4 a5 a6 a7 < n → Lp8 B n a0 a1 a2 a3 a4 a5 a6 a7 := by
    intro n
    induction n with
    | zero => intro a0 a1 a2 a3 a4 a5 a6 a7 _ h; exact absurd h (Nat.not_lt_zero _)
    | succ n ih => intro a0 a1 a2 a3 a4 a5 a6 a7 hI hm; exact hs (Lp8 B n) a0 a1 a2 a3 a4 a5 a6 a7 hI (fun b0 b1 b2 b3 b4 b5 b6 b7 hb hl => ih b0 b1 b2 b3 b4 b5 b6 b7 hb (Nat.lt_of_lt_of_le hl (Nat.le_of_lt_succ hm)))
  exact ⟨μ a0 a1 a2 a3 a4 a5 a6 a7 + 1, key _ a0 a1 a2 a3 a4 a5 a6 a7 h (Nat.lt_succ_self _)⟩
def Lp9 {A0 A1 A2 A3 A4 A5 A6 A7 A8 : Type} (B : (A0 → A1 → A2 → A3 → A4 → A5 → A6 → A7 → A8 → Prop) → A0 → A1 → A2 → A3 → A4 → A5 → A6 → A7 → A8 → Prop) : Nat → A0 → A1 → A2 → A3 → A4 → A5 → A6 → A7 → A8 → Prop
  | 0, _, _, _, _, _, _, _, _, _ => False
  | n + 1, a0, a1, a2, a3, a4, a5, a6, a7, a8 => B (Lp9 B n) a0 a1 a2 a3 a4 a5 a6 a7 a8
def LP9 {A0 A1 A2 A3 A4 A5 A6 A7 A8 : Type} (B : (A0 → A1 → A2 → A3 → A4 → A5 → A6 → A7 → A8 → Prop) → A0 → A1 → A2 → A3 → A4 → A5 → A6 → A7 → A8 → Prop) (a0 : A0) (a1 : A1) (a2 : A2) (a3 : A3) (a4 : A4) (a5 : A5) (a6 : A6) (a7 : A7) (a8 : A8) : Prop := ∃ n, Lp9 B n a0 a1 a2 a3 a4 a5 a6 a7 a8
theorem LP9_go {A0 A1 A2 A3 A4 A5 A6 A7 A8 : Type} {B : (A0 → A1 → A2 → A3 → A4 → A5 → A6 → A7 → A8 → Prop) → A0 → A1 → A2 → A3 → A4 → A5 → A6 → A7 → A8 → Prop} {V : A0 → A1 → A2 → A3 → A4 → A5 → A6 → A7 → A8 → Prop} (hB : ∀ K : A0 → A1 → A2 → A3 → A4 → A5 → A6 → A7 → A8 → Prop, (∀ a0 a1 a2 a3 a4 a5 a6 a7 a8, K a0 a1 a2 a3 a4 a5 a6 a7 a8 → V a0 a1 a2 a3 a4 a5 a6 a7 a8) → ∀ a0 a1 a2 a3 a4 a5 a6 a7 a8, B K a0 a1 a2 a3 a4 a5 a6 a7 a8 → V a0 a1 a2 a3 a4 a5 a6 a7 a8) : ∀ a0 a1 a2 a3 a4 a5 a6 a7 a8, LP9 B a0 a1 a2 a3 a4 a5 a6 a7 a8 → V a0 a1 a2 a3 a4 a5 a6 a7 a8 := by
  have key : ∀ n a0 a1 a2 a3 a4 a5 a6 a7 a8, Lp9 B n a0 a1 a2 a3 a4 a5 a6 a7 a8 → V a0 a1 a2 a3 a4 a5 a6 a7 a8 := by
    intro n
    induction n with
    | zero => intro a0 a1 a2 a3 a4 a5 a6 a7 a8 h; exact h.elim
    | succ n ih => intro a0 a1 a2 a3 a4 a5 a6 a7 a8 h; exact hB (Lp9 B n) ih a0 a1 a2 a3 a4 a5 a6 a7 a8 h
  intro a0 a1 a2 a3 a4 a5 a6 a7 a8 h
  obtain ⟨n, h⟩ := h
  exact key n a0 a1 a2 a3 a4 a5 a6 a7 a8 h
/-- the rule of loops: an invariant, a measure that falls -/
theorem LP9_of {A0 A1 A2 A3 A4 A5 A6 A7 A8 : Type} {B : (A0 → A1 → A2 → A3 → A4 → A5 → A6 → A7 → A8 → Prop) → A0 → A1 → A2 → A3 → A4 → A5 → A6 → A7 → A8 → Prop} (I : A0 → A1 → A2 → A3 → A4 → A5 → A6 → A7 → A8 → Prop) (μ : A0 → A1 → A2 → A3 → A4 → A5 → A6 → A7 → A8 → Nat) (hs : ∀ (K : A0 → A1 → A2 → A3 → A4 → A5 → A6 → A7 → A8 → Prop) (a0 : A0) (a1 : A1) (a2 : A2) (a3 : A3) (a4 : A4) (a5 : A5) (a6 : A6) (a7 : A7) (a8 : A8), I a0 a1 a2 a3 a4 a5 a6 a7 a8 → (∀ (b0 : A0) (b1 : A1) (b2 : A2) (b3 : A3) (b4 : A4) (b5 : A5) (b6 : A6) (b7 : A7) (b8 : A8), I b0 b1 b2 b3 b4 b5 b6 b7 b8 → μ b0 b1 b2 b3 b4 b5 b6 b7 b8 < μ a0 a1 a2 a3 a4 a5 a6 a7 a8 → K b0 b1 b2 b3 b4 b5 b6 b7 b8) → B K a0 a1 a2 a3 a4 a5 a6 a7 a8) (a0 : A0) (a1 : A1) (a2 : A2) (a3 : A3) (a4 : A4) (a5 : A5) (a6 : A6) (a7 : A7) (a8 : A8) (h : I a0 a1 a2 a3 a4 a5 a6 a7 a8) : LP9 B a0 a1 a2 a3 a4 a5 a6 a7 a8 := by
  have key : ∀ (n : Nat) (a0 : A0) (a1 : A1) (a2 : A2) (a3 : A3) (a4 : A4) (a5 : A5) (a6 : A6) (a7 : A7) (a8 : A8), I a0 a1 a2 a3 a4 a5 a6 a7 a8 → μ a0 a1 a2 a3 a4 a5 a6 a7 a8 < n → Lp9 B n a0 a1 a2 a3 a4 a5 a6 a7 a8 := by
    intro n
    induction n with
    | zero => intro a0 a1 a2 a3 a4 a5 a6 a7 a8 _ h; exact absurd h (Nat.not_lt_zero _)
    | succ n ih => intro a0 a1 a2 a3 a4 a5 a6 a7 a8 hI hm; exact hs (Lp9 B n) a0 a1 a2 a3 a4 a5 a6 a7 a8 hI (fun b0 b1 b2 b3 b4 b5 b6 b7 b8 hb hl => ih b0 b1 b2 b3 b4 b5 b6 b7 b8 hb (Nat.lt_of_lt_of_le hl (Nat.le_of_lt_succ hm)))
  exact ⟨μ a0 a1 a2 a3 a4 a5 a6 a7 a8 + 1, key _ a0 a1 a2 a3 a4 a5 a6 a7 a8 h (Nat.lt_succ_self _)⟩
