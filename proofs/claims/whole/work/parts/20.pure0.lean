/-! the pure side: rows and numbers -/
theorem upF_eq (F : gS) (k j : Nat) (v : Int32) : upF F k j v k = upd (F k) j v := if_pos rfl
theorem upF_ne (F : gS) {k q : Nat} (j : Nat) (v : Int32) (h : q ≠ k) : upF F k j v q = F q := if_neg h
theorem upR_eq (F : gS) (k : Nat) (f : Nat → Int32) : upR F k f k = f := if_pos rfl
theorem upR_ne (F : gS) {k q : Nat} (f : Nat → Int32) (h : q ≠ k) : upR F k f q = F q := if_neg h
theorem upF_R (F : gS) (k j : Nat) (v : Int32) : upF F k j v = upR F k (upd (F k) j v) := rfl
theorem upR_upR (F : gS) (k : Nat) (f g : Nat → Int32) : upR (upR F k f) k g = upR F k g := by
  funext q; unfold upR; split <;> rfl
theorem upR_self (F : gS) (k : Nat) : upR F k (F k) = F := by
  funext q; unfold upR; split
  · rename_i h; rw [h]
  · rfl
theorem upF_upR (F : gS) (k j : Nat) (f : Nat → Int32) (v : Int32) : upF (upR F k f) k j v = upR F k (upd f j v) := by
  rw [upF_R, upR_eq, upR_upR]
def pt (c : Nat) (g f : Nat → Int32) : Nat → Int32 := fun j => if j < c then g j else f j
theorem pt_lt {c j : Nat} (g f : Nat → Int32) (h : j < c) : pt c g f j = g j := if_pos h
theorem pt_ge {c j : Nat} (g f : Nat → Int32) (h : c ≤ j) : pt c g f j = f j := if_neg (by omega)
theorem pt_0 (g f : Nat → Int32) : pt 0 g f = f := by funext j; exact pt_ge g f (Nat.zero_le j)
theorem pt_s (c : Nat) (g f : Nat → Int32) {v : Int32} (hv : v = g c) : upd (pt c g f) c v = pt (c + 1) g f := by
  subst hv
  funext j
  rcases Nat.lt_trichotomy j c with h | h | h
  · rw [pk_un (by omega), pt_lt g f h, pt_lt g f (by omega)]
  · subst h; rw [pk_us, pt_lt g f (by omega)]
  · rw [pk_un (by omega), pt_ge g f (by omega), pt_ge g f (by omega)]
theorem upd_self (f : Nat → Int32) (k : Nat) {v : Int32} (h : v = f k) : upd f k v = f := by
  subst h; funext j; unfold upd; split
  · rename_i q; rw [q]
  · rfl
theorem if_y {c A B : Prop} {d : Decidable c} (h : c) (a : A) : @ite Prop c d A B := by rw [if_pos h]; exact a
theorem if_n {c A B : Prop} {d : Decidable c} (h : ¬ c) (b : B) : @ite Prop c d A B := by rw [if_neg h]; exact b
theorem if_c {c A B : Prop} {d : Decidable c} (a : c → A) (b : ¬ c → B) : @ite Prop c d A B := by
  by_cases h : c
  · rw [if_pos h]; exact a h
  · rw [if_neg h]; exact b h
/-! loops that count up -/
theorem for1 {B : (Int32 → Prop) → Int32 → Prop} (N : Nat) (I : Nat → Prop) (hN : N < 2 ^ 31) (hs : ∀ (K : Int32 → Prop) (c : Nat), c < N → I c → (I (c + 1) → K (nI c + 1)) → B K (nI c)) (he : ∀ (K : Int32 → Prop), I N → B K (nI N)) (c : Nat) (hc : c ≤ N) (h : I c) : LP1 B (nI c) := by
  refine LP1_of (fun x => ∃ c, c ≤ N ∧ x = nI c ∧ I c) (fun x => N - x.toNatClampNeg) (fun K x hI hK => ?_) (nI c) ⟨c, hc, rfl, h⟩
  obtain ⟨c, hc, rfl, hI⟩ := hI
  rcases Nat.lt_or_ge c N with q | q
  · refine hs K c q hI (fun h' => hK _ ⟨c + 1, q, nI_1 c, h'⟩ ?_)
    rw [nI_1, nI_clamp (by omega), nI_clamp (by omega)]; omega
  · obtain rfl : c = N := by omega
    exact he K hI
theorem for2 {A : Type} {B : (A → Int32 → Prop) → A → Int32 → Prop} (N : Nat) (I : Nat → A → Prop) (hN : N < 2 ^ 31) (hs : ∀ (K : A → Int32 → Prop) (c : Nat) (a : A), c < N → I c a → (∀ a', I (c + 1) a' → K a' (nI c + 1)) → B K a (nI c)) (he : ∀ (K : A → Int32 → Prop) (a : A), I N a → B K a (nI N)) (c : Nat) (a : A) (hc : c ≤ N) (h : I c a) : LP2 B a (nI c) := by
  refine LP2_of (fun a x => ∃ c, c ≤ N ∧ x = nI c ∧ I c a) (fun _ x => N - x.toNatClampNeg) (fun K a x hI hK => ?_) a (nI c) ⟨c, hc, rfl, h⟩
  obtain ⟨c, hc, rfl, hI⟩ := hI
  rcases Nat.lt_or_ge c N with q | q
  · refine hs K c a q hI (fun a' h' => hK a' _ ⟨c + 1, q, nI_1 c, h'⟩ ?_)
    show N - (nI c + 1).toNatClampNeg < N - (nI c).toNatClampNeg
    rw [nI_1, nI_clamp (by omega), nI_clamp (by omega)]; omega
  · obtain rfl : c = N := by omega
    exact he K a hI
theorem for3 {A A1 : Type} {B : (A → A1 → Int32 → Prop) → A → A1 → Int32 → Prop} (N : Nat) (I : Nat → A → A1 → Prop) (hN : N < 2 ^ 31) (hs : ∀ (K : A → A1 → Int32 → Prop) (c : Nat) (a : A) (b : A1), c < N → I c a b → (∀ a' b', I (c + 1) a' b' → K a' b' (nI c + 1)) → B K a b (nI c)) (he : ∀ (K : A → A1 → Int32 → Prop) (a : A) (b : A1), I N a b → B K a b (nI N)) (c : Nat) (a : A) (b : A1) (hc : c ≤ N) (h : I c a b) : LP3 B a b (nI c) := by
  refine LP3_of (fun a b x => ∃ c, c ≤ N ∧ x = nI c ∧ I c a b) (fun _ _ x => N - x.toNatClampNeg) (fun K a b x hI hK => ?_) a b (nI c) ⟨c, hc, rfl, h⟩
  obtain ⟨c, hc, rfl, hI⟩ := hI
  rcases Nat.lt_or_ge c N with q | q
  · refine hs K c a b q hI (fun a' b' h' => hK a' b' _ ⟨c + 1, q, nI_1 c, h'⟩ ?_)
    show N - (nI c + 1).toNatClampNeg < N - (nI c).toNatClampNeg
    rw [nI_1, nI_clamp (by omega), nI_clamp (by omega)]; omega
  · obtain rfl : c = N := by omega
    exact he K a b hI
theorem for4 {A A1 A2 : Type} {B : (A → A1 → A2 → Int32 → Prop) → A → A1 → A2 → Int32 → Prop} (N : Nat) (I : Nat → A → A1 → A2 → Prop) (hN : N < 2 ^ 31) (hs : ∀ (K : A → A1 → A2 → Int32 → Prop) (c : Nat) (a : A) (b : A1) (d : A2), c < N → I c a b d → (∀ a' b' d', I (c + 1) a' b' d' → K a' b' d' (nI c + 1)) → B K a b d (nI c)) (he : ∀ (K : A → A1 → A2 → Int32 → Prop) (a : A) (b : A1) (d : A2), I N a b d → B K a b d (nI N)) (c : Nat) (a : A) (b : A1) (d : A2) (hc : c ≤ N) (h : I c a b d) : LP4 B a b d (nI c) := by
  refine LP4_of (fun a b d x => ∃ c, c ≤ N ∧ x = nI c ∧ I c a b d) (fun _ _ _ x => N - x.toNatClampNeg) (fun K a b d x hI hK => ?_) a b d (nI c) ⟨c, hc, rfl, h⟩
  obtain ⟨c, hc, rfl, hI⟩ := hI
  rcases Nat.lt_or_ge c N with q | q
  · refine hs K c a b d q hI (fun a' b' d' h' => hK a' b' d' _ ⟨c + 1, q, nI_1 c, h'⟩ ?_)
    show N - (nI c + 1).toNatClampNeg < N - (nI c).toNatClampNeg
    rw [nI_1, nI_clamp (by omega), nI_clamp (by omega)]; omega
  · obtain rfl : c = N := by omega
    exact he K a b d hI
theorem for6 {A A1 A2 A3 A4 : Type} {B : (A → A1 → A2 → A3 → A4 → Int32 → Prop) → A → A1 → A2 → A3 → A4 → Int32 → Prop} (N : Nat) (I : Nat → A → A1 → A2 → A3 → A4 → Prop) (hN : N < 2 ^ 31) (hs : ∀ (K : A → A1 → A2 → A3 → A4 → Int32 → Prop) (c : Nat) (a : A) (b : A1) (d : A2) (e : A3) (f : A4), c < N → I c a b d e f → (∀ a' b' d' e' f', I (c + 1) a' b' d' e' f' → K a' b' d' e' f' (nI c + 1)) → B K a b d e f (nI c)) (he : ∀ (K : A → A1 → A2 → A3 → A4 → Int32 → Prop) (a : A) (b : A1) (d : A2) (e : A3) (f : A4), I N a b d e f → B K a b d e f (nI N)) (c : Nat) (a : A) (b : A1) (d : A2) (e : A3) (f : A4) (hc : c ≤ N) (h : I c a b d e f) : LP6 B a b d e f (nI c) := by
  refine LP6_of (fun a b d e f x => ∃ c, c ≤ N ∧ x = nI c ∧ I c a b d e f) (fun _ _ _ _ _ x => N - x.toNatClampNeg) (fun K a b d e f x hI hK => ?_) a b d e f (nI c) ⟨c, hc, rfl, h⟩
  obtain ⟨c, hc, rfl, hI⟩ := hI
  rcases Nat.lt_or_ge c N with q | q
  · refine hs K c a b d e f q hI (fun a' b' d' e' f' h' => hK a' b' d' e' f' _ ⟨c + 1, q, nI_1 c, h'⟩ ?_)
    show N - (nI c + 1).toNatClampNeg < N - (nI c).toNatClampNeg
    rw [nI_1, nI_clamp (by omega), nI_clamp (by omega)]; omega
  · obtain rfl : c = N := by omega
    exact he K a b d e f hI
/-! small numbers -/
def sm (B : Nat) (x : Int32) : Prop := ∃ a : Nat, a ≤ B ∧ x = nI a
theorem sm_mono {A B : Nat} {x : Int32} (h : sm A x) (q : A ≤ B) : sm B x := by
  obtain ⟨a, h1, h2⟩ := h; exact ⟨a, by omega, h2⟩
theorem nb0 : vp_nar .boolean 0 = 0 := by decide +kernel
theorem nb1 : vp_nar .boolean 1 = 1 := by decide +kernel
theorem as_sub (a b d : Int32) : a + (b - d) = a + b - d := by
  rw [Int32.sub_eq_add_neg, Int32.sub_eq_add_neg, Int32.add_assoc]
/-- sums over a row's begin -/
def sN (f : Nat → Int32) : Nat → Int32
  | 0 => 0
  | n + 1 => sN f n + f n
theorem sN_cg {f g : Nat → Int32} : ∀ n, (∀ c, c < n → f c = g c) → sN f n = sN g n
  | 0, _ => rfl
  | n + 1, h => by
    show sN f n + f n = sN g n + g n
    rw [sN_cg n (fun c q => h c (by omega)), h n (by omega)]
theorem sN_add (f g : Nat → Int32) : ∀ n, sN (fun c => f c + g c) n = sN f n + sN g n
  | 0 => rfl
  | n + 1 => by
    show sN (fun c => f c + g c) n + (f n + g n) = sN f n + f n + (sN g n + g n)
    rw [sN_add f g n]
    grind
theorem sN_0 : ∀ n, sN (fun _ => 0) n = 0
  | 0 => rfl
  | n + 1 => by show sN (fun _ => 0) n + 0 = 0; rw [sN_0 n]; rfl
/-! one tick; ticks -/
def tk (h w : Int32) : Int32 := w + (h - w / 10)
def wN : Nat → Int32 → Int32 → Int32
  | 0, _, w => w
  | n + 1, h, w => wN n h (tk h w)
def bO (t w : Int32) : Int32 := if t ≤ 0 then 0 else if w ≤ 60 then 0 else (w - 60) / (t + 2)
def bN : Nat → Int32 → Int32 → Int32 → Int32
  | 0, _, _, _ => 0
  | n + 1, h, t, w => bO t (tk h w) + bN n h t (tk h w)
theorem wN_fix {h w : Int32} (q : tk h w = w) : ∀ n, wN n h w = w
  | 0 => rfl
  | n + 1 => by show wN n h (tk h w) = w; rw [q]; exact wN_fix q n
theorem bN_fix {h t w : Int32} (q : tk h w = w) : ∀ n, bN n h t w = nI n * bO t w
  | 0 => by show (0 : Int32) = nI 0 * bO t w; rw [nI_0]; simp
  | n + 1 => by
    show bO t (tk h w) + bN n h t (tk h w) = _
    rw [q, bN_fix q n, nI_succ, Int32.add_mul]
    grind
theorem wN_s (h : Int32) : ∀ (n : Nat) (w : Int32), wN (n + 1) h w = tk h (wN n h w)
  | 0, w => rfl
  | n + 1, w => by show wN (n + 1) h (tk h w) = tk h (wN n h (tk h w)); exact wN_s h n (tk h w)
theorem bN_s (h t : Int32) : ∀ (n : Nat) (w : Int32), bN (n + 1) h t w = bN n h t w + bO t (wN (n + 1) h w)
  | 0, w => by show bO t (tk h w) + 0 = 0 + bO t (tk h w); grind
  | n + 1, w => by
    show bO t (tk h w) + bN (n + 1) h t (tk h w) = bO t (tk h w) + bN n h t (tk h w) + bO t (wN (n + 1) h (tk h w))
    rw [bN_s h t n (tk h w)]; grind
theorem bO_0 (w : Int32) : bO 0 w = 0 := rfl
theorem bN_0 (h : Int32) : ∀ n w, bN n h 0 w = 0
  | 0, _ => rfl
  | n + 1, w => by show bO 0 (tk h w) + bN n h 0 (tk h w) = 0; rw [bN_0 h n, bO_0]; rfl
theorem tk_n {h a : Nat} (ha : a < 2 ^ 30) (hh : h < 2 ^ 30) : tk (nI h) (nI a) = nI (a + h - a / 10) := by
  unfold tk
  have e : nI a / 10 = nI (a / 10) := pk_div (d := 10) (by omega) (by omega) (by omega)
  rw [e, as_sub, nI_add, pk_sub (by omega)]
theorem tk_sm {h w : Int32} (hh : sm 81 h) (hw : sm 819 w) : sm 819 (tk h w) := by
  obtain ⟨b, hb, rfl⟩ := hh
  obtain ⟨a, ha, rfl⟩ := hw
  rw [tk_n (by omega) (by omega)]
  exact ⟨_, by omega, rfl⟩
theorem wN_sm {h : Int32} (hh : sm 81 h) : ∀ n w, sm 819 w → sm 819 (wN n h w)
  | 0, _, q => q
  | n + 1, w, q => wN_sm hh n _ (tk_sm hh q)
theorem mul_sm {A B : Nat} {x y : Int32} (hx : sm A x) (hy : sm B y) : sm (A * B) (x * y) := by
  obtain ⟨a, ha, rfl⟩ := hx
  obtain ⟨b, hb, rfl⟩ := hy
  exact ⟨a * b, Nat.mul_le_mul ha hb, pk_mul a b⟩
