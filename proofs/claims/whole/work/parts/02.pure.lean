/-! the pure picture: sets as naturals, the two walks' common functions -/
def pu_b (b : Bool) : Int32 := match b with
  | true => 1
  | false => 0
theorem pu_br {b : Bool} {A B : Prop} (f : b = false → A) (g : b = true → B) : (pu_b b = 0 → A) ∧ (¬ pu_b b = 0 → B) := by
  cases b
  · exact ⟨fun _ => f rfl, fun h => absurd rfl h⟩
  · exact ⟨fun h => absurd h (by decide), fun _ => g rfl⟩
theorem pu_br' {x : Int32} {b : Bool} {A B : Prop} (hx : x = pu_b b) (f : b = false → A) (g : b = true → B) : (x = 0 → A) ∧ (¬ x = 0 → B) := by
  rw [hx]
  exact pu_br f g
theorem pu_nar (b : Bool) : narrow .boolean (.int (pu_b b)) = .int (pu_b b) := by cases b <;> rfl
theorem pu_nor (a b : Nat) : nI a ||| nI b = nI (a ||| b) := by
  apply Int32.toBitVec_inj.1
  show BitVec.ofNat 32 a ||| BitVec.ofNat 32 b = BitVec.ofNat 32 (a ||| b)
  apply BitVec.eq_of_getLsbD_eq
  intro i hi
  simp [hi]
theorem pu_1sh {g : Nat} (h : g < 31) : (1 : Int32) <<< (nI g &&& 31) = nI (2 ^ g) := by
  have h2 : 1 * 2 ^ g < 2 ^ 32 := by
    rw [Nat.one_mul]
    exact Nat.pow_lt_pow_right (by decide) (by omega)
  have e := pk_shlN (n := 1) (nI g &&& 31) g (s_l g (by omega)) h2
  rw [Nat.one_mul] at e
  exact e
theorem pu_pw {g k : Nat} (h : g < k) : 2 ^ g < 2 ^ k := Nat.pow_lt_pow_right (by decide) h
theorem pu_ple {g k : Nat} (h : g ≤ k) : 2 ^ g ≤ 2 ^ k := Nat.pow_le_pow_right (by decide) h
theorem pu_bitv {s g : Nat} (hs : s < 2 ^ 31) (hg : g < 31) : (nI s >>> (nI g &&& 31)) &&& 1 = nI (s / 2 ^ g % 2) := by
  have h2 : s / 2 ^ g ≤ s := Nat.div_le_self _ _
  rw [pk_shrN hs (nI g &&& 31) g (s_l g (by omega))]
  exact pk_andN (by omega) 1 (by decide)
theorem pu_bit1 {s g : Nat} : s / 2 ^ g % 2 = 1 ↔ s.testBit g = true := by
  rw [Nat.testBit_eq_decide_div_mod_eq, decide_eq_true_iff]
theorem pu_and2 {s g : Nat} : s &&& 2 ^ g = 0 ↔ s.testBit g = false := by
  constructor
  · intro h
    have h2 := congrArg (fun z => z.testBit g) h
    simp only [Nat.testBit_and, Nat.testBit_two_pow_self, Bool.and_true, Nat.zero_testBit] at h2
    exact h2
  · intro h
    apply Nat.eq_of_testBit_eq
    intro i
    rw [Nat.testBit_and, Nat.zero_testBit, Nat.testBit_two_pow]
    by_cases hi : g = i
    · subst hi
      rw [h]
      rfl
    · rw [decide_eq_false hi, Bool.and_false]
/-! part and proper part -/
def pu_p (a b : Nat) : Bool := decide (a &&& b = a)
def pu_q (a b : Nat) : Bool := !decide (a = b) && pu_p a b
theorem pu_p_iff {a b : Nat} : pu_p a b = true ↔ ∀ i, a.testBit i = true → b.testBit i = true := by
  unfold pu_p
  rw [decide_eq_true_iff]
  constructor
  · intro h i hi
    rw [← h, Nat.testBit_and, Bool.and_eq_true] at hi
    exact hi.2
  · intro h
    apply Nat.eq_of_testBit_eq
    intro i
    rw [Nat.testBit_and]
    cases h1 : a.testBit i
    · rfl
    · rw [h i h1]
      rfl
theorem pu_p_le {a b : Nat} (h : pu_p a b = true) : a ≤ b := by
  unfold pu_p at h
  rw [decide_eq_true_iff] at h
  rw [← h]
  exact Nat.and_le_right
theorem pu_q_lt {a b : Nat} (h : pu_q a b = true) : a < b := by
  unfold pu_q at h
  rw [Bool.and_eq_true, Bool.not_eq_true', decide_eq_false_iff_not] at h
  have := pu_p_le h.2
  omega
theorem pu_q_of {a b : Nat} (h : a < b) : pu_q a b = pu_p a b := by
  unfold pu_q
  rw [decide_eq_false (by omega)]
  rfl
theorem pu_q_ge {a b : Nat} (h : b ≤ a) : pu_q a b = false := by
  cases hq : pu_q a b
  · rfl
  · have := pu_q_lt hq
    omega
theorem pu_p_and {x a b : Nat} : pu_p x (a &&& b) = true ↔ pu_p x a = true ∧ pu_p x b = true := by
  rw [pu_p_iff, pu_p_iff, pu_p_iff]
  constructor
  · intro h
    constructor
    · intro i hi
      have := h i hi
      rw [Nat.testBit_and, Bool.and_eq_true] at this
      exact this.1
    · intro i hi
      have := h i hi
      rw [Nat.testBit_and, Bool.and_eq_true] at this
      exact this.2
  · intro h i hi
    rw [Nat.testBit_and, h.1 i hi, h.2 i hi]
    rfl
/-! the meet of the rows of the objects that t names -/
def pu_a (R : Nat → Nat) (t : Nat → Bool) (z : Nat) : Nat → Nat
  | 0 => z
  | i + 1 => if t i = true then pu_a R t z i &&& R i else pu_a R t z i
theorem pu_a_t {R : Nat → Nat} {t : Nat → Bool} {z i : Nat} (h : t i = true) : pu_a R t z (i + 1) = pu_a R t z i &&& R i := if_pos h
theorem pu_a_f {R : Nat → Nat} {t : Nat → Bool} {z i : Nat} (h : t i = false) : pu_a R t z (i + 1) = pu_a R t z i := if_neg (by rw [h]; decide)
theorem pu_a_le (R : Nat → Nat) (t : Nat → Bool) (z : Nat) : ∀ i, pu_a R t z i ≤ z := by
  intro i
  induction i with
  | zero => exact Nat.le_refl z
  | succ i ih =>
    cases h : t i
    · rw [pu_a_f h]
      exact ih
    · rw [pu_a_t h]
      exact Nat.le_trans Nat.and_le_left ih
theorem pu_a_congr {R : Nat → Nat} {t t' : Nat → Bool} {z : Nat} : ∀ i, (∀ g, g < i → t g = t' g) → pu_a R t z i = pu_a R t' z i := by
  intro i
  induction i with
  | zero => intro _; rfl
  | succ i ih =>
    intro h
    have e := ih (fun g hg => h g (by omega))
    have hi := h i (by omega)
    cases h2 : t i
    · rw [pu_a_f h2, pu_a_f (hi ▸ h2), e]
    · rw [pu_a_t h2, pu_a_t (hi ▸ h2), e]
theorem pu_a_p {R : Nat → Nat} {t : Nat → Bool} {z x : Nat} : ∀ i, pu_p x (pu_a R t z i) = true ↔ pu_p x z = true ∧ ∀ g, g < i → t g = true → pu_p x (R g) = true := by
  intro i
  induction i with
  | zero => exact ⟨fun h => ⟨h, fun g hg => absurd hg (by omega)⟩, fun h => h.1⟩
  | succ i ih =>
    cases h : t i
    · rw [pu_a_f h, ih]
      constructor
      · rintro ⟨h1, h2⟩
        refine ⟨h1, fun g hg ht => ?_⟩
        by_cases hgi : g = i
        · subst hgi
          rw [h] at ht
          exact absurd ht (by decide)
        · exact h2 g (by omega) ht
      · rintro ⟨h1, h2⟩
        exact ⟨h1, fun g hg ht => h2 g (by omega) ht⟩
    · rw [pu_a_t h, pu_p_and, ih]
      constructor
      · rintro ⟨⟨h1, h2⟩, h3⟩
        refine ⟨h1, fun g hg ht => ?_⟩
        by_cases hgi : g = i
        · subst hgi
          exact h3
        · exact h2 g (by omega) ht
      · rintro ⟨h1, h2⟩
        exact ⟨⟨h1, fun g hg ht => h2 g (by omega) ht⟩, h2 i (by omega) h⟩
def pu_c (R : Nat → Nat) (n z s : Nat) : Nat := pu_a R (fun g => pu_p s (R g)) z n
def pu_k (R : Nat → Nat) (n z s : Nat) : Bool := decide (pu_c R n z s = s)
theorem pu_c_le (R : Nat → Nat) (n z s : Nat) : pu_c R n z s ≤ z := pu_a_le _ _ _ _
/-! the extent -/
def pu_e (R : Nat → Nat) (s : Nat) : Nat → Nat
  | 0 => 0
  | i + 1 => if pu_p s (R i) = true then pu_e R s i ||| 2 ^ i else pu_e R s i
theorem pu_e_t {R : Nat → Nat} {s i : Nat} (h : pu_p s (R i) = true) : pu_e R s (i + 1) = pu_e R s i ||| 2 ^ i := if_pos h
theorem pu_e_f {R : Nat → Nat} {s i : Nat} (h : pu_p s (R i) = false) : pu_e R s (i + 1) = pu_e R s i := if_neg (by rw [h]; decide)
theorem pu_e_lt (R : Nat → Nat) (s : Nat) : ∀ i, pu_e R s i < 2 ^ i := by
  intro i
  induction i with
  | zero => exact Nat.one_pos
  | succ i ih =>
    have h1 : 2 ^ i < 2 ^ (i + 1) := pu_pw (by omega)
    cases h : pu_p s (R i)
    · rw [pu_e_f h]
      omega
    · rw [pu_e_t h]
      exact Nat.or_lt_two_pow (by omega) h1
theorem pu_e_bit (R : Nat → Nat) (s g : Nat) : ∀ i, g < i → (pu_e R s i).testBit g = pu_p s (R g) := by
  intro i
  induction i with
  | zero => intro h; omega
  | succ i ih =>
    intro hg
    by_cases hgi : g = i
    · subst hgi
      have hz : (pu_e R s g).testBit g = false := Nat.testBit_lt_two_pow (pu_e_lt R s g)
      cases h : pu_p s (R g)
      · rw [pu_e_f h, hz]
      · rw [pu_e_t h, Nat.testBit_or, Nat.testBit_two_pow_self, Bool.or_true]
    · have e := ih (by omega)
      cases h : pu_p s (R i)
      · rw [pu_e_f h, e]
      · rw [pu_e_t h, Nat.testBit_or, e, Nat.testBit_two_pow_of_ne (by omega), Bool.or_false]
/-- the reference's closure: the meet over the extent's bits -/
theorem pu_c_e (R : Nat → Nat) (n z s : Nat) : pu_a R (fun g => (pu_e R s n).testBit g) z n = pu_c R n z s := pu_a_congr n (fun g hg => pu_e_bit R s g n hg)
/-! counts, searches -/
def pu_n (p : Nat → Bool) : Nat → Nat
  | 0 => 0
  | i + 1 => if p i = true then pu_n p i + 1 else pu_n p i
theorem pu_n_t {p : Nat → Bool} {i : Nat} (h : p i = true) : pu_n p (i + 1) = pu_n p i + 1 := if_pos h
theorem pu_n_f {p : Nat → Bool} {i : Nat} (h : p i = false) : pu_n p (i + 1) = pu_n p i := if_neg (by rw [h]; decide)
theorem pu_n_le (p : Nat → Bool) : ∀ i, pu_n p i ≤ i := by
  intro i
  induction i with
  | zero => exact Nat.le_refl 0
  | succ i ih =>
    cases h : p i
    · rw [pu_n_f h]
      omega
    · rw [pu_n_t h]
      omega
theorem pu_n_0 {p : Nat → Bool} : ∀ i, (∀ j, j < i → p j = false) → pu_n p i = 0 := by
  intro i
  induction i with
  | zero => intro _; rfl
  | succ i ih =>
    intro h
    rw [pu_n_f (h i (by omega))]
    exact ih (fun j hj => h j (by omega))
def pu_y (p : Nat → Bool) : Nat → Nat → Bool
  | 0, _ => false
  | r + 1, k => if p k = true then true else pu_y p r (k + 1)
theorem pu_y_t {p : Nat → Bool} {r k : Nat} (h : p k = true) : pu_y p (r + 1) k = true := if_pos h
theorem pu_y_f {p : Nat → Bool} {r k : Nat} (h : p k = false) : pu_y p (r + 1) k = pu_y p r (k + 1) := if_neg (by rw [h]; decide)
theorem pu_y_iff {p : Nat → Bool} : ∀ r k, pu_y p r k = true ↔ ∃ j, k ≤ j ∧ j < k + r ∧ p j = true := by
  intro r
  induction r with
  | zero =>
    intro k
    constructor
    · intro h
      exact absurd (show false = true from h) (by decide)
    · rintro ⟨j, h1, h2, _⟩
      omega
  | succ r ih =>
    intro k
    cases h : p k
    · rw [pu_y_f h, ih]
      constructor
      · rintro ⟨j, h1, h2, h3⟩
        exact ⟨j, by omega, by omega, h3⟩
      · rintro ⟨j, h1, h2, h3⟩
        by_cases hj : j = k
        · subst hj
          rw [h] at h3
          exact absurd h3 (by decide)
        · exact ⟨j, by omega, by omega, h3⟩
    · rw [pu_y_t h]
      exact ⟨fun _ => ⟨k, by omega, by omega, h⟩, fun _ => rfl⟩
theorem pu_beq {a b : Bool} (h : a = true ↔ b = true) : a = b := by
  cases a <;> cases b
  · rfl
  · exact (h.mpr rfl)
  · exact (h.mp rfl).symm
  · rfl
theorem pu_y_congr {p q : Nat → Bool} {r k r' k' : Nat} (h : (∃ j, k ≤ j ∧ j < k + r ∧ p j = true) ↔ (∃ j, k' ≤ j ∧ j < k' + r' ∧ q j = true)) : pu_y p r k = pu_y q r' k' := by
  apply pu_beq
  rw [pu_y_iff, pu_y_iff]
  exact h
def pu_s (p : Nat → Bool) (x : Int32) : Nat → Nat → Int32
  | 0, _ => -1
  | r + 1, k => if p k = true then (if nI (pu_n p k) = x then nI k else pu_s p x r (k + 1)) else pu_s p x r (k + 1)
theorem pu_s_f {p : Nat → Bool} {x : Int32} {r k : Nat} (h : p k = false) : pu_s p x (r + 1) k = pu_s p x r (k + 1) := if_neg (by rw [h]; decide)
theorem pu_s_t {p : Nat → Bool} {x : Int32} {r k : Nat} (h : p k = true) (h2 : nI (pu_n p k) = x) : pu_s p x (r + 1) k = nI k := (if_pos h).trans (if_pos h2)
theorem pu_s_n {p : Nat → Bool} {x : Int32} {r k : Nat} (h : p k = true) (h2 : ¬ nI (pu_n p k) = x) : pu_s p x (r + 1) k = pu_s p x r (k + 1) := (if_pos h).trans (if_neg h2)
def pu_x (p : Nat → Bool) (x : Int32) : Nat → Nat → Int32
  | 0, _ => -1
  | r + 1, k => if nI k ≤ x then pu_x p x r (k + 1) else if p k = true then nI k else pu_x p x r (k + 1)
theorem pu_x_l {p : Nat → Bool} {x : Int32} {r k : Nat} (h : nI k ≤ x) : pu_x p x (r + 1) k = pu_x p x r (k + 1) := if_pos h
theorem pu_x_t {p : Nat → Bool} {x : Int32} {r k : Nat} (h : ¬ nI k ≤ x) (h2 : p k = true) : pu_x p x (r + 1) k = nI k := (if_neg h).trans (if_pos h2)
theorem pu_x_f {p : Nat → Bool} {x : Int32} {r k : Nat} (h2 : p k = false) : pu_x p x (r + 1) k = pu_x p x r (k + 1) := by
  by_cases h : nI k ≤ x
  · exact if_pos h
  · exact (if_neg h).trans (if_neg (by rw [h2]; decide))
