section
/-! rows of the kit, pasted: nI arithmetic, masks, shifts, branches by naturals -/
theorem pk_us {f : Nat → Int32} {k : Nat} {x : Int32} : upd f k x k = x := if_pos rfl
theorem pk_un {f : Nat → Int32} {k j : Nat} {x : Int32} (h : j ≠ k) : upd f k x j = f j := if_neg h
theorem pk_sub {a b : Nat} (h : b ≤ a) : nI a - nI b = nI (a - b) := by
  obtain ⟨c, rfl⟩ : ∃ c, a = c + b := ⟨a - b, by omega⟩
  rw [← nI_add, Int32.add_sub_cancel, Nat.add_sub_cancel]
theorem pk_m1 (n : Nat) : nI (n + 1) + (-1) = nI n := by
  rw [← nI_1, Int32.add_assoc, show (1 : Int32) + (-1) = 0 from rfl, Int32.add_zero]
theorem pk_ix (x : Int32) {n : Nat} (hn : n < 2 ^ 31) : x < 0 ∨ nI n ≤ x ∨ ∃ j : Nat, j < n ∧ x = nI j := by
  by_cases h : x < 0
  · exact Or.inl h
  · obtain ⟨j, hj, rfl⟩ := nI_of h
    by_cases h2 : j < n
    · exact Or.inr (Or.inr ⟨j, h2, rfl⟩)
    · exact Or.inr (Or.inl (nI_le (by omega) hj))
theorem pk_le {x y : Int32} {A B : Prop} (a b : Nat) (f : a ≤ b → A) (g : b < a → B) (hx : x = nI a := by rfl) (hy : y = nI b := by rfl) (ha : a < 2 ^ 31 := by omega) (hb : b < 2 ^ 31 := by omega) : (x ≤ y → A) ∧ (¬ x ≤ y → B) := by
  subst hx hy
  rw [nI_leI ha hb]
  exact ⟨f, fun z => g (by omega)⟩
theorem pk_lt {x y : Int32} {A B : Prop} (a b : Nat) (f : a < b → A) (g : b ≤ a → B) (hx : x = nI a := by rfl) (hy : y = nI b := by rfl) (ha : a < 2 ^ 31 := by omega) (hb : b < 2 ^ 31 := by omega) : (x < y → A) ∧ (¬ x < y → B) := by
  subst hx hy
  rw [nI_ltI ha hb]
  exact ⟨f, fun z => g (by omega)⟩
theorem pk_eq {x y : Int32} {A B : Prop} (a b : Nat) (f : a = b → A) (g : a ≠ b → B) (hx : x = nI a := by rfl) (hy : y = nI b := by rfl) (ha : a < 2 ^ 31 := by omega) (hb : b < 2 ^ 31 := by omega) : (x = y → A) ∧ (¬ x = y → B) := by
  subst hx hy
  rw [nI_eq ha hb]
  exact ⟨f, g⟩
theorem pk_in {x : Int32} (n N : Nat) (h : n < N) (hx : x = nI n := by rfl) (hN : N < 2 ^ 31 := by omega) : vp_in x N := by
  subst hx
  exact vp_in_nI h hN
theorem pk_cl {x : Int32} (n : Nat) (hx : x = nI n := by rfl) (h : n < 2 ^ 31 := by omega) : x.toNatClampNeg = n := by
  subst hx
  exact nI_clamp h
theorem pk_tn {n : Nat} (h : n < 2 ^ 32) : (nI n).toBitVec.toNat = n := Nat.mod_eq_of_lt h
theorem pk_and (x : Int32) {m : Int32} (k : Nat) (hm : m.toBitVec.toNat = 2 ^ k - 1) : x &&& m = nI (x.toBitVec.toNat % 2 ^ k) := by
  apply Int32.toBitVec_inj.mp
  apply BitVec.eq_of_toNat_eq
  rw [Int32.toBitVec_and, BitVec.toNat_and, hm, Nat.and_two_pow_sub_one_eq_mod]
  show _ = (BitVec.ofNat 32 _).toNat
  rw [BitVec.toNat_ofNat]
  exact (Nat.mod_eq_of_lt (Nat.lt_of_le_of_lt (Nat.mod_le _ _) x.toBitVec.isLt)).symm
theorem pk_andN {n : Nat} (h : n < 2 ^ 32) {m : Int32} (k : Nat) (hm : m.toBitVec.toNat = 2 ^ k - 1) : nI n &&& m = nI (n % 2 ^ k) := by
  rw [pk_and _ k hm, pk_tn h]
theorem pk_shl (a s : Int32) (k : Nat) (hs : (s.toBitVec.smod 32).toNat = k) : (a <<< s).toBitVec.toNat = a.toBitVec.toNat * 2 ^ k % 2 ^ 32 := by
  show (a.toBitVec <<< (s.toBitVec.smod 32).toNat).toNat = _
  rw [hs, BitVec.toNat_shiftLeft, Nat.shiftLeft_eq]
theorem pk_shlN {n : Nat} (s : Int32) (k : Nat) (hs : (s.toBitVec.smod 32).toNat = k) (h : n * 2 ^ k < 2 ^ 32) : nI n <<< s = nI (n * 2 ^ k) := by
  apply Int32.toBitVec_inj.mp
  apply BitVec.eq_of_toNat_eq
  have hn : n < 2 ^ 32 := Nat.lt_of_le_of_lt (Nat.le_mul_of_pos_right n (Nat.two_pow_pos k)) h
  rw [pk_shl _ _ k hs, pk_tn hn, pk_tn h, Nat.mod_eq_of_lt h]
theorem pk_shr (a s : Int32) (k : Nat) (hs : (s.toBitVec.smod 32).toNat = k) : (a >>> s).toInt = a.toInt >>> k := by
  show (a.toBitVec.sshiftRight (s.toBitVec.smod 32).toNat).toInt = _
  rw [hs, BitVec.toInt_sshiftRight]
  rfl
theorem pk_shrN {n : Nat} (h : n < 2 ^ 31) (s : Int32) (k : Nat) (hs : (s.toBitVec.smod 32).toNat = k) : nI n >>> s = nI (n / 2 ^ k) := by
  apply Int32.toInt_inj.mp
  have h2 : n / 2 ^ k ≤ n := Nat.div_le_self _ _
  rw [pk_shr _ _ k hs, nI_toInt h, nI_toInt (by omega), Int.shiftRight_eq_div_pow]
  rfl
theorem s_l : ∀ n, n < 32 → ((nI n &&& 31).toBitVec.smod 32).toNat = n := by decide +kernel
theorem nx_and (a b : Nat) : nI a &&& nI b = nI (a &&& b) := by
  apply Int32.toBitVec_inj.1
  show BitVec.ofNat 32 a &&& BitVec.ofNat 32 b = BitVec.ofNat 32 (a &&& b)
  apply BitVec.eq_of_getLsbD_eq
  intro i hi
  simp [hi]
theorem nx_xor (a b : Nat) : nI a ^^^ nI b = nI (a ^^^ b) := by
  apply Int32.toBitVec_inj.1
  show BitVec.ofNat 32 a ^^^ BitVec.ofNat 32 b = BitVec.ofNat 32 (a ^^^ b)
  apply BitVec.eq_of_getLsbD_eq
  intro i hi
  simp [hi]
theorem wb_of32 (x : Int32) : ∃ n, n < 2 ^ 32 ∧ x = nI n := ⟨x.toBitVec.toNat, x.toBitVec.isLt, Int32.toBitVec_inj.mp (by show _ = BitVec.ofNat 32 _; simp)⟩
end
section
/-! the pure picture: sets as naturals, the two walks' common functions -/
def pu_b (b : Bool) : Int32 := match b with
  | true => 1
  | false => 0
theorem pu_br {b : Bool} {A B : Prop} (f : b = false → A) (g : b = true → B) : (pu_b b = 0 → A) ∧ (¬ pu_b b = 0 → B) := by
  cases b
  · exact ⟨fun _ => f rfl, fun h => absurd rfl h⟩
  · exact ⟨fun h => absurd h (by decide), fun _ => g rfl⟩
theorem pu_br' {x : Int32} {b : Bool} {A B : Prop} (hx : x = pu_b b) (f : b = false → A) (g : b = true → B) : (x = 0 → A) ∧ (¬ x = 0 → B) := by
  rw [hx]
  exact pu_br f g
theorem pu_nar (b : Bool) : narrow .boolean (.int (pu_b b)) = .int (pu_b b) := by cases b <;> rfl
theorem pu_nor (a b : Nat) : nI a ||| nI b = nI (a ||| b) := by
  apply Int32.toBitVec_inj.1
  show BitVec.ofNat 32 a ||| BitVec.ofNat 32 b = BitVec.ofNat 32 (a ||| b)
  apply BitVec.eq_of_getLsbD_eq
  intro i hi
  simp [hi]
theorem pu_1sh {g : Nat} (h : g < 31) : (1 : Int32) <<< (nI g &&& 31) = nI (2 ^ g) := by
  have h2 : 1 * 2 ^ g < 2 ^ 32 := by
    rw [Nat.one_mul]
    exact Nat.pow_lt_pow_right (by decide) (by omega)
  have e := pk_shlN (n := 1) (nI g &&& 31) g (s_l g (by omega)) h2
  rw [Nat.one_mul] at e
  exact e
theorem pu_pw {g k : Nat} (h : g < k) : 2 ^ g < 2 ^ k := Nat.pow_lt_pow_right (by decide) h
theorem pu_ple {g k : Nat} (h : g ≤ k) : 2 ^ g ≤ 2 ^ k := Nat.pow_le_pow_right (by decide) h
theorem pu_bitv {s g : Nat} (hs : s < 2 ^ 31) (hg : g < 31) : (nI s >>> (nI g &&& 31)) &&& 1 = nI (s / 2 ^ g % 2) := by
  have h2 : s / 2 ^ g ≤ s := Nat.div_le_self _ _
  rw [pk_shrN hs (nI g &&& 31) g (s_l g (by omega))]
  exact pk_andN (by omega) 1 (by decide)
theorem pu_bit1 {s g : Nat} : s / 2 ^ g % 2 = 1 ↔ s.testBit g = true := by
  rw [Nat.testBit_eq_decide_div_mod_eq, decide_eq_true_iff]
theorem pu_and2 {s g : Nat} : s &&& 2 ^ g = 0 ↔ s.testBit g = false := by
  constructor
  · intro h
    have h2 := congrArg (fun z => z.testBit g) h
    simp only [Nat.testBit_and, Nat.testBit_two_pow_self, Bool.and_true, Nat.zero_testBit] at h2
    exact h2
  · intro h
    apply Nat.eq_of_testBit_eq
    intro i
    rw [Nat.testBit_and, Nat.zero_testBit, Nat.testBit_two_pow]
    by_cases hi : g = i
    · subst hi
      rw [h]
      rfl
    · rw [decide_eq_false hi, Bool.and_false]
/-! part and proper part -/
def pu_p (a b : Nat) : Bool := decide (a &&& b = a)
def pu_q (a b : Nat) : Bool := !decide (a = b) && pu_p a b
theorem pu_p_iff {a b : Nat} : pu_p a b = true ↔ ∀ i, a.testBit i = true → b.testBit i = true := by
  unfold pu_p
  rw [decide_eq_true_iff]
  constructor
  · intro h i hi
    rw [← h, Nat.testBit_and, Bool.and_eq_true] at hi
    exact hi.2
  · intro h
    apply Nat.eq_of_testBit_eq
    intro i
    rw [Nat.testBit_and]
    cases h1 : a.testBit i
    · rfl
    · rw [h i h1]
      rfl
theorem pu_p_le {a b : Nat} (h : pu_p a b = true) : a ≤ b := by
  unfold pu_p at h
  rw [decide_eq_true_iff] at h
  rw [← h]
  exact Nat.and_le_right
theorem pu_q_lt {a b : Nat} (h : pu_q a b = true) : a < b := by
  unfold pu_q at h
  rw [Bool.and_eq_true, Bool.not_eq_true', decide_eq_false_iff_not] at h
  have := pu_p_le h.2
  omega
theorem pu_q_of {a b : Nat} (h : a < b) : pu_q a b = pu_p a b := by
  unfold pu_q
  rw [decide_eq_false (by omega)]
  rfl
theorem pu_q_ge {a b : Nat} (h : b ≤ a) : pu_q a b = false := by
  cases hq : pu_q a b
  · rfl
  · have := pu_q_lt hq
    omega
theorem pu_p_and {x a b : Nat} : pu_p x (a &&& b) = true ↔ pu_p x a = true ∧ pu_p x b = true := by
  rw [pu_p_iff, pu_p_iff, pu_p_iff]
  constructor
  · intro h
    constructor
    · intro i hi
      have := h i hi
      rw [Nat.testBit_and, Bool.and_eq_true] at this
      exact this.1
    · intro i hi
      have := h i hi
      rw [Nat.testBit_and, Bool.and_eq_true] at this
      exact this.2
  · intro h i hi
    rw [Nat.testBit_and, h.1 i hi, h.2 i hi]
    rfl
/-! the meet of the rows of the objects that t names -/
def pu_a (R : Nat → Nat) (t : Nat → Bool) (z : Nat) : Nat → Nat
  | 0 => z
  | i + 1 => if t i = true then pu_a R t z i &&& R i else pu_a R t z i
theorem pu_a_t {R : Nat → Nat} {t : Nat → Bool} {z i : Nat} (h : t i = true) : pu_a R t z (i + 1) = pu_a R t z i &&& R i := if_pos h
theorem pu_a_f {R : Nat → Nat} {t : Nat → Bool} {z i : Nat} (h : t i = false) : pu_a R t z (i + 1) = pu_a R t z i := if_neg (by rw [h]; decide)
theorem pu_a_le (R : Nat → Nat) (t : Nat → Bool) (z : Nat) : ∀ i, pu_a R t z i ≤ z := by
  intro i
  induction i with
  | zero => exact Nat.le_refl z
  | succ i ih =>
    cases h : t i
    · rw [pu_a_f h]
      exact ih
    · rw [pu_a_t h]
      exact Nat.le_trans Nat.and_le_left ih
theorem pu_a_congr {R : Nat → Nat} {t t' : Nat → Bool} {z : Nat} : ∀ i, (∀ g, g < i → t g = t' g) → pu_a R t z i = pu_a R t' z i := by
  intro i
  induction i with
  | zero => intro _; rfl
  | succ i ih =>
    intro h
    have e := ih (fun g hg => h g (by omega))
    have hi := h i (by omega)
    cases h2 : t i
    · rw [pu_a_f h2, pu_a_f (hi ▸ h2), e]
    · rw [pu_a_t h2, pu_a_t (hi ▸ h2), e]
theorem pu_a_p {R : Nat → Nat} {t : Nat → Bool} {z x : Nat} : ∀ i, pu_p x (pu_a R t z i) = true ↔ pu_p x z = true ∧ ∀ g, g < i → t g = true → pu_p x (R g) = true := by
  intro i
  induction i with
  | zero => exact ⟨fun h => ⟨h, fun g hg => absurd hg (by omega)⟩, fun h => h.1⟩
  | succ i ih =>
    cases h : t i
    · rw [pu_a_f h, ih]
      constructor
      · rintro ⟨h1, h2⟩
        refine ⟨h1, fun g hg ht => ?_⟩
        by_cases hgi : g = i
        · subst hgi
          rw [h] at ht
          exact absurd ht (by decide)
        · exact h2 g (by omega) ht
      · rintro ⟨h1, h2⟩
        exact ⟨h1, fun g hg ht => h2 g (by omega) ht⟩
    · rw [pu_a_t h, pu_p_and, ih]
      constructor
      · rintro ⟨⟨h1, h2⟩, h3⟩
        refine ⟨h1, fun g hg ht => ?_⟩
        by_cases hgi : g = i
        · subst hgi
          exact h3
        · exact h2 g (by omega) ht
      · rintro ⟨h1, h2⟩
        exact ⟨⟨h1, fun g hg ht => h2 g (by omega) ht⟩, h2 i (by omega) h⟩
def pu_c (R : Nat → Nat) (n z s : Nat) : Nat := pu_a R (fun g => pu_p s (R g)) z n
def pu_k (R : Nat → Nat) (n z s : Nat) : Bool := decide (pu_c R n z s = s)
theorem pu_c_le (R : Nat → Nat) (n z s : Nat) : pu_c R n z s ≤ z := pu_a_le _ _ _ _
/-! the extent -/
def pu_e (R : Nat → Nat) (s : Nat) : Nat → Nat
  | 0 => 0
  | i + 1 => if pu_p s (R i) = true then pu_e R s i ||| 2 ^ i else pu_e R s i
theorem pu_e_t {R : Nat → Nat} {s i : Nat} (h : pu_p s (R i) = true) : pu_e R s (i + 1) = pu_e R s i ||| 2 ^ i := if_pos h
theorem pu_e_f {R : Nat → Nat} {s i : Nat} (h : pu_p s (R i) = false) : pu_e R s (i + 1) = pu_e R s i := if_neg (by rw [h]; decide)
theorem pu_e_lt (R : Nat → Nat) (s : Nat) : ∀ i, pu_e R s i < 2 ^ i := by
  intro i
  induction i with
  | zero => exact Nat.one_pos
  | succ i ih =>
    have h1 : 2 ^ i < 2 ^ (i + 1) := pu_pw (by omega)
    cases h : pu_p s (R i)
    · rw [pu_e_f h]
      omega
    · rw [pu_e_t h]
      exact Nat.or_lt_two_pow (by omega) h1
theorem pu_e_bit (R : Nat → Nat) (s g : Nat) : ∀ i, g < i → (pu_e R s i).testBit g = pu_p s (R g) := by
  intro i
  induction i with
  | zero => intro h; omega
  | succ i ih =>
    intro hg
    by_cases hgi : g = i
    · subst hgi
      have hz : (pu_e R s g).testBit g = false := Nat.testBit_lt_two_pow (pu_e_lt R s g)
      cases h : pu_p s (R g)
      · rw [pu_e_f h, hz]
      · rw [pu_e_t h, Nat.testBit_or, Nat.testBit_two_pow_self, Bool.or_true]
    · have e := ih (by omega)
      cases h : pu_p s (R i)
      · rw [pu_e_f h, e]
      · rw [pu_e_t h, Nat.testBit_or, e, Nat.testBit_two_pow_of_ne (by omega), Bool.or_false]
/-- the reference's closure: the meet over the extent's bits -/
theorem pu_c_e (R : Nat → Nat) (n z s : Nat) : pu_a R (fun g => (pu_e R s n).testBit g) z n = pu_c R n z s := pu_a_congr n (fun g hg => pu_e_bit R s g n hg)
/-! counts, searches -/
def pu_n (p : Nat → Bool) : Nat → Nat
  | 0 => 0
  | i + 1 => if p i = true then pu_n p i + 1 else pu_n p i
theorem pu_n_t {p : Nat → Bool} {i : Nat} (h : p i = true) : pu_n p (i + 1) = pu_n p i + 1 := if_pos h
theorem pu_n_f {p : Nat → Bool} {i : Nat} (h : p i = false) : pu_n p (i + 1) = pu_n p i := if_neg (by rw [h]; decide)
theorem pu_n_le (p : Nat → Bool) : ∀ i, pu_n p i ≤ i := by
  intro i
  induction i with
  | zero => exact Nat.le_refl 0
  | succ i ih =>
    cases h : p i
    · rw [pu_n_f h]
      omega
    · rw [pu_n_t h]
      omega
theorem pu_n_0 {p : Nat → Bool} : ∀ i, (∀ j, j < i → p j = false) → pu_n p i = 0 := by
  intro i
  induction i with
  | zero => intro _; rfl
  | succ i ih =>
    intro h
    rw [pu_n_f (h i (by omega))]
    exact ih (fun j hj => h j (by omega))
def pu_y (p : Nat → Bool) : Nat → Nat → Bool
  | 0, _ => false
  | r + 1, k => if p k = true then true else pu_y p r (k + 1)
theorem pu_y_t {p : Nat → Bool} {r k : Nat} (h : p k = true) : pu_y p (r + 1) k = true := if_pos h
theorem pu_y_f {p : Nat → Bool} {r k : Nat} (h : p k = false) : pu_y p (r + 1) k = pu_y p r (k + 1) := if_neg (by rw [h]; decide)
theorem pu_y_iff {p : Nat → Bool} : ∀ r k, pu_y p r k = true ↔ ∃ j, k ≤ j ∧ j < k + r ∧ p j = true := by
  intro r
  induction r with
  | zero =>
    intro k
    constructor
    · intro h
      exact absurd (show false = true from h) (by decide)
    · rintro ⟨j, h1, h2, _⟩
      omega
  | succ r ih =>
    intro k
    cases h : p k
    · rw [pu_y_f h, ih]
      constructor
      · rintro ⟨j, h1, h2, h3⟩
        exact ⟨j, by omega, by omega, h3⟩
      · rintro ⟨j, h1, h2, h3⟩
        by_cases hj : j = k
        · subst hj
          rw [h] at h3
          exact absurd h3 (by decide)
        · exact ⟨j, by omega, by omega, h3⟩
    · rw [pu_y_t h]
      exact ⟨fun _ => ⟨k, by omega, by omega, h⟩, fun _ => rfl⟩
theorem pu_beq {a b : Bool} (h : a = true ↔ b = true) : a = b := by
  cases a <;> cases b
  · rfl
  · exact (h.mpr rfl)
  · exact (h.mp rfl).symm
  · rfl
theorem pu_y_congr {p q : Nat → Bool} {r k r' k' : Nat} (h : (∃ j, k ≤ j ∧ j < k + r ∧ p j = true) ↔ (∃ j, k' ≤ j ∧ j < k' + r' ∧ q j = true)) : pu_y p r k = pu_y q r' k' := by
  apply pu_beq
  rw [pu_y_iff, pu_y_iff]
  exact h
def pu_s (p : Nat → Bool) (x : Int32) : Nat → Nat → Int32
  | 0, _ => -1
  | r + 1, k => if p k = true then (if nI (pu_n p k) = x then nI k else pu_s p x r (k + 1)) else pu_s p x r (k + 1)
theorem pu_s_f {p : Nat → Bool} {x : Int32} {r k : Nat} (h : p k = false) : pu_s p x (r + 1) k = pu_s p x r (k + 1) := if_neg (by rw [h]; decide)
theorem pu_s_t {p : Nat → Bool} {x : Int32} {r k : Nat} (h : p k = true) (h2 : nI (pu_n p k) = x) : pu_s p x (r + 1) k = nI k := (if_pos h).trans (if_pos h2)
theorem pu_s_n {p : Nat → Bool} {x : Int32} {r k : Nat} (h : p k = true) (h2 : ¬ nI (pu_n p k) = x) : pu_s p x (r + 1) k = pu_s p x r (k + 1) := (if_pos h).trans (if_neg h2)
def pu_x (p : Nat → Bool) (x : Int32) : Nat → Nat → Int32
  | 0, _ => -1
  | r + 1, k => if nI k ≤ x then pu_x p x r (k + 1) else if p k = true then nI k else pu_x p x r (k + 1)
theorem pu_x_l {p : Nat → Bool} {x : Int32} {r k : Nat} (h : nI k ≤ x) : pu_x p x (r + 1) k = pu_x p x r (k + 1) := if_pos h
theorem pu_x_t {p : Nat → Bool} {x : Int32} {r k : Nat} (h : ¬ nI k ≤ x) (h2 : p k = true) : pu_x p x (r + 1) k = nI k := (if_neg h).trans (if_pos h2)
theorem pu_x_f {p : Nat → Bool} {x : Int32} {r k : Nat} (h2 : p k = false) : pu_x p x (r + 1) k = pu_x p x r (k + 1) := by
  by_cases h : nI k ≤ x
  · exact if_pos h
  · exact (if_neg h).trans (if_neg (by rw [h2]; decide))
end
section
/-! the marks: pseudo-closed sets, in rising order -/
def pu_u (T : Nat → Bool) (C : Nat → Nat) (s q : Nat) : Bool := T q && (pu_p q s && !pu_p (C q) s)
theorem pu_u_1 {T : Nat → Bool} {C : Nat → Nat} {s q : Nat} (h : T q = false) : pu_u T C s q = false := by
  unfold pu_u
  rw [h]
  rfl
theorem pu_u_2 {T : Nat → Bool} {C : Nat → Nat} {s q : Nat} (h : pu_p q s = false) : pu_u T C s q = false := by
  unfold pu_u
  rw [h]
  cases T q <;> rfl
theorem pu_u_3 {T : Nat → Bool} {C : Nat → Nat} {s q : Nat} (h : pu_p (C q) s = true) : pu_u T C s q = false := by
  unfold pu_u
  rw [h]
  cases T q <;> cases pu_p q s <;> rfl
theorem pu_u_4 {T : Nat → Bool} {C : Nat → Nat} {s q : Nat} (h1 : T q = true) (h2 : pu_p q s = true) (h3 : pu_p (C q) s = false) : pu_u T C s q = true := by
  unfold pu_u
  rw [h1, h2, h3]
  rfl
def pu_t (K : Nat → Bool) (C : Nat → Nat) : Nat → Nat → Bool
  | 0 => fun _ => false
  | i + 1 => fun j => if j = i then (!K i && !pu_y (pu_u (pu_t K C i) C i) i 0) else pu_t K C i j
theorem pu_t_s (K : Nat → Bool) (C : Nat → Nat) (i : Nat) : pu_t K C (i + 1) i = (!K i && !pu_y (pu_u (pu_t K C i) C i) i 0) := if_pos rfl
theorem pu_t_n (K : Nat → Bool) (C : Nat → Nat) {i j : Nat} (h : j < i) : pu_t K C (i + 1) j = pu_t K C i j := if_neg (by omega)
theorem pu_y_ext {p q : Nat → Bool} : ∀ r k, (∀ j, k ≤ j → j < k + r → p j = q j) → pu_y p r k = pu_y q r k := by
  intro r k h
  apply pu_y_congr
  constructor
  · rintro ⟨j, h1, h2, h3⟩
    exact ⟨j, h1, h2, (h j h1 h2) ▸ h3⟩
  · rintro ⟨j, h1, h2, h3⟩
    exact ⟨j, h1, h2, (h j h1 h2).symm ▸ h3⟩
/-! the longest chains -/
def pu_m (T : Nat → Nat) (s : Nat) : Nat → Nat
  | 0 => 0
  | k + 1 => if pu_p k s = true ∧ pu_m T s k < T k then T k else pu_m T s k
theorem pu_m_t {T : Nat → Nat} {s k : Nat} (h : pu_p k s = true) (h2 : pu_m T s k < T k) : pu_m T s (k + 1) = T k := if_pos ⟨h, h2⟩
theorem pu_m_f {T : Nat → Nat} {s k : Nat} (h : pu_p k s = false) : pu_m T s (k + 1) = pu_m T s k := if_neg (fun z => by rw [h] at z; exact absurd z.1 (by decide))
theorem pu_m_l {T : Nat → Nat} {s k : Nat} (h : T k ≤ pu_m T s k) : pu_m T s (k + 1) = pu_m T s k := if_neg (fun z => by have := z.2; omega)
theorem pu_m_le {T : Nat → Nat} {s b : Nat} (h : ∀ j, T j ≤ b) : ∀ k, pu_m T s k ≤ b := by
  intro k
  induction k with
  | zero => exact Nat.zero_le b
  | succ k ih =>
    by_cases h2 : pu_p k s = true ∧ pu_m T s k < T k
    · rw [pu_m_t h2.1 h2.2]
      exact h k
    · have e : pu_m T s (k + 1) = pu_m T s k := if_neg h2
      rw [e]
      exact ih
def pu_h (K : Nat → Bool) : Nat → Nat → Nat
  | 0 => fun _ => 0
  | i + 1 => fun j => if j = i then (if K i = true then pu_m (pu_h K i) i i + 1 else 0) else pu_h K i j
theorem pu_h_t {K : Nat → Bool} {i : Nat} (h : K i = true) : pu_h K (i + 1) i = pu_m (pu_h K i) i i + 1 := (if_pos rfl).trans (if_pos h)
theorem pu_h_f {K : Nat → Bool} {i : Nat} (h : K i = false) : pu_h K (i + 1) i = 0 := (if_pos rfl).trans (if_neg (by rw [h]; decide))
theorem pu_h_n (K : Nat → Bool) {i j : Nat} (h : j ≠ i) : pu_h K (i + 1) j = pu_h K i j := if_neg h
theorem pu_h_le (K : Nat → Bool) : ∀ i j, pu_h K i j ≤ i := by
  intro i
  induction i with
  | zero => intro j; exact Nat.le_refl 0
  | succ i ih =>
    intro j
    by_cases hj : j = i
    · subst hj
      cases h : K j
      · rw [pu_h_f h]
        omega
      · rw [pu_h_t h]
        have := pu_m_le (s := j) ih j
        omega
    · rw [pu_h_n K hj]
      have := ih j
      omega
theorem pu_h_0 (K : Nat → Bool) {j : Nat} (h : K j = false) : ∀ i, pu_h K i j = 0 := by
  intro i
  induction i with
  | zero => rfl
  | succ i ih =>
    by_cases hj : j = i
    · subst hj
      exact pu_h_f h
    · rw [pu_h_n K hj]
      exact ih
def pu_g (K : Nat → Bool) : Nat → Nat
  | 0 => 0
  | i + 1 => if pu_g K i < pu_h K (i + 1) i then pu_h K (i + 1) i else pu_g K i
theorem pu_g_t {K : Nat → Bool} {i : Nat} (h : pu_g K i < pu_h K (i + 1) i) : pu_g K (i + 1) = pu_h K (i + 1) i := if_pos h
theorem pu_g_f {K : Nat → Bool} {i : Nat} (h : pu_h K (i + 1) i ≤ pu_g K i) : pu_g K (i + 1) = pu_g K i := if_neg (by omega)
theorem pu_g_le (K : Nat → Bool) : ∀ i, pu_g K i ≤ i := by
  intro i
  induction i with
  | zero => exact Nat.le_refl 0
  | succ i ih =>
    have h2 := pu_h_le K (i + 1) i
    by_cases h : pu_g K i < pu_h K (i + 1) i
    · rw [pu_g_t h]
      exact h2
    · rw [pu_g_f (by omega)]
      omega
/-- the reference's chain of d after k of its turns -/
def pu_r (K : Nat → Bool) (d k : Nat) : Nat := if K d = true then pu_m (pu_h K d) d k + 1 else 0
theorem pu_r_t {K : Nat → Bool} {d : Nat} (h : K d = true) (k : Nat) : pu_r K d k = pu_m (pu_h K d) d k + 1 := if_pos h
theorem pu_r_f {K : Nat → Bool} {d : Nat} (h : K d = false) (k : Nat) : pu_r K d k = 0 := if_neg (by rw [h]; decide)
theorem pu_r_e (K : Nat → Bool) (d : Nat) : pu_r K d d = pu_h K (d + 1) d := by
  cases h : K d
  · rw [pu_r_f h, pu_h_f h]
  · rw [pu_r_t h, pu_h_t h]
theorem pu_r_le (K : Nat → Bool) (d k : Nat) : pu_r K d k ≤ d + 1 := by
  cases h : K d
  · rw [pu_r_f h]
    omega
  · rw [pu_r_t h]
    have := pu_m_le (s := d) (pu_h_le K d) k
    omega
/-! sums -/
def pu_l (K : Nat → Bool) (f : Nat → Nat) : Nat → Nat
  | 0 => 0
  | i + 1 => if K i = true then pu_l K f i + f i else pu_l K f i
theorem pu_l_t {K : Nat → Bool} {f : Nat → Nat} {i : Nat} (h : K i = true) : pu_l K f (i + 1) = pu_l K f i + f i := if_pos h
theorem pu_l_f {K : Nat → Bool} {f : Nat → Nat} {i : Nat} (h : K i = false) : pu_l K f (i + 1) = pu_l K f i := if_neg (by rw [h]; decide)
/-! covers -/
def pu_w (K : Nat → Bool) (c d z : Nat) : Bool := K z && (pu_q c z && pu_q z d)
def pu_v (K : Nat → Bool) (e c d : Nat) : Bool := K d && (pu_q c d && !pu_y (pu_w K c d) e 0)
def pu_o (K : Nat → Bool) (e c : Nat) : Nat := pu_n (pu_v K e c) e
theorem pu_w_b {K : Nat → Bool} {c d z : Nat} (h : pu_w K c d z = true) : c < z ∧ z < d := by
  unfold pu_w at h
  rw [Bool.and_eq_true, Bool.and_eq_true] at h
  exact ⟨pu_q_lt h.2.1, pu_q_lt h.2.2⟩
theorem pu_w_y {K : Nat → Bool} {e c d : Nat} (hd : d ≤ e) (hc : c < d) : pu_y (pu_w K c d) (d - (c + 1)) (c + 1) = pu_y (pu_w K c d) e 0 := by
  apply pu_y_congr
  constructor
  · rintro ⟨j, h1, h2, h3⟩
    have := pu_w_b h3
    exact ⟨j, by omega, by omega, h3⟩
  · rintro ⟨j, h1, h2, h3⟩
    have := pu_w_b h3
    exact ⟨j, by omega, by omega, h3⟩
theorem pu_v_0 {K : Nat → Bool} {e c d : Nat} (h : d ≤ c) : pu_v K e c d = false := by
  unfold pu_v
  rw [pu_q_ge h]
  cases K d <;> rfl
theorem pu_v_n {K : Nat → Bool} {e c : Nat} : pu_n (pu_v K e c) (c + 1) = 0 := pu_n_0 _ (fun j hj => pu_v_0 (by omega))
theorem pu_o_le (K : Nat → Bool) (e c : Nat) : pu_o K e c ≤ e := pu_n_le _ _
theorem pu_l_le {K : Nat → Bool} {f : Nat → Nat} {b : Nat} (h : ∀ i, f i ≤ b) : ∀ i, pu_l K f i ≤ b * i := by
  intro i
  induction i with
  | zero => exact Nat.le_refl 0
  | succ i ih =>
    have h2 := h i
    have h3 : b * (i + 1) = b * i + b := Nat.mul_succ b i
    cases hk : K i
    · rw [pu_l_f hk]
      omega
    · rw [pu_l_t hk]
      omega
/-! sizes -/
def pu_z (s : Nat) : Nat → Nat
  | 0 => 0
  | i + 1 => pu_z s i + s / 2 ^ i % 2
theorem pu_z_s (s i : Nat) : pu_z s (i + 1) = pu_z s i + s / 2 ^ i % 2 := rfl
theorem pu_z_le (s : Nat) : ∀ i, pu_z s i ≤ i := by
  intro i
  induction i with
  | zero => exact Nat.le_refl 0
  | succ i ih =>
    rw [pu_z_s]
    have := Nat.mod_lt (s / 2 ^ i) (show 0 < 2 by decide)
    omega
theorem pu_z_m : ∀ m, m < 8 → ∀ s, s < 2 ^ m → pu_z s 7 ≤ m := by decide +kernel
/-! the least size -/
def pu_i (t : Nat → Bool) (z : Nat → Nat) (b : Nat) : Nat → Nat
  | 0 => b
  | i + 1 => if z i < pu_i t z b i ∧ t i = true then z i else pu_i t z b i
theorem pu_i_t {t : Nat → Bool} {z : Nat → Nat} {b i : Nat} (h : z i < pu_i t z b i) (h2 : t i = true) : pu_i t z b (i + 1) = z i := if_pos ⟨h, h2⟩
theorem pu_i_l {t : Nat → Bool} {z : Nat → Nat} {b i : Nat} (h : pu_i t z b i ≤ z i) : pu_i t z b (i + 1) = pu_i t z b i := if_neg (fun h2 => by have := h2.1; omega)
theorem pu_i_f {t : Nat → Bool} {z : Nat → Nat} {b i : Nat} (h : t i = false) : pu_i t z b (i + 1) = pu_i t z b i := if_neg (fun h2 => by rw [h] at h2; exact absurd h2.2 (by decide))
theorem pu_i_c (t : Nat → Bool) (z : Nat → Nat) (b : Nat) : ∀ i, pu_i t z b i ≤ b ∧ (∀ j, j < i → t j = true → pu_i t z b i ≤ z j) ∧ (pu_i t z b i = b ∨ ∃ j, j < i ∧ t j = true ∧ z j = pu_i t z b i) := by
  intro i
  induction i with
  | zero => exact ⟨Nat.le_refl b, fun j hj => absurd hj (by omega), Or.inl rfl⟩
  | succ i ih =>
    obtain ⟨h1, h2, h3⟩ := ih
    by_cases h : z i < pu_i t z b i ∧ t i = true
    · rw [pu_i_t h.1 h.2]
      refine ⟨by omega, fun j hj ht => ?_, Or.inr ⟨i, by omega, h.2, rfl⟩⟩
      by_cases hji : j = i
      · subst hji
        exact Nat.le_refl _
      · have := h2 j (by omega) ht
        omega
    · have e : pu_i t z b (i + 1) = pu_i t z b i := if_neg h
      rw [e]
      refine ⟨h1, fun j hj ht => ?_, ?_⟩
      · by_cases hji : j = i
        · subst hji
          by_cases hz : z j < pu_i t z b j
          · exact absurd ⟨hz, ht⟩ h
          · omega
        · exact h2 j (by omega) ht
      · rcases h3 with h3 | ⟨j, hj, hj2, hj3⟩
        · exact Or.inl h3
        · exact Or.inr ⟨j, by omega, hj2, hj3⟩
theorem pu_i_eq {t : Nat → Bool} {z : Nat → Nat} {b b' e j : Nat} (hj : j < e) (ht : t j = true) (h1 : z j ≤ b) (h2 : z j ≤ b') : pu_i t z b e = pu_i t z b' e := by
  obtain ⟨a1, a2, a3⟩ := pu_i_c t z b e
  obtain ⟨c1, c2, c3⟩ := pu_i_c t z b' e
  have a4 := a2 j hj ht
  have c4 := c2 j hj ht
  apply Nat.le_antisymm
  · rcases c3 with c3 | ⟨i, hi, hi2, hi3⟩
    · omega
    · have := a2 i hi hi2
      omega
  · rcases a3 with a3 | ⟨i, hi, hi2, hi3⟩
    · omega
    · have := c2 i hi hi2
      omega
theorem pu_i_le (t : Nat → Bool) (z : Nat → Nat) (b i : Nat) : pu_i t z b i ≤ b := (pu_i_c t z b i).1
/-! two closed sets that differ in one attribute -/
theorem pu_d_tab : ∀ a, a < 7 → ∀ s, s < 128 → (s &&& 2 ^ a = 0 ∧ s ||| 2 ^ a = s ^^^ 2 ^ a) ∨ ((s ^^^ 2 ^ a) &&& 2 ^ a = 0 ∧ (s ^^^ 2 ^ a) ||| 2 ^ a = s) := by decide +kernel
theorem pu_d_o : ∀ a, a < 7 → ∀ s, s < 128 → s &&& 2 ^ a = 0 → s ||| 2 ^ a = s ^^^ 2 ^ a := by decide +kernel
def pu_dx (K : Nat → Bool) (a s : Nat) : Bool := decide (s &&& 2 ^ a = 0) && (K s && K (s ||| 2 ^ a))
def pu_dy (K : Nat → Bool) (a s : Nat) : Bool := K s && K (s ^^^ 2 ^ a)
theorem pu_d_eq {K : Nat → Bool} {a m : Nat} (ha : a < m) (hm : m ≤ 7) : pu_y (pu_dx K a) (2 ^ m) 0 = pu_y (pu_dy K a) (2 ^ m) 0 := by
  have hp : 2 ^ m ≤ 128 := pu_ple (k := 7) hm
  apply pu_y_congr
  constructor
  · rintro ⟨s, h1, h2, h3⟩
    unfold pu_dx at h3
    rw [Bool.and_eq_true, Bool.and_eq_true, decide_eq_true_iff] at h3
    refine ⟨s, h1, h2, ?_⟩
    unfold pu_dy
    rw [← pu_d_o a (by omega) s (by omega) h3.1, h3.2.1, h3.2.2]
    rfl
  · rintro ⟨s, h1, h2, h3⟩
    unfold pu_dy at h3
    rw [Bool.and_eq_true] at h3
    rcases pu_d_tab a (by omega) s (by omega) with h | h
    · refine ⟨s, h1, h2, ?_⟩
      unfold pu_dx
      rw [decide_eq_true h.1, h.2, h3.1, h3.2]
      rfl
    · have hx : s ^^^ 2 ^ a < 2 ^ m := Nat.xor_lt_two_pow (by omega) (pu_pw ha)
      refine ⟨s ^^^ 2 ^ a, by omega, by omega, ?_⟩
      unfold pu_dx
      rw [decide_eq_true h.1, h.2, h3.1, h3.2]
      rfl
/-! follows -/
def pu_f (R : Nat → Nat) (p q g : Nat) : Bool := pu_p p (R g) && !pu_p q (R g)
theorem pu_f_eq {R : Nat → Nat} {n m p q : Nat} (hq : q < 2 ^ m) : pu_p q (pu_c R n (2 ^ m - 1) p) = !pu_y (pu_f R p q) n 0 := by
  apply pu_beq
  unfold pu_c
  rw [pu_a_p, Bool.not_eq_true', ← Bool.not_eq_true, pu_y_iff]
  have hz : pu_p q (2 ^ m - 1) = true := by
    unfold pu_p
    rw [decide_eq_true_iff]
    exact Nat.and_two_pow_sub_one_of_lt_two_pow hq
  constructor
  · rintro ⟨_, h⟩ ⟨j, _, h2, h3⟩
    unfold pu_f at h3
    rw [Bool.and_eq_true, Bool.not_eq_true'] at h3
    have := h j (by omega) h3.1
    rw [h3.2] at this
    exact absurd this (by decide)
  · intro h
    refine ⟨hz, fun g hg ht => ?_⟩
    cases h4 : pu_p q (R g)
    · refine absurd ⟨g, by omega, by omega, ?_⟩ h
      unfold pu_f
      rw [h4]
      try dsimp only at ht
      rw [ht]
      rfl
    · rfl
end
section
/-! the class: its private helpers and its questions of the rows -/
def cx_r (R : Nat → Nat) : Nat → Int32 := fun j => nI (R j)
theorem cx_at {R : Nat → Nat} {k : Nat} (h : k < 2 ^ 31) : cx_r R (nI k).toNatClampNeg = nI (R k) := by
  rw [nI_clamp h]
  rfl
def cx_ok (n e : Nat) (R : Nat → Nat) : Prop := n ≤ 8 ∧ 1 ≤ e ∧ e ≤ 128 ∧ ∀ j, R j < e
theorem cx_lp (W : Nat → Nat → Prop) (e k0 : Nat) (h0 : k0 ≤ e) (hx : ∀ f, W (f + 1) e) (hs : ∀ f k, k0 ≤ k → k < e → W f (k + 1) → W (f + 1) k) : ∃ f, W f k0 := by
  have h : ∀ d k, k0 ≤ k → k + d = e → W (d + 1) k := by
    intro d
    induction d with
    | zero =>
      intro k _ hk
      have ke : k = e := by omega
      rw [ke]
      exact hx 0
    | succ d ih =>
      intro k h1 hk
      exact hs (d + 1) k h1 (by omega) (ih (k + 1) (by omega) (by omega))
  exact ⟨e - k0 + 1, h (e - k0) k0 (Nat.le_refl _) (by omega)⟩
theorem pu_ct {R : Nat → Nat} {s z i : Nat} (h : pu_p s (R i) = true) : pu_a R (fun g => pu_p s (R g)) z (i + 1) = pu_a R (fun g => pu_p s (R g)) z i &&& R i := if_pos h
theorem pu_cf {R : Nat → Nat} {s z i : Nat} (h : pu_p s (R i) = false) : pu_a R (fun g => pu_p s (R g)) z (i + 1) = pu_a R (fun g => pu_p s (R g)) z i := pu_a_f (t := fun g => pu_p s (R g)) h
theorem pu_gt {R : Nat → Nat} {s z i : Nat} (h : s.testBit i = true) : pu_a R (fun g => s.testBit g) z (i + 1) = pu_a R (fun g => s.testBit g) z i &&& R i := if_pos h
theorem pu_gf {R : Nat → Nat} {s z i : Nat} (h : s.testBit i = false) : pu_a R (fun g => s.testBit g) z (i + 1) = pu_a R (fun g => s.testBit g) z i := pu_a_f (t := fun g => s.testBit g) h
theorem pu_kt {R : Nat → Nat} {n z s : Nat} (h : pu_c R n z s = s) : pu_k R n z s = true := decide_eq_true h
theorem pu_kf {R : Nat → Nat} {n z s : Nat} (h : ¬ pu_c R n z s = s) : pu_k R n z s = false := decide_eq_false h
theorem pu_pt {a b : Nat} (h : a &&& b = a) : pu_p a b = true := decide_eq_true h
theorem pu_pf {a b : Nat} (h : ¬ a &&& b = a) : pu_p a b = false := decide_eq_false h
theorem pu_qt {a b : Nat} (h : ¬ a = b) : pu_q a b = pu_p a b := by
  unfold pu_q
  rw [decide_eq_false h]
  rfl
theorem pu_qf {a b : Nat} (h : a = b) : pu_q a b = false := by
  unfold pu_q
  rw [decide_eq_true h]
  rfl
section
variable {n m e : Nat} {R : Nat → Nat} {ps lo : Nat → Int32}
theorem cx_c_lt (H : cx_ok n e R) (s : Nat) : pu_c R n (e - 1) s < e := by
  have h := pu_c_le R n (e - 1) s
  have h2 := H.2.1
  omega
theorem cx_k_lt (H : cx_ok n e R) (s : Nat) : pu_c R n (e - 1) s < 2 ^ 31 := by
  have h := cx_c_lt H s
  have h2 := H.2.2.1
  omega
theorem cx_Rb (H : cx_ok n e R) (j : Nat) : R j < 2 ^ 31 := by
  have h := H.2.2.2 j
  have h2 := H.2.2.1
  omega
theorem cx_isPart {post : Int32 → Prop} {x y : Int32} (a b : Nat) (hx : x = nI a) (hy : y = nI b) (ha : a < 2 ^ 31) (h : post (pu_b (pu_p a b))) : wpX_isPart post x y := by
  subst hx hy
  unfold wpX_isPart
  rw [nx_and, nI_eq (Nat.lt_of_le_of_lt Nat.and_le_left ha) ha]
  by_cases h2 : a &&& b = a
  · rw [pu_pt h2] at h
    exact br_t h2 h
  · rw [pu_pf h2] at h
    exact br_f h2 h
theorem cx_isProperPart {post : Int32 → Prop} {x y : Int32} (a b : Nat) (hx : x = nI a) (hy : y = nI b) (ha : a < 2 ^ 31) (hb : b < 2 ^ 31) (h : post (pu_b (pu_q a b))) : wpX_isProperPart post x y := by
  subst hx hy
  unfold wpX_isProperPart
  rw [nx_and, nI_eq (Nat.lt_of_le_of_lt Nat.and_le_left ha) ha, nI_eq ha hb]
  by_cases h1 : a = b
  · rw [pu_qf h1] at h
    exact br_t h1 h
  · rw [pu_qt h1] at h
    refine br_f h1 ?_
    by_cases h2 : a &&& b = a
    · rw [pu_pt h2] at h
      exact br_t h2 h
    · rw [pu_pf h2] at h
      exact br_f h2 h
theorem cx_closureOf (H : cx_ok n e R) {post : Int32 → Prop} {x : Int32} (s : Nat) (hx : x = nI s) (hs : s < 2 ^ 31) (h : post (nI (pu_c R n (e - 1) s))) : wpX_closureOf post (nI n, nI m, nI e, cx_r R, ps, lo) x := by
  subst hx
  obtain ⟨h1, h2, h3, h4⟩ := id H
  unfold wpX_closureOf
  dsimp only
  refine nm_r (pk_sub (a := e) (b := 1) h2) ?_
  refine cx_lp (fun f k => wX_closureOf_9 post (nI s) (nI n) (nI m) (nI e) (cx_r R) ps lo f (nI (pu_a R (fun g => pu_p s (R g)) (e - 1) k)) (nI k)) n 0 (Nat.zero_le _) (fun f => ?_) (fun f k _ hk ih => ?_)
  · exact br_t (nI_le (Nat.le_refl _) (by omega)) h
  · have hi : vp_in (nI k) 8 := vp_in_nI (by omega) (by omega)
    refine br_f (nI_ge hk (by omega)) ⟨hi, cx_isPart s (R k) rfl (cx_at (by omega)) hs ?_⟩
    refine pu_br (fun hb => nm_r (nI_1 k) ?_) (fun hb => ⟨hi, nm_r (e' := nI (pu_a R (fun g => pu_p s (R g)) (e - 1) (k + 1))) ?_ (nm_r (nI_1 k) ih)⟩)
    · try dsimp only at ih
      rw [pu_cf hb] at ih
      exact ih
    · rw [cx_at (by omega), nx_and, pu_ct hb]
theorem cx_isClosed (H : cx_ok n e R) {post : Int32 → Prop} {x : Int32} (s : Nat) (hx : x = nI s) (hs : s < 2 ^ 31) (h : post (pu_b (pu_k R n (e - 1) s))) : wpX_isClosed post (nI n, nI m, nI e, cx_r R, ps, lo) x := by
  subst hx
  unfold wpX_isClosed
  dsimp only
  refine cx_closureOf H s rfl hs ?_
  refine pk_eq (pu_c R n (e - 1) s) s (fun h2 => ?_) (fun h2 => ?_) rfl rfl (cx_k_lt H s) hs
  · rw [pu_kt h2] at h
    exact h
  · rw [pu_kf h2] at h
    exact h
theorem cx_extent (H : cx_ok n e R) {post : Int32 → Prop} (s : Nat) (hs : s < 2 ^ 31) (h : post (nI (pu_e R s n))) : ∃ f, wX_extent_14 post (nI s) (nI n) (nI m) (nI e) (cx_r R) ps lo f 0 0 := by
  obtain ⟨h1, h2, h3, h4⟩ := id H
  refine cx_lp (fun f k => wX_extent_14 post (nI s) (nI n) (nI m) (nI e) (cx_r R) ps lo f (nI (pu_e R s k)) (nI k)) n 0 (Nat.zero_le _) (fun f => ?_) (fun f k _ hk ih => ?_)
  · exact br_t (nI_le (Nat.le_refl _) (by omega)) h
  · have hi : vp_in (nI k) 8 := vp_in_nI (by omega) (by omega)
    refine br_f (nI_ge hk (by omega)) ⟨hi, cx_isPart s (R k) rfl (cx_at (by omega)) hs ?_⟩
    refine pu_br (fun hb => nm_r (nI_1 k) ?_) (fun hb => nm_r (e' := nI (pu_e R s (k + 1))) ?_ (nm_r (nI_1 k) ih))
    · try dsimp only at ih
      rw [pu_e_f hb] at ih
      exact ih
    · rw [pu_1sh (by omega), pu_nor, pu_e_t hb]
theorem cx_intent (H : cx_ok n e R) {post : Int32 → Prop} (s : Nat) (hs : s < 2 ^ 31) (h : post (nI (pu_a R (fun g => s.testBit g) (e - 1) n))) : ∃ f, wX_intent_25 post (nI s) (nI n) (nI m) (nI e) (cx_r R) ps lo f (nI (e - 1)) 0 := by
  obtain ⟨h1, h2, h3, h4⟩ := id H
  refine cx_lp (fun f k => wX_intent_25 post (nI s) (nI n) (nI m) (nI e) (cx_r R) ps lo f (nI (pu_a R (fun g => s.testBit g) (e - 1) k)) (nI k)) n 0 (Nat.zero_le _) (fun f => ?_) (fun f k _ hk ih => ?_)
  · exact br_t (nI_le (Nat.le_refl _) (by omega)) h
  · have hi : vp_in (nI k) 8 := vp_in_nI (by omega) (by omega)
    refine br_f (nI_ge hk (by omega)) ?_
    have hl : s &&& 2 ^ k < 2 ^ 31 := Nat.lt_of_le_of_lt Nat.and_le_left hs
    refine pk_eq (s &&& 2 ^ k) 0 (fun hb => nm_r (nI_1 k) ?_) (fun hb => ⟨hi, nm_r (e' := nI (pu_a R (fun g => s.testBit g) (e - 1) (k + 1))) ?_ (nm_r (nI_1 k) ih)⟩) ?_ rfl hl (by omega)
    · try dsimp only at ih
      rw [pu_gf (pu_and2.mp hb)] at ih
      exact ih
    · have hb2 : s.testBit k = true := by
        cases hc : s.testBit k
        · exact absurd (pu_and2.mpr hc) hb
        · rfl
      rw [cx_at (by omega), nx_and, pu_gt hb2]
    · rw [pu_1sh (by omega), nx_and]
end
end
section
/-! the class: its walks over the sets -/
theorem cx_up1 {ps : Nat → Int32} {T T' : Nat → Bool} {k : Nat} {v : Int32} (hk : k < 2 ^ 31) (hv : vp_nar .boolean v = pu_b (T' k)) (hn : ∀ j, j < k → T' j = T j) (hp : ∀ j, j < k → ps j = pu_b (T j)) : ∀ j, j < k + 1 → upd ps (nI k).toNatClampNeg (vp_nar .boolean v) j = pu_b (T' j) := by
  intro j hj
  rw [nI_clamp hk]
  by_cases h : j = k
  · subst h
    rw [pk_us, hv]
  · rw [pk_un h, hp j (by omega), hn j (by omega)]
theorem cx_up2 {lo : Nat → Int32} {T T' : Nat → Nat} {k : Nat} {v : Int32} (hk : k < 2 ^ 31) (hv : v = nI (T' k)) (hn : ∀ j, j < k → T' j = T j) (hp : ∀ j, j < k → lo j = nI (T j)) : ∀ j, j < k + 1 → upd lo (nI k).toNatClampNeg v j = nI (T' j) := by
  intro j hj
  rw [nI_clamp hk]
  by_cases h : j = k
  · subst h
    rw [pk_us, hv]
  · rw [pk_un h, hp j (by omega), hn j (by omega)]
theorem cx_nb (b : Bool) : vp_nar .boolean (pu_b b) = pu_b b := by cases b <;> rfl
theorem cx_ra {α : Nat → Int32} {k : Nat} {x : Int32} (hk : k < 2 ^ 31) (h : α k = x) : α (nI k).toNatClampNeg = x := by rw [nI_clamp hk, h]
section
variable {n m e : Nat} {R : Nat → Nat} {ps lo : Nat → Int32}
theorem cx_closedSets (H : cx_ok n e R) {post : Int32 → Prop} (h : post (nI (pu_n (pu_k R n (e - 1)) e))) : wpX_closedSets post (nI n, nI m, nI e, cx_r R, ps, lo) := by
  obtain ⟨h1, h2, h3, h4⟩ := id H
  unfold wpX_closedSets
  dsimp only
  refine cx_lp (fun f k => wX_closedSets_4 post (nI n) (nI m) (nI e) (cx_r R) ps lo f (nI (pu_n (pu_k R n (e - 1)) k)) (nI k)) e 0 (Nat.zero_le _) (fun f => ?_) (fun f k _ hk ih => ?_)
  · exact br_t (nI_le (Nat.le_refl _) (by omega)) h
  · try dsimp only at ih
    refine br_f (nI_ge hk (by omega)) (cx_isClosed H k rfl (by omega) ?_)
    refine pu_br (fun hb => nm_r (nI_1 k) ?_) (fun hb => nm_r (nI_1 _) (nm_r (nI_1 k) ?_))
    · rw [pu_n_f hb] at ih
      exact ih
    · rw [pu_n_t hb] at ih
      exact ih
theorem cx_closedSet (H : cx_ok n e R) {post : Int32 → Prop} (x : Int32) (h : post (pu_s (pu_k R n (e - 1)) x e 0)) : wpX_closedSet post (nI n, nI m, nI e, cx_r R, ps, lo) x := by
  obtain ⟨h1, h2, h3, h4⟩ := id H
  unfold wpX_closedSet
  dsimp only
  obtain ⟨f, hf⟩ := cx_lp (fun f k => post (pu_s (pu_k R n (e - 1)) x (e - k) k) → wX_closedSet_4 post x (nI n) (nI m) (nI e) (cx_r R) ps lo f (nI (pu_n (pu_k R n (e - 1)) k)) (nI k)) e 0 (Nat.zero_le _) (fun f h => by
    rw [Nat.sub_self] at h
    exact br_t (nI_le (Nat.le_refl _) (by omega)) h) (fun f k _ hk ih h => by
    try dsimp only at ih
    rw [show e - k = (e - (k + 1)) + 1 from by omega] at h
    refine br_f (nI_ge hk (by omega)) (cx_isClosed H k rfl (by omega) ?_)
    refine pu_br (fun hb => nm_r (nI_1 k) ?_) (fun hb => br_c (fun hx => ?_) (fun hx => nm_r (nI_1 _) (nm_r (nI_1 k) ?_)))
    · rw [pu_s_f hb] at h
      have ih2 := ih h
      rw [pu_n_f hb] at ih2
      exact ih2
    · rw [pu_s_t hb hx] at h
      exact h
    · rw [pu_s_n hb hx] at h
      have ih2 := ih h
      rw [pu_n_t hb] at ih2
      exact ih2)
  exact ⟨f, hf h⟩
theorem cx_nextClosed (H : cx_ok n e R) {post : Int32 → Prop} (x : Int32) (h : post (pu_x (pu_k R n (e - 1)) x e 0)) : wpX_nextClosed post (nI n, nI m, nI e, cx_r R, ps, lo) x := by
  obtain ⟨h1, h2, h3, h4⟩ := id H
  unfold wpX_nextClosed
  dsimp only
  obtain ⟨f, hf⟩ := cx_lp (fun f k => post (pu_x (pu_k R n (e - 1)) x (e - k) k) → wX_nextClosed_2 post x (nI n) (nI m) (nI e) (cx_r R) ps lo f (nI k)) e 0 (Nat.zero_le _) (fun f h => by
    rw [Nat.sub_self] at h
    exact br_t (nI_le (Nat.le_refl _) (by omega)) h) (fun f k _ hk ih h => by
    try dsimp only at ih
    rw [show e - k = (e - (k + 1)) + 1 from by omega] at h
    refine br_f (nI_ge hk (by omega)) (br_c (fun hx => nm_r (nI_1 k) ?_) (fun hx => cx_isClosed H k rfl (by omega) ?_))
    · rw [pu_x_l hx] at h
      exact ih h
    · refine pu_br (fun hb => nm_r (nI_1 k) ?_) (fun hb => ?_)
      · rw [pu_x_f hb] at h
        exact ih h
      · rw [pu_x_t hx hb] at h
        exact h)
  exact ⟨f, hf h⟩
theorem cx_holds (H : cx_ok n e R) {post : Int32 → Prop} (s : Nat) (hs : s < 128) (T : Nat → Bool) (hp : ∀ j, j < s → ps j = pu_b (T j)) (h : post (pu_b (!pu_y (pu_u T (pu_c R n (e - 1)) s) s 0))) : wpX_holdsMarkedClosures post (nI n, nI m, nI e, cx_r R, ps, lo) (nI s) := by
  unfold wpX_holdsMarkedClosures
  dsimp only
  obtain ⟨f, hf⟩ := cx_lp (fun f k => post (pu_b (!pu_y (pu_u T (pu_c R n (e - 1)) s) (s - k) k)) → wX_holdsMarkedClosures_2 post (nI s) (nI n) (nI m) (nI e) (cx_r R) ps lo f (nI k)) s 0 (Nat.zero_le _) (fun f h => by
    rw [Nat.sub_self] at h
    exact br_t (nI_le (Nat.le_refl _) (by omega)) h) (fun f k _ hk ih h => by
    try dsimp only at ih
    rw [show s - k = (s - (k + 1)) + 1 from by omega] at h
    have hi : vp_in (nI k) 128 := vp_in_nI (by omega) (by omega)
    refine br_f (nI_ge hk (by omega)) ⟨hi, pu_br' (cx_ra (by omega) (hp k hk)) (fun hb => nm_r (nI_1 k) ?_) (fun hb => cx_isPart k s rfl rfl (by omega) ?_)⟩
    · rw [pu_y_f (pu_u_1 hb)] at h
      exact ih h
    · refine pu_br (fun hc => nm_r (nI_1 k) ?_) (fun hc => cx_closureOf H k rfl (by omega) (cx_isPart (pu_c R n (e - 1) k) s rfl rfl (cx_k_lt H k) ?_))
      · rw [pu_y_f (pu_u_2 hc)] at h
        exact ih h
      · refine pu_br (fun hd => ?_) (fun hd => nm_r (nI_1 k) ?_)
        · rw [pu_y_t (pu_u_4 hb hc hd)] at h
          exact h
        · rw [pu_y_f (pu_u_3 hd)] at h
          exact ih h)
  exact ⟨f, hf h⟩
theorem cx_mark (H : cx_ok n e R) {post : SX → Prop} (h : ∀ ps' : Nat → Int32, (∀ j, j < e → ps' j = pu_b (pu_t (pu_k R n (e - 1)) (pu_c R n (e - 1)) e j)) → post (nI n, nI m, nI e, cx_r R, ps', lo)) : wpX_markPseudoClosed post (nI n, nI m, nI e, cx_r R, ps, lo) := by
  obtain ⟨h1, h2, h3, h4⟩ := id H
  unfold wpX_markPseudoClosed
  dsimp only
  obtain ⟨f, hf⟩ := cx_lp (fun f k => ∀ ps : Nat → Int32, (∀ j, j < k → ps j = pu_b (pu_t (pu_k R n (e - 1)) (pu_c R n (e - 1)) k j)) → wX_markPseudoClosed_2 post (nI n) (nI m) (nI e) f (nI k) (cx_r R) ps lo) e 0 (Nat.zero_le _) (fun f ps hp => br_t (nI_le (Nat.le_refl _) (by omega)) (h ps hp)) (fun f k _ hk ih ps hp => by
    have hi : vp_in (nI k) 128 := vp_in_nI (by omega) (by omega)
    have hn : ∀ j, j < k → pu_t (pu_k R n (e - 1)) (pu_c R n (e - 1)) (k + 1) j = pu_t (pu_k R n (e - 1)) (pu_c R n (e - 1)) k j := fun j hj => pu_t_n _ _ hj
    have hs := pu_t_s (pu_k R n (e - 1)) (pu_c R n (e - 1)) k
    refine br_f (nI_ge hk (by omega)) (cx_isClosed H k rfl (by omega) ?_)
    refine pu_br (fun hb => cx_holds H k (by omega) (pu_t (pu_k R n (e - 1)) (pu_c R n (e - 1)) k) hp ?_) (fun hb => ⟨hi, nm_e (nm_r (nI_1 k) (ih _ (cx_up1 (by omega) ?_ hn hp)))⟩)
    · rw [hb] at hs
      refine pu_br (fun hc => ⟨hi, nm_e (nm_r (nI_1 k) (ih _ (cx_up1 (by omega) ?_ hn hp)))⟩) (fun hc => ⟨hi, nm_e (nm_r (nI_1 k) (ih _ (cx_up1 (by omega) ?_ hn hp)))⟩)
      · rw [hs, hc]
        rfl
      · rw [hs, hc]
        rfl
    · rw [hs, hb]
      rfl)
  exact ⟨f, hf ps (fun j hj => absurd hj (by omega))⟩
theorem cx_rules8 {post : Int32 → SX → Prop} {T : Nat → Bool} (he : e ≤ 128) (hp : ∀ j, j < e → ps j = pu_b (T j)) (rw' : Nat → Int32) (h : post (nI (pu_n T e)) (nI n, nI m, nI e, rw', ps, lo)) : ∃ f, wX_rules_8 post (nI n) (nI m) (nI e) rw' ps lo f 0 0 := by
  refine cx_lp (fun f k => wX_rules_8 post (nI n) (nI m) (nI e) rw' ps lo f (nI (pu_n T k)) (nI k)) e 0 (Nat.zero_le _) (fun f => ?_) (fun f k _ hk ih => ?_)
  · exact br_t (nI_le (Nat.le_refl _) (by omega)) h
  · try dsimp only at ih
    have hi : vp_in (nI k) 128 := vp_in_nI (by omega) (by omega)
    refine br_f (nI_ge hk (by omega)) ⟨hi, pu_br' (cx_ra (by omega) (hp k hk)) (fun hb => nm_r (nI_1 k) ?_) (fun hb => nm_r (nI_1 _) (nm_r (nI_1 k) ?_))⟩
    · rw [pu_n_f hb] at ih
      exact ih
    · rw [pu_n_t hb] at ih
      exact ih
theorem cx_rule8 {post : Int32 → SX → Prop} {T : Nat → Bool} (he : e ≤ 128) (hp : ∀ j, j < e → ps j = pu_b (T j)) (rw' : Nat → Int32) (x : Int32) (h : post (pu_s T x e 0) (nI n, nI m, nI e, rw', ps, lo)) : ∃ f, wX_rule_8 post x (nI n) (nI m) (nI e) rw' ps lo f 0 0 := by
  obtain ⟨f, hf⟩ := cx_lp (fun f k => post (pu_s T x (e - k) k) (nI n, nI m, nI e, rw', ps, lo) → wX_rule_8 post x (nI n) (nI m) (nI e) rw' ps lo f (nI (pu_n T k)) (nI k)) e 0 (Nat.zero_le _) (fun f h => by
    rw [Nat.sub_self] at h
    exact br_t (nI_le (Nat.le_refl _) (by omega)) h) (fun f k _ hk ih h => by
    try dsimp only at ih
    rw [show e - k = (e - (k + 1)) + 1 from by omega] at h
    have hi : vp_in (nI k) 128 := vp_in_nI (by omega) (by omega)
    refine br_f (nI_ge hk (by omega)) ⟨hi, pu_br' (cx_ra (by omega) (hp k hk)) (fun hb => nm_r (nI_1 k) ?_) (fun hb => br_c (fun hx => ?_) (fun hx => nm_r (nI_1 _) (nm_r (nI_1 k) ?_)))⟩
    · rw [pu_s_f hb] at h
      have ih2 := ih h
      rw [pu_n_f hb] at ih2
      exact ih2
    · rw [pu_s_t hb hx] at h
      exact h
    · rw [pu_s_n hb hx] at h
      have ih2 := ih h
      rw [pu_n_t hb] at ih2
      exact ih2)
  exact ⟨f, hf h⟩
end
end
section
/-! the class: covers, links, height, sizes, dispensable -/
def pu_te (R : Nat → Nat) (n z c o : Nat) : Bool := decide (pu_c R n z o = c)
def pu_z7 (o : Nat) : Nat := pu_z o 7
theorem pu_tet {R : Nat → Nat} {n z c o : Nat} (h : pu_c R n z o = c) : pu_te R n z c o = true := decide_eq_true h
theorem pu_tef {R : Nat → Nat} {n z c o : Nat} (h : ¬ pu_c R n z o = c) : pu_te R n z c o = false := decide_eq_false h
theorem pu_z7_le (o : Nat) : pu_z7 o ≤ 7 := pu_z_le o 7
theorem pu_w_1 {K : Nat → Bool} {c d z : Nat} (h : K z = false) : pu_w K c d z = false := by
  unfold pu_w
  rw [h]
  rfl
theorem pu_w_2 {K : Nat → Bool} {c d z : Nat} (h : pu_q c z = false) : pu_w K c d z = false := by
  unfold pu_w
  rw [h]
  cases K z <;> rfl
theorem pu_w_3 {K : Nat → Bool} {c d z : Nat} (h : pu_q z d = false) : pu_w K c d z = false := by
  unfold pu_w
  rw [h]
  cases K z <;> cases pu_q c z <;> rfl
theorem pu_w_4 {K : Nat → Bool} {c d z : Nat} (h1 : K z = true) (h2 : pu_q c z = true) (h3 : pu_q z d = true) : pu_w K c d z = true := by
  unfold pu_w
  rw [h1, h2, h3]
  rfl
theorem pu_v_1 {K : Nat → Bool} {e c d : Nat} (h : K d = false) : pu_v K e c d = false := by
  unfold pu_v
  rw [h]
  rfl
theorem pu_v_2 {K : Nat → Bool} {e c d : Nat} (h : pu_q c d = false) : pu_v K e c d = false := by
  unfold pu_v
  rw [h]
  cases K d <;> rfl
theorem pu_v_3 {K : Nat → Bool} {e c d : Nat} (h : pu_y (pu_w K c d) e 0 = true) : pu_v K e c d = false := by
  unfold pu_v
  rw [h]
  cases K d <;> cases pu_q c d <;> rfl
theorem pu_v_4 {K : Nat → Bool} {e c d : Nat} (h1 : K d = true) (h2 : pu_q c d = true) (h3 : pu_y (pu_w K c d) e 0 = false) : pu_v K e c d = true := by
  unfold pu_v
  rw [h1, h2, h3]
  rfl
theorem pu_dx_1 {K : Nat → Bool} {a s : Nat} (h : ¬ s &&& 2 ^ a = 0) : pu_dx K a s = false := by
  unfold pu_dx
  rw [decide_eq_false h]
  rfl
theorem pu_dx_2 {K : Nat → Bool} {a s : Nat} (h : K s = false) : pu_dx K a s = false := by
  unfold pu_dx
  rw [h]
  cases decide (s &&& 2 ^ a = 0) <;> rfl
theorem pu_dx_3 {K : Nat → Bool} {a s : Nat} (h : K (s ||| 2 ^ a) = false) : pu_dx K a s = false := by
  unfold pu_dx
  rw [h]
  cases decide (s &&& 2 ^ a = 0) <;> cases K s <;> rfl
theorem pu_dx_4 {K : Nat → Bool} {a s : Nat} (h1 : s &&& 2 ^ a = 0) (h2 : K s = true) (h3 : K (s ||| 2 ^ a) = true) : pu_dx K a s = true := by
  unfold pu_dx
  rw [decide_eq_true h1, h2, h3]
  rfl
section
variable {n m e : Nat} {R : Nat → Nat} {ps lo : Nat → Int32}
theorem cx_between (H : cx_ok n e R) {post : Int32 → Prop} (c d : Nat) (hcd : c < d) (hd : d < e) (h : post (pu_b (pu_y (pu_w (pu_k R n (e - 1)) c d) e 0))) : wpX_hasClosedBetween post (nI n, nI m, nI e, cx_r R, ps, lo) (nI c) (nI d) := by
  obtain ⟨h1, h2, h3, h4⟩ := id H
  unfold wpX_hasClosedBetween
  dsimp only
  refine nm_r (nI_1 c) ?_
  rw [← pu_w_y (show d ≤ e by omega) hcd] at h
  obtain ⟨f, hf⟩ := cx_lp (fun f k => post (pu_b (pu_y (pu_w (pu_k R n (e - 1)) c d) (d - k) k)) → wX_hasClosedBetween_4 post (nI c) (nI d) (nI n) (nI m) (nI e) (cx_r R) ps lo f (nI k)) d (c + 1) hcd (fun f h => by
    rw [Nat.sub_self] at h
    exact br_t (nI_le (Nat.le_refl _) (by omega)) h) (fun f k _ hk ih h => by
    try dsimp only at ih
    rw [show d - k = (d - (k + 1)) + 1 from by omega] at h
    refine br_f (nI_ge hk (by omega)) (cx_isProperPart c k rfl rfl (by omega) (by omega) ?_)
    refine pu_br (fun hb => nm_r (nI_1 k) ?_) (fun hb => cx_isProperPart k d rfl rfl (by omega) (by omega) ?_)
    · rw [pu_y_f (pu_w_2 hb)] at h
      exact ih h
    · refine pu_br (fun hc => nm_r (nI_1 k) ?_) (fun hc => cx_isClosed H k rfl (by omega) ?_)
      · rw [pu_y_f (pu_w_3 hc)] at h
        exact ih h
      · refine pu_br (fun hd => nm_r (nI_1 k) ?_) (fun hd => ?_)
        · rw [pu_y_f (pu_w_1 hd)] at h
          exact ih h
        · rw [pu_y_t (pu_w_4 hd hb hc)] at h
          exact h)
  exact ⟨f, hf h⟩
theorem cx_countCovers (H : cx_ok n e R) {post : Int32 → Prop} (c : Nat) (hc : c < e) (h : post (nI (pu_o (pu_k R n (e - 1)) e c))) : wpX_countCovers post (nI n, nI m, nI e, cx_r R, ps, lo) (nI c) := by
  obtain ⟨h1, h2, h3, h4⟩ := id H
  unfold wpX_countCovers
  dsimp only
  refine nm_r (nI_1 c) ?_
  obtain ⟨f, hf⟩ := cx_lp (fun f k => wX_countCovers_6 post (nI c) (nI n) (nI m) (nI e) (cx_r R) ps lo f (nI (pu_n (pu_v (pu_k R n (e - 1)) e c) k)) (nI k)) e (c + 1) hc (fun f => br_t (nI_le (Nat.le_refl _) (by omega)) h) (fun f k _ hk ih => by
    try dsimp only at ih
    refine br_f (nI_ge hk (by omega)) (cx_isProperPart c k rfl rfl (by omega) (by omega) ?_)
    refine pu_br (fun hb => nm_r (nI_1 k) ?_) (fun hb => cx_isClosed H k rfl (by omega) ?_)
    · rw [pu_n_f (pu_v_2 hb)] at ih
      exact ih
    · refine pu_br (fun hd => nm_r (nI_1 k) ?_) (fun hd => cx_between H c k (pu_q_lt hb) hk ?_)
      · rw [pu_n_f (pu_v_1 hd)] at ih
        exact ih
      · refine pu_br (fun hy => nm_r (nI_1 _) (nm_r (nI_1 k) ?_)) (fun hy => nm_r (nI_1 k) ?_)
        · rw [pu_n_t (pu_v_4 hd hb hy)] at ih
          exact ih
        · rw [pu_n_f (pu_v_3 hy)] at ih
          exact ih)
  try dsimp only at hf
  rw [pu_v_n] at hf
  exact ⟨f, hf⟩
theorem cx_links (H : cx_ok n e R) {post : Int32 → Prop} (h : post (nI (pu_l (pu_k R n (e - 1)) (pu_o (pu_k R n (e - 1)) e) e))) : wpX_links post (nI n, nI m, nI e, cx_r R, ps, lo) := by
  obtain ⟨h1, h2, h3, h4⟩ := id H
  unfold wpX_links
  dsimp only
  refine cx_lp (fun f k => wX_links_4 post (nI n) (nI m) (nI e) (cx_r R) ps lo f (nI (pu_l (pu_k R n (e - 1)) (pu_o (pu_k R n (e - 1)) e) k)) (nI k)) e 0 (Nat.zero_le _) (fun f => ?_) (fun f k _ hk ih => ?_)
  · exact br_t (nI_le (Nat.le_refl _) (by omega)) h
  · try dsimp only at ih
    refine br_f (nI_ge hk (by omega)) (cx_isClosed H k rfl (by omega) ?_)
    refine pu_br (fun hb => nm_r (nI_1 k) ?_) (fun hb => cx_countCovers H k hk (nm_r (nI_add _ _) (nm_r (nI_1 k) ?_)))
    · rw [pu_l_f hb] at ih
      exact ih
    · rw [pu_l_t hb] at ih
      exact ih
theorem cx_below {post : Int32 → Prop} (s : Nat) (hs : s < 128) (T : Nat → Nat) (hT : ∀ j, T j ≤ 128) (hl : ∀ j, j < s → lo j = nI (T j)) (rw' : Nat → Int32) (h : post (nI (pu_m T s s))) : wpX_longestBelow post (nI n, nI m, nI e, rw', ps, lo) (nI s) := by
  unfold wpX_longestBelow
  dsimp only
  refine cx_lp (fun f k => wX_longestBelow_4 post (nI s) (nI n) (nI m) (nI e) rw' ps lo f (nI (pu_m T s k)) (nI k)) s 0 (Nat.zero_le _) (fun f => ?_) (fun f k _ hk ih => ?_)
  · exact br_t (nI_le (Nat.le_refl _) (by omega)) h
  · try dsimp only at ih
    have hi : vp_in (nI k) 128 := vp_in_nI (by omega) (by omega)
    have hb1 := hT k
    have hb2 := pu_m_le (s := s) hT k
    have hr : lo (nI k).toNatClampNeg = nI (T k) := cx_ra (by omega) (hl k hk)
    refine br_f (nI_ge hk (by omega)) (cx_isPart k s rfl rfl (by omega) ?_)
    refine pu_br (fun hb => nm_r (nI_1 k) ?_) (fun hb => ⟨hi, pk_le (T k) (pu_m T s k) (fun hc => nm_r (nI_1 k) ?_) (fun hc => ⟨hi, nm_r (e' := nI (pu_m T s (k + 1))) ?_ (nm_r (nI_1 k) ih)⟩) hr rfl (by omega) (by omega)⟩)
    · rw [pu_m_f hb] at ih
      exact ih
    · rw [pu_m_l hc] at ih
      exact ih
    · rw [hr, pu_m_t hb hc]
theorem cx_height36 {post : Int32 → SX → Prop} {J : Int32 → Int32 → (Nat → Int32) → (Nat → Int32) → (Nat → Int32) → Prop} {K : Nat → Bool} {rw' : Nat → Int32} {z : Int32} (k : Nat) (hk : k < 128) (hz : z = nI (pu_h K (k + 1) k)) (hl : ∀ j, j < k → lo j = nI (pu_h K k j)) (hJ : ∀ lo' : Nat → Int32, (∀ j, j < k + 1 → lo' j = nI (pu_h K (k + 1) j)) → J (nI (pu_g K (k + 1))) (nI (k + 1)) rw' ps lo') : wX_height_36 post J (nI (pu_g K k)) (nI k) z (nI k) (nI n) (nI m) (nI e) rw' ps lo := by
  unfold wX_height_36
  have hi : vp_in (nI k) 128 := vp_in_nI (by omega) (by omega)
  have hb1 := pu_h_le K (k + 1) k
  have hb2 := pu_g_le K k
  have hup := cx_up2 (T' := pu_h K (k + 1)) (by omega) hz (fun j hj => pu_h_n K (by omega)) hl
  have hJ2 := hJ _ hup
  have hr : upd lo (nI k).toNatClampNeg z (nI k).toNatClampNeg = nI (pu_h K (k + 1) k) := cx_ra (by omega) (hup k (by omega))
  refine ⟨hi, nm_e ⟨hi, pk_le (pu_h K (k + 1) k) (pu_g K k) (fun hc => nm_r (nI_1 k) ?_) (fun hc => ⟨hi, nm_r (e' := nI (pu_g K (k + 1))) ?_ (nm_r (nI_1 k) hJ2)⟩) hr rfl (by omega) (by omega)⟩⟩
  · rw [pu_g_f hc] at hJ2
    exact hJ2
  · rw [hr, pu_g_t hc]
theorem cx_height (H : cx_ok n e R) {post : Int32 → SX → Prop} (h : ∀ lo' : Nat → Int32, post (nI (pu_g (pu_k R n (e - 1)) e)) (nI n, nI m, nI e, cx_r R, ps, lo')) : wpX_height post (nI n, nI m, nI e, cx_r R, ps, lo) := by
  obtain ⟨h1, h2, h3, h4⟩ := id H
  unfold wpX_height
  dsimp only
  obtain ⟨f, hf⟩ := cx_lp (fun f k => ∀ lo : Nat → Int32, (∀ j, j < k → lo j = nI (pu_h (pu_k R n (e - 1)) k j)) → wX_height_4 post (nI n) (nI m) (nI e) f (nI (pu_g (pu_k R n (e - 1)) k)) (nI k) (cx_r R) ps lo) e 0 (Nat.zero_le _) (fun f lo hl => br_t (nI_le (Nat.le_refl _) (by omega)) (h lo)) (fun f k _ hk ih lo hl => by
    refine br_f (nI_ge hk (by omega)) (cx_isClosed H k rfl (by omega) ?_)
    refine pu_br (fun hb => cx_height36 k (by omega) ?_ hl ih) (fun hb => cx_below k (by omega) (pu_h (pu_k R n (e - 1)) k) (fun j => Nat.le_trans (pu_h_le _ k j) (by omega)) hl _ (cx_height36 k (by omega) ?_ hl ih))
    · rw [pu_h_f hb]
      rfl
    · rw [pu_h_t hb]
      exact nI_1 _)
  exact ⟨f, hf lo (fun j hj => absurd hj (by omega))⟩
theorem cx_sizeOf {post : Int32 → Prop} (s : Nat) (hs : s < 2 ^ 31) (h : post (nI (pu_z7 s))) : wpX_sizeOf post (nI s) := by
  unfold wpX_sizeOf
  refine cx_lp (fun f k => wX_sizeOf_4 post (nI s) f (nI (pu_z s k)) (nI k)) 7 0 (Nat.zero_le _) (fun f => ?_) (fun f k _ hk ih => ?_)
  · exact br_t (show (7 : Int32) ≤ nI 7 by decide) h
  · refine br_f (nI_ge (b := 7) hk (by decide)) (nm_r (e' := nI (pu_z s (k + 1))) ?_ (nm_r (nI_1 k) ih))
    rw [pu_bitv hs (by omega), nI_add, pu_z_s]
theorem cx_gen (H : cx_ok n e R) {post : Int32 → Prop} (c b : Nat) (hc : c < 2 ^ 31) (hb : b ≤ 7) (h : post (nI (pu_i (pu_te R n (e - 1) c) pu_z7 b e))) : ∃ f, wX_generatorSize_24 post (nI c) (nI n) (nI m) (nI e) (cx_r R) ps lo f (nI b) 0 := by
  obtain ⟨h1, h2, h3, h4⟩ := id H
  refine cx_lp (fun f k => wX_generatorSize_24 post (nI c) (nI n) (nI m) (nI e) (cx_r R) ps lo f (nI (pu_i (pu_te R n (e - 1) c) pu_z7 b k)) (nI k)) e 0 (Nat.zero_le _) (fun f => ?_) (fun f k _ hk ih => ?_)
  · exact br_t (nI_le (Nat.le_refl _) (by omega)) h
  · try dsimp only at ih
    have hz := pu_z7_le k
    have hi := pu_i_le (pu_te R n (e - 1) c) pu_z7 b k
    refine br_f (nI_ge hk (by omega)) (cx_sizeOf k (by omega) ?_)
    refine pk_le (pu_i (pu_te R n (e - 1) c) pu_z7 b k) (pu_z7 k) (fun hl => nm_r (nI_1 k) ?_) (fun hl => cx_closureOf H k rfl (by omega) ?_) rfl rfl (by omega) (by omega)
    · rw [pu_i_l hl] at ih
      exact ih
    · refine pk_eq (pu_c R n (e - 1) k) c (fun hq => nm_r (nI_1 k) ?_) (fun hq => nm_r (nI_1 k) ?_) rfl rfl (cx_k_lt H k) hc
      · rw [pu_i_t hl (pu_tet hq)] at ih
        exact ih
      · rw [pu_i_f (pu_tef hq)] at ih
        exact ih
theorem cx_disp (H : cx_ok n e R) {post : Int32 → Prop} (a : Nat) (ha : a < 7) (h : post (pu_b (!pu_y (pu_dx (pu_k R n (e - 1)) a) e 0))) : ∃ f, wX_dispensable_16 post (nI (2 ^ a)) (nI n) (nI m) (nI e) (cx_r R) ps lo f 0 := by
  obtain ⟨h1, h2, h3, h4⟩ := id H
  obtain ⟨f, hf⟩ := cx_lp (fun f k => post (pu_b (!pu_y (pu_dx (pu_k R n (e - 1)) a) (e - k) k)) → wX_dispensable_16 post (nI (2 ^ a)) (nI n) (nI m) (nI e) (cx_r R) ps lo f (nI k)) e 0 (Nat.zero_le _) (fun f h => by
    rw [Nat.sub_self] at h
    exact br_t (nI_le (Nat.le_refl _) (by omega)) h) (fun f k _ hk ih h => by
    try dsimp only at ih
    rw [show e - k = (e - (k + 1)) + 1 from by omega] at h
    have hp : 2 ^ a < 2 ^ 31 := pu_pw (by omega)
    have hl : k &&& 2 ^ a < 2 ^ 31 := Nat.lt_of_le_of_lt Nat.and_le_right hp
    have ho : k ||| 2 ^ a < 2 ^ 31 := Nat.or_lt_two_pow (by omega) hp
    refine br_f (nI_ge hk (by omega)) (pk_eq (k &&& 2 ^ a) 0 (fun hb => cx_isClosed H k rfl (by omega) ?_) (fun hb => nm_r (nI_1 k) ?_) (nx_and k (2 ^ a)) rfl hl (by omega))
    · refine pu_br (fun hc => nm_r (nI_1 k) ?_) (fun hc => cx_isClosed H (k ||| 2 ^ a) (pu_nor k (2 ^ a)) ho ?_)
      · rw [pu_y_f (pu_dx_2 hc)] at h
        exact ih h
      · refine pu_br (fun hd => nm_r (nI_1 k) ?_) (fun hd => ?_)
        · rw [pu_y_f (pu_dx_3 hd)] at h
          exact ih h
        · rw [pu_y_t (pu_dx_4 hb hc hd)] at h
          exact h
    · rw [pu_y_f (pu_dx_1 hb)] at h
      exact ih h)
  exact ⟨f, hf h⟩
end
end
section
/-! the reference: its helpers and its tables -/
theorem cy_part {post : Int32 → Prop} {u : SY} {x y : Int32} (a b : Nat) (hx : x = nI a) (hy : y = nI b) (ha : a < 2 ^ 31) (h : post (pu_b (pu_p a b))) : wpY_part post u x y := by
  subst hx hy
  obtain ⟨u1, u2, u3, u4, u5, u6, u7, u8⟩ := u
  unfold wpY_part
  dsimp only
  rw [nx_and, nI_eq (Nat.lt_of_le_of_lt Nat.and_le_left ha) ha]
  by_cases h2 : a &&& b = a
  · rw [pu_pt h2] at h
    exact br_t h2 h
  · rw [pu_pf h2] at h
    exact br_f h2 h
theorem cy_proper {post : Int32 → Prop} {u : SY} {x y : Int32} (a b : Nat) (hx : x = nI a) (hy : y = nI b) (ha : a < 2 ^ 31) (hb : b < 2 ^ 31) (h : post (pu_b (pu_q a b))) : wpY_proper post u x y := by
  subst hx hy
  obtain ⟨u1, u2, u3, u4, u5, u6, u7, u8⟩ := u
  unfold wpY_proper
  dsimp only
  refine pk_eq a b (fun h1 => ?_) (fun h1 => cy_part a b rfl rfl ha ?_) rfl rfl ha hb
  · rw [pu_qf h1] at h
    exact h
  · rw [pu_qt h1] at h
    refine pu_br (fun h2 => ?_) (fun h2 => ?_)
    · rw [h2] at h
      exact h
    · rw [h2] at h
      exact h
section
variable {n m e : Nat} {R : Nat → Nat} {cl ps cs ch : Nat → Int32}
theorem cy_havers (H : cx_ok n e R) {post : Int32 → Prop} {x : Int32} (s : Nat) (hx : x = nI s) (hs : s < 2 ^ 31) (h : post (nI (pu_e R s n))) : wpY_havers post (nI n, nI m, nI (e - 1), cx_r R, cl, ps, cs, ch) x := by
  subst hx
  obtain ⟨h1, h2, h3, h4⟩ := id H
  unfold wpY_havers
  dsimp only
  refine cx_lp (fun f k => wY_havers_4 post (nI s) (nI n) (nI m) (nI (e - 1)) (cx_r R) cl ps cs ch f (nI (pu_e R s k)) (nI k)) n 0 (Nat.zero_le _) (fun f => ?_) (fun f k _ hk ih => ?_)
  · exact br_t (nI_le (Nat.le_refl _) (by omega)) h
  · have hi : vp_in (nI k) 8 := vp_in_nI (by omega) (by omega)
    refine br_f (nI_ge hk (by omega)) (br_f (nI_ge (b := 8) (by omega) (by decide)) ⟨hi, cy_part s (R k) rfl (cx_at (by omega)) hs ?_⟩)
    refine pu_br (fun hb => nm_r (nI_1 k) ?_) (fun hb => nm_r (e' := nI (pu_e R s (k + 1))) ?_ (nm_r (nI_1 k) ih))
    · rw [pu_e_f hb] at ih
      exact ih
    · rw [pu_1sh (by omega), pu_nor, pu_e_t hb]
theorem cy_shared (H : cx_ok n e R) {post : Int32 → Prop} {x : Int32} (s : Nat) (hx : x = nI s) (hs : s < 2 ^ 31) (h : post (nI (pu_a R (fun g => s.testBit g) (e - 1) n))) : wpY_shared post (nI n, nI m, nI (e - 1), cx_r R, cl, ps, cs, ch) x := by
  subst hx
  obtain ⟨h1, h2, h3, h4⟩ := id H
  unfold wpY_shared
  dsimp only
  refine cx_lp (fun f k => wY_shared_7 post (nI s) (nI n) (nI m) (nI (e - 1)) (cx_r R) cl ps cs ch f (nI (pu_a R (fun g => s.testBit g) (e - 1) k)) (nI k)) n 0 (Nat.zero_le _) (fun f => ?_) (fun f k _ hk ih => ?_)
  · exact br_t (nI_le (Nat.le_refl _) (by omega)) h
  · have hi : vp_in (nI k) 8 := vp_in_nI (by omega) (by omega)
    have hm : s / 2 ^ k % 2 < 2 := Nat.mod_lt _ (by decide)
    refine br_f (nI_ge hk (by omega)) (br_f (nI_ge (b := 8) (by omega) (by decide)) ?_)
    refine pk_eq (s / 2 ^ k % 2) 1 (fun hb => ⟨hi, nm_r (e' := nI (pu_a R (fun g => s.testBit g) (e - 1) (k + 1))) ?_ (nm_r (nI_1 k) ih)⟩) (fun hb => nm_r (nI_1 k) ?_) (pu_bitv hs (by omega)) rfl (by omega) (by omega)
    · rw [cx_at (by omega), nx_and, pu_gt (pu_bit1.mp hb)]
    · have hb2 : s.testBit k = false := by
        cases hc : s.testBit k
        · rfl
        · exact absurd (pu_bit1.mpr hc) hb
      rw [pu_gf hb2] at ih
      exact ih
theorem cy_closureOf (H : cx_ok n e R) {post : Int32 → Prop} {x : Int32} (s : Nat) (hx : x = nI s) (hs : s < 2 ^ 31) (h : post (nI (pu_c R n (e - 1) s))) : wpY_closureOf post (nI n, nI m, nI (e - 1), cx_r R, cl, ps, cs, ch) x := by
  unfold wpY_closureOf
  dsimp only
  have hb : pu_e R s n < 2 ^ 31 := Nat.lt_of_lt_of_le (pu_e_lt R s n) (pu_ple (k := 31) (Nat.le_trans H.1 (by decide)))
  refine cy_havers H s hx hs (cy_shared H (pu_e R s n) rfl hb ?_)
  rw [pu_c_e]
  exact h
theorem cy_isPseudo {post : Int32 → Prop} {K : Nat → Bool} {C : Nat → Nat} {f1 f2 f3 : Int32} {rw' : Nat → Int32} (s : Nat) (hs : s < 128) (T : Nat → Bool) (hC : ∀ j, C j < 2 ^ 31) (hp : ∀ j, j < s → ps j = pu_b (T j)) (hc : ∀ j, j < s → cs j = nI (C j)) (hk : cl s = pu_b (K s)) (h : post (pu_b (!K s && !pu_y (pu_u T C s) s 0))) : wpY_isPseudo post (f1, f2, f3, rw', cl, ps, cs, ch) (nI s) := by
  unfold wpY_isPseudo
  dsimp only
  refine ⟨vp_in_nI hs (by omega), pu_br' (cx_ra (by omega) hk) (fun hb => ?_) (fun hb => ?_)⟩
  · rw [hb] at h
    obtain ⟨f, hf⟩ := cx_lp (fun f k => post (pu_b (!false && !pu_y (pu_u T C s) (s - k) k)) → wY_isPseudo_13 post (nI s) f1 f2 f3 rw' cl ps cs ch f (nI k)) s 0 (Nat.zero_le _) (fun f h => by
      rw [Nat.sub_self] at h
      exact br_t (nI_le (Nat.le_refl _) (by omega)) h) (fun f k _ hk ih h => by
      try dsimp only at ih
      rw [show s - k = (s - (k + 1)) + 1 from by omega] at h
      have hi : vp_in (nI k) 128 := vp_in_nI (by omega) (by omega)
      refine br_f (nI_ge hk (by omega)) ⟨hi, pu_br' (cx_ra (by omega) (hp k hk)) (fun hb => nm_r (nI_1 k) ?_) (fun hb => cy_proper k s rfl rfl (by omega) (by omega) ?_)⟩
      · rw [pu_y_f (pu_u_1 hb)] at h
        exact ih h
      · rw [pu_q_of hk]
        refine pu_br (fun hc1 => nm_r (nI_1 k) ?_) (fun hc1 => ⟨hi, cy_part (C k) s (cx_ra (by omega) (hc k hk)) rfl (hC k) ?_⟩)
        · rw [pu_y_f (pu_u_2 hc1)] at h
          exact ih h
        · refine pu_br (fun hd => ?_) (fun hd => nm_r (nI_1 k) ?_)
          · rw [pu_y_t (pu_u_4 hb hc1 hd)] at h
            exact h
          · rw [pu_y_f (pu_u_3 hd)] at h
            exact ih h)
    exact ⟨f, hf h⟩
  · rw [hb] at h
    exact h
theorem cy_tab48 {post : SY → Prop} {J : Int32 → (Nat → Int32) → (Nat → Int32) → (Nat → Int32) → (Nat → Int32) → (Nat → Int32) → Prop} {K : Nat → Bool} {C : Nat → Nat} {f1 f2 f3 : Int32} {rw' : Nat → Int32} {z : Int32} (k : Nat) (hk : k < 128) (hz : z = pu_b (K k)) (hC : ∀ j, C j < 2 ^ 31) (hcl : ∀ j, j < k → cl j = pu_b (K j)) (hps : ∀ j, j < k → ps j = pu_b (pu_t K C k j)) (hcs : ∀ j, j < k → cs j = nI (C j)) (hJ : ∀ cl' ps' : Nat → Int32, (∀ j, j < k + 1 → cl' j = pu_b (K j)) → (∀ j, j < k + 1 → ps' j = pu_b (pu_t K C (k + 1) j)) → J (nI (k + 1)) rw' cl' ps' cs ch) : wY_tabulate_48 post J (nI k) z (nI k) f1 f2 f3 rw' cl ps cs ch := by
  subst hz
  unfold wY_tabulate_48
  have hi : vp_in (nI k) 128 := vp_in_nI hk (by omega)
  have h1 := cx_up1 (T' := K) (by omega) (cx_nb (K k)) (fun j _ => rfl) hcl
  refine ⟨hi, nm_e (cy_isPseudo (K := K) (C := C) k hk (pu_t K C k) hC hps hcs (h1 k (by omega)) ⟨hi, nm_e (nm_r (nI_1 k) (hJ _ _ h1 (cx_up1 (by omega) ?_ (fun j hj => pu_t_n K C hj) hps)))⟩)⟩
  rw [pu_t_s]
  exact cx_nb _
theorem cy_tab (H : cx_ok n e R) {post : SY → Prop} (h : ∀ cl' ps' cs' : Nat → Int32, (∀ j, j < e → cl' j = pu_b (pu_k R n (e - 1) j)) → (∀ j, j < e → ps' j = pu_b (pu_t (pu_k R n (e - 1)) (pu_c R n (e - 1)) e j)) → (∀ j, j < e → cs' j = nI (pu_c R n (e - 1) j)) → post (nI n, nI m, nI (e - 1), cx_r R, cl', ps', cs', ch)) : wpY_tabulate post (nI n, nI m, nI (e - 1), cx_r R, cl, ps, cs, ch) := by
  obtain ⟨h1, h2, h3, h4⟩ := id H
  unfold wpY_tabulate
  dsimp only
  obtain ⟨f, hf⟩ := cx_lp (fun f k => ∀ cl ps cs : Nat → Int32, (∀ j, j < k → cl j = pu_b (pu_k R n (e - 1) j)) → (∀ j, j < k → ps j = pu_b (pu_t (pu_k R n (e - 1)) (pu_c R n (e - 1)) k j)) → (∀ j, j < k → cs j = nI (pu_c R n (e - 1) j)) → wY_tabulate_2 post (nI n) (nI m) (nI (e - 1)) f (nI k) (cx_r R) cl ps cs ch) e 0 (Nat.zero_le _) (fun f cl ps cs a b c => br_t (nI_lt (by omega) (by omega)) (h cl ps cs a b c)) (fun f k _ hk ih cl ps cs a b c => by
    have hi : vp_in (nI k) 128 := vp_in_nI (by omega) (by omega)
    have hc2 := cx_up2 (T' := pu_c R n (e - 1)) (v := nI (pu_c R n (e - 1) k)) (by omega) rfl (fun j _ => rfl) c
    have hr : upd cs (nI k).toNatClampNeg (nI (pu_c R n (e - 1) k)) (nI k).toNatClampNeg = nI (pu_c R n (e - 1) k) := cx_ra (by omega) (hc2 k (by omega))
    have ihJ := fun cl' ps' a' b' => ih cl' ps' _ a' b' hc2
    refine br_f (nI_nlt (by omega) (by omega)) (br_f (nI_ge (b := 128) (by omega) (by decide)) (cy_closureOf H k rfl (by omega) ⟨hi, nm_e ⟨hi, pk_eq (pu_c R n (e - 1) k) k (fun hq => ?_) (fun hq => ?_) hr rfl (cx_k_lt H k) (by omega)⟩⟩))
    · exact cy_tab48 (K := pu_k R n (e - 1)) (C := pu_c R n (e - 1)) k (by omega) (by rw [pu_kt hq]; rfl) (cx_k_lt H) a b (fun j hj => hc2 j (by omega)) ihJ
    · exact cy_tab48 (K := pu_k R n (e - 1)) (C := pu_c R n (e - 1)) k (by omega) (by rw [pu_kf hq]; rfl) (cx_k_lt H) a b (fun j hj => hc2 j (by omega)) ihJ)
  exact ⟨f, hf cl ps cs (fun j hj => absurd hj (by omega)) (fun j hj => absurd hj (by omega)) (fun j hj => absurd hj (by omega))⟩
end
end
section
/-! the reference: its walks over the tables -/
section
variable {n m e : Nat} {R : Nat → Nat} {rw' cl ps cs ch : Nat → Int32}
theorem cy_closedSets8 {post : Int32 → SY → Prop} {T : Nat → Bool} (h2 : 1 ≤ e) (he : e ≤ 128) (hp : ∀ j, j < e → cl j = pu_b (T j)) (h : post (nI (pu_n T e)) (nI n, nI m, nI (e - 1), rw', cl, ps, cs, ch)) : ∃ f, wY_closedSets_8 post (nI n) (nI m) (nI (e - 1)) rw' cl ps cs ch f 0 0 := by
  refine cx_lp (fun f k => wY_closedSets_8 post (nI n) (nI m) (nI (e - 1)) rw' cl ps cs ch f (nI (pu_n T k)) (nI k)) e 0 (Nat.zero_le _) (fun f => ?_) (fun f k _ hk ih => ?_)
  · exact br_t (nI_lt (by omega) (by omega)) h
  · try dsimp only at ih
    have hi : vp_in (nI k) 128 := vp_in_nI (by omega) (by omega)
    refine br_f (nI_nlt (by omega) (by omega)) ⟨hi, pu_br' (cx_ra (by omega) (hp k hk)) (fun hb => nm_r (nI_1 k) ?_) (fun hb => nm_r (nI_1 _) (nm_r (nI_1 k) ?_))⟩
    · rw [pu_n_f hb] at ih
      exact ih
    · rw [pu_n_t hb] at ih
      exact ih
theorem cy_rules8 {post : Int32 → SY → Prop} {T : Nat → Bool} (h2 : 1 ≤ e) (he : e ≤ 128) (hp : ∀ j, j < e → ps j = pu_b (T j)) (h : post (nI (pu_n T e)) (nI n, nI m, nI (e - 1), rw', cl, ps, cs, ch)) : ∃ f, wY_rules_8 post (nI n) (nI m) (nI (e - 1)) rw' cl ps cs ch f 0 0 := by
  refine cx_lp (fun f k => wY_rules_8 post (nI n) (nI m) (nI (e - 1)) rw' cl ps cs ch f (nI (pu_n T k)) (nI k)) e 0 (Nat.zero_le _) (fun f => ?_) (fun f k _ hk ih => ?_)
  · exact br_t (nI_lt (by omega) (by omega)) h
  · try dsimp only at ih
    have hi : vp_in (nI k) 128 := vp_in_nI (by omega) (by omega)
    refine br_f (nI_nlt (by omega) (by omega)) ⟨hi, pu_br' (cx_ra (by omega) (hp k hk)) (fun hb => nm_r (nI_1 k) ?_) (fun hb => nm_r (nI_1 _) (nm_r (nI_1 k) ?_))⟩
    · rw [pu_n_f hb] at ih
      exact ih
    · rw [pu_n_t hb] at ih
      exact ih
theorem cy_closedSet8 {post : Int32 → SY → Prop} {T : Nat → Bool} (h2 : 1 ≤ e) (he : e ≤ 128) (hp : ∀ j, j < e → cl j = pu_b (T j)) (x : Int32) (h : post (pu_s T x e 0) (nI n, nI m, nI (e - 1), rw', cl, ps, cs, ch)) : ∃ f, wY_closedSet_8 post x (nI n) (nI m) (nI (e - 1)) rw' cl ps cs ch f 0 0 := by
  obtain ⟨f, hf⟩ := cx_lp (fun f k => post (pu_s T x (e - k) k) (nI n, nI m, nI (e - 1), rw', cl, ps, cs, ch) → wY_closedSet_8 post x (nI n) (nI m) (nI (e - 1)) rw' cl ps cs ch f (nI (pu_n T k)) (nI k)) e 0 (Nat.zero_le _) (fun f h => by
    rw [Nat.sub_self] at h
    exact br_t (nI_lt (by omega) (by omega)) h) (fun f k _ hk ih h => by
    try dsimp only at ih
    rw [show e - k = (e - (k + 1)) + 1 from by omega] at h
    have hi : vp_in (nI k) 128 := vp_in_nI (by omega) (by omega)
    refine br_f (nI_nlt (by omega) (by omega)) ⟨hi, pu_br' (cx_ra (by omega) (hp k hk)) (fun hb => nm_r (nI_1 k) ?_) (fun hb => br_c (fun hx => ?_) (fun hx => nm_r (nI_1 _) (nm_r (nI_1 k) ?_)))⟩
    · rw [pu_s_f hb] at h
      have ih2 := ih h
      rw [pu_n_f hb] at ih2
      exact ih2
    · rw [pu_s_t hb hx] at h
      exact h
    · rw [pu_s_n hb hx] at h
      have ih2 := ih h
      rw [pu_n_t hb] at ih2
      exact ih2)
  exact ⟨f, hf h⟩
theorem cy_rule8 {post : Int32 → SY → Prop} {T : Nat → Bool} (h2 : 1 ≤ e) (he : e ≤ 128) (hp : ∀ j, j < e → ps j = pu_b (T j)) (x : Int32) (h : post (pu_s T x e 0) (nI n, nI m, nI (e - 1), rw', cl, ps, cs, ch)) : ∃ f, wY_rule_8 post x (nI n) (nI m) (nI (e - 1)) rw' cl ps cs ch f 0 0 := by
  obtain ⟨f, hf⟩ := cx_lp (fun f k => post (pu_s T x (e - k) k) (nI n, nI m, nI (e - 1), rw', cl, ps, cs, ch) → wY_rule_8 post x (nI n) (nI m) (nI (e - 1)) rw' cl ps cs ch f (nI (pu_n T k)) (nI k)) e 0 (Nat.zero_le _) (fun f h => by
    rw [Nat.sub_self] at h
    exact br_t (nI_lt (by omega) (by omega)) h) (fun f k _ hk ih h => by
    try dsimp only at ih
    rw [show e - k = (e - (k + 1)) + 1 from by omega] at h
    have hi : vp_in (nI k) 128 := vp_in_nI (by omega) (by omega)
    refine br_f (nI_nlt (by omega) (by omega)) ⟨hi, pu_br' (cx_ra (by omega) (hp k hk)) (fun hb => nm_r (nI_1 k) ?_) (fun hb => br_c (fun hx => ?_) (fun hx => nm_r (nI_1 _) (nm_r (nI_1 k) ?_)))⟩
    · rw [pu_s_f hb] at h
      have ih2 := ih h
      rw [pu_n_f hb] at ih2
      exact ih2
    · rw [pu_s_t hb hx] at h
      exact h
    · rw [pu_s_n hb hx] at h
      have ih2 := ih h
      rw [pu_n_t hb] at ih2
      exact ih2)
  exact ⟨f, hf h⟩
theorem cy_next6 {post : Int32 → SY → Prop} {T : Nat → Bool} (h2 : 1 ≤ e) (he : e ≤ 128) (hp : ∀ j, j < e → cl j = pu_b (T j)) (x : Int32) (h : post (pu_x T x e 0) (nI n, nI m, nI (e - 1), rw', cl, ps, cs, ch)) : ∃ f, wY_nextClosed_6 post x (nI n) (nI m) (nI (e - 1)) rw' cl ps cs ch f 0 := by
  obtain ⟨f, hf⟩ := cx_lp (fun f k => post (pu_x T x (e - k) k) (nI n, nI m, nI (e - 1), rw', cl, ps, cs, ch) → wY_nextClosed_6 post x (nI n) (nI m) (nI (e - 1)) rw' cl ps cs ch f (nI k)) e 0 (Nat.zero_le _) (fun f h => by
    rw [Nat.sub_self] at h
    exact br_t (nI_lt (by omega) (by omega)) h) (fun f k _ hk ih h => by
    try dsimp only at ih
    rw [show e - k = (e - (k + 1)) + 1 from by omega] at h
    have hi : vp_in (nI k) 128 := vp_in_nI (by omega) (by omega)
    refine br_f (nI_nlt (by omega) (by omega)) (br_c (fun hx => nm_r (nI_1 k) ?_) (fun hx => ⟨hi, pu_br' (cx_ra (by omega) (hp k hk)) (fun hb => nm_r (nI_1 k) ?_) (fun hb => ?_)⟩))
    · rw [pu_x_l hx] at h
      exact ih h
    · rw [pu_x_f hb] at h
      exact ih h
    · rw [pu_x_t hx hb] at h
      exact h)
  exact ⟨f, hf h⟩
theorem pu_f_1 {R : Nat → Nat} {p q g : Nat} (h : pu_p p (R g) = false) : pu_f R p q g = false := by
  unfold pu_f
  rw [h]
  rfl
theorem pu_f_2 {R : Nat → Nat} {p q g : Nat} (h : pu_p q (R g) = true) : pu_f R p q g = false := by
  unfold pu_f
  rw [h]
  cases pu_p p (R g) <;> rfl
theorem pu_f_3 {R : Nat → Nat} {p q g : Nat} (h1 : pu_p p (R g) = true) (h2 : pu_p q (R g) = false) : pu_f R p q g = true := by
  unfold pu_f
  rw [h1, h2]
  rfl
theorem cy_follows20 {post : Int32 → Prop} (hn : n ≤ 8) (p q : Nat) (hp : p < 2 ^ 31) (hq : q < 2 ^ 31) (h : post (pu_b (!pu_y (pu_f R p q) n 0))) : ∃ f, wY_follows_20 post (nI p) (nI q) (nI n) (nI m) (nI (e - 1)) (cx_r R) cl ps cs ch f 0 := by
  obtain ⟨f, hf⟩ := cx_lp (fun f k => post (pu_b (!pu_y (pu_f R p q) (n - k) k)) → wY_follows_20 post (nI p) (nI q) (nI n) (nI m) (nI (e - 1)) (cx_r R) cl ps cs ch f (nI k)) n 0 (Nat.zero_le _) (fun f h => by
    rw [Nat.sub_self] at h
    exact br_t (nI_le (Nat.le_refl _) (by omega)) h) (fun f k _ hk ih h => by
    try dsimp only at ih
    rw [show n - k = (n - (k + 1)) + 1 from by omega] at h
    have hi : vp_in (nI k) 8 := vp_in_nI (by omega) (by omega)
    refine br_f (nI_ge hk (by omega)) (br_f (nI_ge (b := 8) (by omega) (by decide)) ⟨hi, cy_part p (R k) rfl (cx_at (by omega)) hp ?_⟩)
    refine pu_br (fun hb => nm_r (nI_1 k) ?_) (fun hb => ⟨hi, cy_part q (R k) rfl (cx_at (by omega)) hq ?_⟩)
    · rw [pu_y_f (pu_f_1 hb)] at h
      exact ih h
    · refine pu_br (fun hc => ?_) (fun hc => nm_r (nI_1 k) ?_)
      · rw [pu_y_t (pu_f_3 hb hc)] at h
        exact h
      · rw [pu_y_f (pu_f_2 hc)] at h
        exact ih h)
  exact ⟨f, hf h⟩
theorem cy_between {post : Int32 → Prop} {K : Nat → Bool} (h2 : 1 ≤ e) (he : e ≤ 128) (hp : ∀ j, j < e → cl j = pu_b (K j)) (c d : Nat) (hc : c < 2 ^ 31) (hd : d < 2 ^ 31) (h : post (pu_b (pu_y (pu_w K c d) e 0))) : wpY_between post (nI n, nI m, nI (e - 1), rw', cl, ps, cs, ch) (nI c) (nI d) := by
  unfold wpY_between
  dsimp only
  obtain ⟨f, hf⟩ := cx_lp (fun f k => post (pu_b (pu_y (pu_w K c d) (e - k) k)) → wY_between_2 post (nI c) (nI d) (nI n) (nI m) (nI (e - 1)) rw' cl ps cs ch f (nI k)) e 0 (Nat.zero_le _) (fun f h => by
    rw [Nat.sub_self] at h
    exact br_t (nI_lt (by omega) (by omega)) h) (fun f k _ hk ih h => by
    try dsimp only at ih
    rw [show e - k = (e - (k + 1)) + 1 from by omega] at h
    have hi : vp_in (nI k) 128 := vp_in_nI (by omega) (by omega)
    refine br_f (nI_nlt (by omega) (by omega)) ⟨hi, pu_br' (cx_ra (by omega) (hp k hk)) (fun hb => nm_r (nI_1 k) ?_) (fun hb => cy_proper c k rfl rfl hc (by omega) ?_)⟩
    · rw [pu_y_f (pu_w_1 hb)] at h
      exact ih h
    · refine pu_br (fun hq => nm_r (nI_1 k) ?_) (fun hq => cy_proper k d rfl rfl (by omega) hd ?_)
      · rw [pu_y_f (pu_w_2 hq)] at h
        exact ih h
      · refine pu_br (fun hr => nm_r (nI_1 k) ?_) (fun hr => ?_)
        · rw [pu_y_f (pu_w_3 hr)] at h
          exact ih h
        · rw [pu_y_t (pu_w_4 hb hq hr)] at h
          exact h)
  exact ⟨f, hf h⟩
theorem cy_over {post : Int32 → Prop} {K : Nat → Bool} {x : Int32} (h2 : 1 ≤ e) (he : e ≤ 128) (hp : ∀ j, j < e → cl j = pu_b (K j)) (c : Nat) (hx : x = nI c) (hc : c < 2 ^ 31) (h : post (nI (pu_o K e c))) : wpY_over post (nI n, nI m, nI (e - 1), rw', cl, ps, cs, ch) x := by
  subst hx
  unfold wpY_over
  dsimp only
  refine cx_lp (fun f k => wY_over_4 post (nI c) (nI n) (nI m) (nI (e - 1)) rw' cl ps cs ch f (nI (pu_n (pu_v K e c) k)) (nI k)) e 0 (Nat.zero_le _) (fun f => ?_) (fun f k _ hk ih => ?_)
  · exact br_t (nI_lt (by omega) (by omega)) h
  · try dsimp only at ih
    have hi : vp_in (nI k) 128 := vp_in_nI (by omega) (by omega)
    refine br_f (nI_nlt (by omega) (by omega)) ⟨hi, pu_br' (cx_ra (by omega) (hp k hk)) (fun hb => nm_r (nI_1 k) ?_) (fun hb => cy_proper c k rfl rfl hc (by omega) ?_)⟩
    · rw [pu_n_f (pu_v_1 hb)] at ih
      exact ih
    · refine pu_br (fun hq => nm_r (nI_1 k) ?_) (fun hq => cy_between h2 he hp c k hc (by omega) ?_)
      · rw [pu_n_f (pu_v_2 hq)] at ih
        exact ih
      · refine pu_br (fun hy => nm_r (nI_1 _) (nm_r (nI_1 k) ?_)) (fun hy => nm_r (nI_1 k) ?_)
        · rw [pu_n_t (pu_v_4 hb hq hy)] at ih
          exact ih
        · rw [pu_n_f (pu_v_3 hy)] at ih
          exact ih
theorem cy_links8 {post : Int32 → SY → Prop} {K : Nat → Bool} (h2 : 1 ≤ e) (he : e ≤ 128) (hp : ∀ j, j < e → cl j = pu_b (K j)) (h : post (nI (pu_l K (pu_o K e) e)) (nI n, nI m, nI (e - 1), rw', cl, ps, cs, ch)) : ∃ f, wY_links_8 post (nI n) (nI m) (nI (e - 1)) rw' cl ps cs ch f 0 0 := by
  refine cx_lp (fun f k => wY_links_8 post (nI n) (nI m) (nI (e - 1)) rw' cl ps cs ch f (nI (pu_l K (pu_o K e) k)) (nI k)) e 0 (Nat.zero_le _) (fun f => ?_) (fun f k _ hk ih => ?_)
  · exact br_t (nI_lt (by omega) (by omega)) h
  · try dsimp only at ih
    have hi : vp_in (nI k) 128 := vp_in_nI (by omega) (by omega)
    refine br_f (nI_nlt (by omega) (by omega)) ⟨hi, pu_br' (cx_ra (by omega) (hp k hk)) (fun hb => nm_r (nI_1 k) ?_) (fun hb => cy_over h2 he hp k rfl (by omega) (nm_r (nI_add _ _) (nm_r (nI_1 k) ?_)))⟩
    · rw [pu_l_f hb] at ih
      exact ih
    · rw [pu_l_t hb] at ih
      exact ih
end
end
section
/-! the reference: height, sizes, dispensable -/
theorem pu_r_0f {K : Nat → Bool} {d : Nat} (h : K d = false) : (0 : Int32) = nI (pu_r K d 0) := by
  rw [pu_r_f h]
  rfl
theorem pu_r_0t {K : Nat → Bool} {d : Nat} (h : K d = true) : (1 : Int32) = nI (pu_r K d 0) := by
  rw [pu_r_t h]
  rfl
theorem cy_up3 {ch : Nat → Int32} {T : Nat → Nat} {d a : Nat} {v : Int32} (hd : d < 2 ^ 31) (hv : v = nI a) (hp : ∀ j, j < d → ch j = nI (T j)) : (∀ j, j < d → upd ch (nI d).toNatClampNeg v j = nI (T j)) ∧ upd ch (nI d).toNatClampNeg v d = nI a := by
  rw [nI_clamp hd]
  constructor
  · intro j hj
    rw [pk_un (by omega), hp j hj]
  · rw [pk_us, hv]
section
variable {n m e : Nat} {R : Nat → Nat} {rw' cl ps cs ch : Nat → Int32}
theorem cy_height45 {post : Int32 → SY → Prop} {J : Int32 → Int32 → (Nat → Int32) → (Nat → Int32) → (Nat → Int32) → (Nat → Int32) → (Nat → Int32) → Prop} {K : Nat → Bool} (he : e ≤ 128) (hp : ∀ j, j < e → cl j = pu_b (K j)) (d : Nat) (hd : d < e) (hJ : ∀ ch' : Nat → Int32, (∀ j, j < d + 1 → ch' j = nI (pu_h K (d + 1) j)) → J (nI (pu_g K (d + 1))) (nI (d + 1)) rw' cl ps cs ch') (hc : ∀ j, j < d → ch j = nI (pu_h K d j)) (hcd : ch d = nI (pu_r K d 0)) : ∃ f, wY_height_45 post J (nI (pu_g K d)) (nI d) (nI n) (nI m) (nI (e - 1)) f 0 rw' cl ps cs ch := by
  have hid : vp_in (nI d) 128 := vp_in_nI (by omega) (by omega)
  have hg := pu_g_le K d
  obtain ⟨f, hf⟩ := cx_lp (fun f k => ∀ ch : Nat → Int32, (∀ j, j < d → ch j = nI (pu_h K d j)) → ch d = nI (pu_r K d k) → wY_height_45 post J (nI (pu_g K d)) (nI d) (nI n) (nI m) (nI (e - 1)) f (nI k) rw' cl ps cs ch) d 0 (Nat.zero_le _) (fun f ch hc hcd => by
    have hb1 := pu_h_le K (d + 1) d
    rw [pu_r_e] at hcd
    have hr : ch (nI d).toNatClampNeg = nI (pu_h K (d + 1) d) := cx_ra (by omega) hcd
    have hJ2 := hJ ch (fun j hj => by
      by_cases hjd : j = d
      · subst hjd
        exact hcd
      · rw [pu_h_n K hjd]
        exact hc j (by omega))
    refine br_t (nI_le (Nat.le_refl _) (by omega)) ⟨hid, pk_le (pu_h K (d + 1) d) (pu_g K d) (fun hl => nm_r (nI_1 d) ?_) (fun hl => ⟨hid, nm_r (e' := nI (pu_g K (d + 1))) ?_ (nm_r (nI_1 d) hJ2)⟩) hr rfl (by omega) (by omega)⟩
    · rw [pu_g_f hl] at hJ2
      exact hJ2
    · rw [hr, pu_g_t hl]) (fun f k _ hk ih ch hc hcd => by
    have hi : vp_in (nI k) 128 := vp_in_nI (by omega) (by omega)
    have hb1 := pu_h_le K d k
    have hb2 := pu_r_le K d k
    have hrk : ch (nI k).toNatClampNeg + 1 = nI (pu_h K d k + 1) := by
      rw [cx_ra (by omega) (hc k hk)]
      exact nI_1 _
    have hrd : ch (nI d).toNatClampNeg = nI (pu_r K d k) := cx_ra (by omega) hcd
    refine br_f (nI_ge hk (by omega)) ⟨hid, pu_br' (cx_ra (by omega) (hp d hd)) (fun hb => nm_r (nI_1 k) (ih ch hc ?_)) (fun hb => ⟨hi, pu_br' (cx_ra (by omega) (hp k (by omega))) (fun hk0 => nm_r (nI_1 k) (ih ch hc ?_)) (fun hk0 => cy_proper k d rfl rfl (by omega) (by omega) ?_)⟩)⟩
    · rw [hcd, pu_r_f hb, pu_r_f hb]
    · rw [hcd, pu_r_t hb, pu_r_t hb, pu_m_l]
      rw [pu_h_0 K hk0]
      exact Nat.zero_le _
    · rw [pu_q_of hk]
      refine pu_br (fun hq => nm_r (nI_1 k) (ih ch hc ?_)) (fun hq => ⟨hi, hid, pk_le (pu_h K d k + 1) (pu_r K d k) (fun hl => nm_r (nI_1 k) (ih ch hc ?_)) (fun hl => ⟨hi, hid, ?_⟩) hrk hrd (by omega) (by omega)⟩)
      · rw [hcd, pu_r_t hb, pu_r_t hb, pu_m_f hq]
      · rw [pu_r_t hb] at hl
        rw [hcd, pu_r_t hb, pu_r_t hb, pu_m_l (by omega)]
      · have hu := cy_up3 (T := pu_h K d) (d := d) (a := pu_h K d k + 1) (by omega) hrk hc
        refine nm_e (nm_r (nI_1 k) (ih _ hu.1 ?_))
        rw [pu_r_t hb] at hl
        rw [hu.2, pu_r_t hb, pu_m_t hq (by omega)])
  exact ⟨f, hf ch hc hcd⟩
theorem cy_height8 {post : Int32 → SY → Prop} {K : Nat → Bool} (h2 : 1 ≤ e) (he : e ≤ 128) (hp : ∀ j, j < e → cl j = pu_b (K j)) (h : ∀ ch' : Nat → Int32, post (nI (pu_g K e)) (nI n, nI m, nI (e - 1), rw', cl, ps, cs, ch')) : ∃ f, wY_height_8 post (nI n) (nI m) (nI (e - 1)) f 0 0 rw' cl ps cs ch := by
  obtain ⟨f, hf⟩ := cx_lp (fun f k => ∀ ch : Nat → Int32, (∀ j, j < k → ch j = nI (pu_h K k j)) → wY_height_8 post (nI n) (nI m) (nI (e - 1)) f (nI (pu_g K k)) (nI k) rw' cl ps cs ch) e 0 (Nat.zero_le _) (fun f ch hc => br_t (nI_lt (by omega) (by omega)) (h ch)) (fun f k _ hk ih ch hc => by
    have hi : vp_in (nI k) 128 := vp_in_nI (by omega) (by omega)
    refine br_f (nI_nlt (by omega) (by omega)) (br_f (nI_ge (b := 128) (by omega) (by decide)) ⟨hi, pu_br' (cx_ra (by omega) (hp k hk)) (fun hb => ⟨hi, nm_e ?_⟩) (fun hb => ⟨hi, nm_e ?_⟩)⟩)
    · have hu := cy_up3 (T := pu_h K k) (d := k) (by omega) (pu_r_0f hb) hc
      exact cy_height45 he hp k hk ih hu.1 hu.2
    · have hu := cy_up3 (T := pu_h K k) (d := k) (by omega) (pu_r_0t hb) hc
      exact cy_height45 he hp k hk ih hu.1 hu.2)
  exact ⟨f, hf ch (fun j hj => absurd hj (by omega))⟩
theorem cy_size {post : Int32 → Prop} {u : SY} (s : Nat) (hs : s < 2 ^ 31) (h : post (nI (pu_z7 s))) : wpY_size post u (nI s) := by
  obtain ⟨u1, u2, u3, u4, u5, u6, u7, u8⟩ := u
  unfold wpY_size
  dsimp only
  refine cx_lp (fun f k => wY_size_4 post (nI s) u1 u2 u3 u4 u5 u6 u7 u8 f (nI (pu_z s k)) (nI k)) 7 0 (Nat.zero_le _) (fun f => ?_) (fun f k _ hk ih => ?_)
  · exact br_t (show (7 : Int32) ≤ nI 7 by decide) h
  · refine br_f (nI_ge (b := 7) hk (by decide)) (nm_r (e' := nI (pu_z s (k + 1))) ?_ (nm_r (nI_1 k) ih))
    rw [pu_bitv hs (by omega), nI_add, pu_z_s]
theorem cy_gen19 {post : Int32 → SY → Prop} (H : cx_ok n e R) (hp : ∀ j, j < e → cs j = nI (pu_c R n (e - 1) j)) (s : Nat) (hs : s < e) (h : post (nI (pu_i (pu_te R n (e - 1) (pu_c R n (e - 1) s)) pu_z7 7 e)) (nI n, nI m, nI (e - 1), rw', cl, ps, cs, ch)) : ∃ f, wY_generatorSize_19 post (nI s) (nI n) (nI m) (nI (e - 1)) rw' cl ps cs ch f 7 0 := by
  obtain ⟨h1, h2, h3, h4⟩ := id H
  refine cx_lp (fun f k => wY_generatorSize_19 post (nI s) (nI n) (nI m) (nI (e - 1)) rw' cl ps cs ch f (nI (pu_i (pu_te R n (e - 1) (pu_c R n (e - 1) s)) pu_z7 7 k)) (nI k)) e 0 (Nat.zero_le _) (fun f => ?_) (fun f k _ hk ih => ?_)
  · exact br_t (nI_lt (by omega) (by omega)) h
  · try dsimp only at ih
    have hi : vp_in (nI k) 128 := vp_in_nI (by omega) (by omega)
    have his : vp_in (nI s) 128 := vp_in_nI (by omega) (by omega)
    have hz := pu_z7_le k
    have hb := pu_i_le (pu_te R n (e - 1) (pu_c R n (e - 1) s)) pu_z7 7 k
    refine br_f (nI_nlt (by omega) (by omega)) ⟨hi, his, pk_eq (pu_c R n (e - 1) k) (pu_c R n (e - 1) s) (fun hq => cy_size k (by omega) ?_) (fun hq => nm_r (nI_1 k) ?_) (cx_ra (by omega) (hp k hk)) (cx_ra (by omega) (hp s hs)) (cx_k_lt H k) (cx_k_lt H s)⟩
    · refine pk_le (pu_i (pu_te R n (e - 1) (pu_c R n (e - 1) s)) pu_z7 7 k) (pu_z7 k) (fun hl => nm_r (nI_1 k) ?_) (fun hl => cy_size k (by omega) (nm_r (nI_1 k) ?_)) rfl rfl (by omega) (by omega)
      · rw [pu_i_l hl] at ih
        exact ih
      · rw [pu_i_t hl (pu_tet hq)] at ih
        exact ih
    · rw [pu_i_f (pu_tef hq)] at ih
      exact ih
theorem pu_dy_1 {K : Nat → Bool} {a s : Nat} (h : K s = false) : pu_dy K a s = false := by
  unfold pu_dy
  rw [h]
  rfl
theorem pu_dy_2 {K : Nat → Bool} {a s : Nat} (h : K (s ^^^ 2 ^ a) = false) : pu_dy K a s = false := by
  unfold pu_dy
  rw [h]
  cases K s <;> rfl
theorem pu_dy_3 {K : Nat → Bool} {a s : Nat} (h1 : K s = true) (h2 : K (s ^^^ 2 ^ a) = true) : pu_dy K a s = true := by
  unfold pu_dy
  rw [h1, h2]
  rfl
theorem cy_disp16 {post : Int32 → SY → Prop} {K : Nat → Bool} (hm : m ≤ 7) (hp : ∀ j, j < 2 ^ m → cl j = pu_b (K j)) (a : Nat) (ha : a < m) (h : post (pu_b (!pu_y (pu_dy K a) (2 ^ m) 0)) (nI n, nI m, nI (2 ^ m - 1), rw', cl, ps, cs, ch)) : ∃ f, wY_dispensable_16 post (nI a) (nI n) (nI m) (nI (2 ^ m - 1)) rw' cl ps cs ch f 0 := by
  have he : 2 ^ m ≤ 128 := pu_ple (k := 7) hm
  have h2 : 1 ≤ 2 ^ m := Nat.one_le_two_pow
  have hpa : 2 ^ a < 2 ^ m := pu_pw ha
  obtain ⟨f, hf⟩ := cx_lp (fun f k => post (pu_b (!pu_y (pu_dy K a) (2 ^ m - k) k)) (nI n, nI m, nI (2 ^ m - 1), rw', cl, ps, cs, ch) → wY_dispensable_16 post (nI a) (nI n) (nI m) (nI (2 ^ m - 1)) rw' cl ps cs ch f (nI k)) (2 ^ m) 0 (Nat.zero_le _) (fun f h => by
    rw [Nat.sub_self] at h
    exact br_t (nI_lt (by omega) (by omega)) h) (fun f k _ hk ih h => by
    try dsimp only at ih
    rw [show 2 ^ m - k = (2 ^ m - (k + 1)) + 1 from by omega] at h
    have hi : vp_in (nI k) 128 := vp_in_nI (by omega) (by omega)
    have hx : k ^^^ 2 ^ a < 2 ^ m := Nat.xor_lt_two_pow hk hpa
    have hxe : nI k ^^^ ((1 : Int32) <<< (nI a &&& 31)) = nI (k ^^^ 2 ^ a) := by rw [pu_1sh (by omega), nx_xor]
    have hr : cl (nI k ^^^ ((1 : Int32) <<< (nI a &&& 31))).toNatClampNeg = pu_b (K (k ^^^ 2 ^ a)) := by
      rw [hxe]
      exact cx_ra (by omega) (hp _ hx)
    refine br_f (nI_nlt (by omega) (by omega)) ⟨hi, pu_br' (cx_ra (by omega) (hp k hk)) (fun hb => nm_r (nI_1 k) ?_) (fun hb => ⟨pk_in (k ^^^ 2 ^ a) 128 (by omega) hxe (by omega), pu_br' hr (fun hc => nm_r (nI_1 k) ?_) (fun hc => ?_)⟩)⟩
    · rw [pu_y_f (pu_dy_1 hb)] at h
      exact ih h
    · rw [pu_y_f (pu_dy_2 hc)] at h
      exact ih h
    · rw [pu_y_t (pu_dy_3 hb hc)] at h
      exact h)
  exact ⟨f, hf h⟩
end
end
section
/-! the tests of the arguments, both sides; cross -/
def cx_bad (N : Nat) (x : Int32) : Prop := x < 0 ∨ ∃ j, N ≤ j ∧ j < 2 ^ 31 ∧ x = nI j
theorem cx_ix (x : Int32) (N : Nat) : cx_bad N x ∨ ∃ j, j < N ∧ j < 2 ^ 31 ∧ x = nI j := by
  by_cases h : x < 0
  · exact Or.inl (Or.inl h)
  · obtain ⟨j, hj, rfl⟩ := nI_of h
    by_cases h2 : j < N
    · exact Or.inr ⟨j, h2, hj, rfl⟩
    · exact Or.inl (Or.inr ⟨j, by omega, hj, rfl⟩)
theorem cx_b0 {N : Nat} {x : Int32} {P Q : Prop} (h : cx_bad N x) (p : P) : ((x < 0 → P) ∧ (¬ x < 0 → ((nI N ≤ x → P) ∧ (¬ nI N ≤ x → Q)))) := by
  rcases h with h | ⟨j, h1, h2, rfl⟩
  · exact br_t h p
  · exact br_f (nI_pos h2) (br_t (nI_le h1 h2) p)
theorem cx_g0 {N j : Nat} {P Q : Prop} (hj : j < N) (hN : N < 2 ^ 31) (q : Q) : ((nI j < 0 → P) ∧ (¬ nI j < 0 → ((nI N ≤ nI j → P) ∧ (¬ nI N ≤ nI j → Q)))) := br_f (nI_pos (by omega)) (br_f (nI_ge hj hN) q)
theorem cx_b1 {N : Nat} {x : Int32} {P Q : Prop} (hN : N < 2 ^ 31) (h : cx_bad N x) (p : P) : ((x < 0 → P) ∧ (¬ x < 0 → ((x < nI N → Q) ∧ (¬ x < nI N → P)))) := by
  rcases h with h | ⟨j, h1, h2, rfl⟩
  · exact br_t h p
  · exact br_f (nI_pos h2) (br_f (nI_nlt h1 h2) p)
theorem cx_g1 {N j : Nat} {P Q : Prop} (hj : j < N) (hN : N < 2 ^ 31) (q : Q) : ((nI j < 0 → P) ∧ (¬ nI j < 0 → ((nI j < nI N → Q) ∧ (¬ nI j < nI N → P)))) := br_f (nI_pos (by omega)) (br_t (nI_lt hj hN) q)
theorem cx_b2 {N : Nat} {x : Int32} {P Q : Prop} (h0 : 1 ≤ N) (h : cx_bad N x) (p : P) : ((x < 0 → P) ∧ (¬ x < 0 → ((x ≤ nI (N - 1) → Q) ∧ (¬ x ≤ nI (N - 1) → P)))) := by
  rcases h with h | ⟨j, h1, h2, rfl⟩
  · exact br_t h p
  · exact br_f (nI_pos h2) (br_f (nI_ge (by omega) h2) p)
theorem cx_g2 {N j : Nat} {P Q : Prop} (hj : j < N) (hN : N < 2 ^ 31) (q : Q) : ((nI j < 0 → P) ∧ (¬ nI j < 0 → ((nI j ≤ nI (N - 1) → Q) ∧ (¬ nI j ≤ nI (N - 1) → P)))) := br_f (nI_pos (by omega)) (br_t (nI_le (by omega) (by omega)) q)
theorem cx_tb {b : Bool} (P : Int32 → Prop) (h : P (pu_b b)) : (pu_b b = 0 → P 0) ∧ (¬ pu_b b = 0 → P 1) := by
  cases b
  · exact pu_br (fun _ => h) (fun z => absurd z (by decide))
  · exact pu_br (fun z => absurd z (by decide)) (fun _ => h)
theorem cx_10 : ¬ (1 : Int32) = 0 := by decide
section
variable {n m e : Nat} {a1 a2 a3 a4 a5 : Nat → Int32}
theorem cx_oF {post : Int32 → Prop} {x : Int32} (h : cx_bad n x) (p : post 0) : wpX_isGoodObject post (nI n, nI m, nI e, a1, a2, a3) x := cx_b0 h p
theorem cx_oT {post : Int32 → Prop} {j : Nat} (h : j < n) (hn : n < 2 ^ 31) (p : post 1) : wpX_isGoodObject post (nI n, nI m, nI e, a1, a2, a3) (nI j) := cx_g0 h hn p
theorem cx_aF {post : Int32 → Prop} {x : Int32} (h : cx_bad m x) (p : post 0) : wpX_isGoodAttribute post (nI n, nI m, nI e, a1, a2, a3) x := cx_b0 h p
theorem cx_aT {post : Int32 → Prop} {j : Nat} (h : j < m) (hn : m < 2 ^ 31) (p : post 1) : wpX_isGoodAttribute post (nI n, nI m, nI e, a1, a2, a3) (nI j) := cx_g0 h hn p
theorem cx_sF {post : Int32 → Prop} {x : Int32} (h : cx_bad e x) (p : post 0) : wpX_isGoodSet post (nI n, nI m, nI e, a1, a2, a3) x := cx_b0 h p
theorem cx_sT {post : Int32 → Prop} {j : Nat} (h : j < e) (hn : e < 2 ^ 31) (p : post 1) : wpX_isGoodSet post (nI n, nI m, nI e, a1, a2, a3) (nI j) := cx_g0 h hn p
theorem cy_oF {post : Int32 → Prop} {x : Int32} {z : Int32} (h : cx_bad n x) (p : post 1) : wpY_badObject post (nI n, nI m, z, a1, a2, a3, a4, a5) x := cx_b0 h p
theorem cy_oT {post : Int32 → Prop} {j : Nat} {z : Int32} (h : j < n) (hn : n ≤ 8) (p : post 0) : wpY_badObject post (nI n, nI m, z, a1, a2, a3, a4, a5) (nI j) := cx_g0 h (by omega) (br_t (nI_le (b := 7) (by omega) (by decide)) p)
theorem cy_aF {post : Int32 → Prop} {x : Int32} {z : Int32} (hm : m < 2 ^ 31) (h : cx_bad m x) (p : post 1) : wpY_badAttribute post (nI n, nI m, z, a1, a2, a3, a4, a5) x := cx_b1 hm h p
theorem cy_aT {post : Int32 → Prop} {j : Nat} {z : Int32} (h : j < m) (hm : m < 2 ^ 31) (p : post 0) : wpY_badAttribute post (nI n, nI m, z, a1, a2, a3, a4, a5) (nI j) := cx_g1 h hm p
theorem cy_sF {post : Int32 → Prop} {x : Int32} (h0 : 1 ≤ e) (h : cx_bad e x) (p : post 1) : wpY_badSet post (nI n, nI m, nI (e - 1), a1, a2, a3, a4, a5) x := cx_b2 h0 h p
theorem cy_sT {post : Int32 → Prop} {j : Nat} (h : j < e) (hn : e < 2 ^ 31) (p : post 0) : wpY_badSet post (nI n, nI m, nI (e - 1), a1, a2, a3, a4, a5) (nI j) := cx_g2 h hn p
end
theorem cx_set {R : Nat → Nat} {j v : Nat} {x : Int32} (hj : j < 2 ^ 31) (hx : x = nI v) : upd (cx_r R) (nI j).toNatClampNeg x = cx_r (fun i => if i = j then v else R i) := by
  funext i
  rw [nI_clamp hj, hx]
  unfold upd cx_r
  dsimp only
  by_cases h : i = j
  · rw [if_pos h, if_pos h]
  · rw [if_neg h, if_neg h]
theorem cx_setb {R : Nat → Nat} {j v e : Nat} (hv : v < e) (hR : ∀ i, R i < e) : ∀ i, (fun i => if i = j then v else R i) i < e := by
  intro i
  dsimp only
  by_cases h : i = j
  · rw [if_pos h]
    exact hv
  · rw [if_neg h]
    exact hR i
theorem cx_bv {r a : Nat} : nI (r / 2 ^ a % 2) = pu_b (r.testBit a) := by
  cases h : r.testBit a
  · have h2 : ¬ r / 2 ^ a % 2 = 1 := fun z => by
      rw [pu_bit1, h] at z
      exact absurd z (by decide)
    have h3 : r / 2 ^ a % 2 < 2 := Nat.mod_lt _ (by decide)
    rw [show r / 2 ^ a % 2 = 0 by omega]
    rfl
  · rw [pu_bit1.mpr h]
    rfl
/-- the row of object j after cross(j, a, flag) -/
def pu_cr (r a w : Nat) (x : Int32) : Nat := if x = 0 then r &&& w else r ||| 2 ^ a
theorem pu_cr_lt {r a w m : Nat} {x : Int32} (hr : r < 2 ^ m) (ha : a < m) : pu_cr r a w x < 2 ^ m := by
  unfold pu_cr
  by_cases h : x = 0
  · rw [if_pos h]
    exact Nat.lt_of_le_of_lt Nat.and_le_left hr
  · rw [if_neg h]
    exact Nat.or_lt_two_pow hr (pu_pw ha)
section
variable {n m e : Nat} {R : Nat → Nat} {ps lo cl cs ch : Nat → Int32}
theorem cx_cross43 {post : Int32 → SX → Prop} {z x : Int32} (j a w : Nat) (hj : j < 8) (hw : nI (2 ^ a) ^^^ (-1) = nI w) (h : post z (nI n, nI m, nI e, cx_r (fun i => if i = j then pu_cr (R j) a w x else R i), ps, lo)) : wX_cross_43 post (nI j) x (nI (2 ^ a)) z (nI n) (nI m) (nI e) (cx_r R) ps lo := by
  unfold wX_cross_43
  have hi : vp_in (nI j) 8 := vp_in_nI hj (by omega)
  refine br_c (fun hx => ⟨hi, hi, nm_r (cx_set (v := pu_cr (R j) a w x) (by omega) ?_) h⟩) (fun hx => ⟨hi, hi, nm_r (cx_set (v := pu_cr (R j) a w x) (by omega) ?_) h⟩)
  · rw [cx_at (by omega), hw, nx_and]
    unfold pu_cr
    rw [if_pos hx]
  · rw [cx_at (by omega), pu_nor]
    unfold pu_cr
    rw [if_neg hx]
theorem cx_cross {post : Int32 → SX → Prop} {x : Int32} (hn : n ≤ 8) (hm : m ≤ 7) (hR : ∀ i, R i < 2 ^ 31) (j a w : Nat) (hj : j < n) (ha : a < m) (hw : nI (2 ^ a) ^^^ (-1) = nI w) (h : post (pu_b ((R j).testBit a)) (nI n, nI m, nI e, cx_r (fun i => if i = j then pu_cr (R j) a w x else R i), ps, lo)) : wpX_cross post (nI n, nI m, nI e, cx_r R, ps, lo) (nI j) (nI a) x := by
  unfold wpX_cross
  dsimp only
  have hi : vp_in (nI j) 8 := vp_in_nI (by omega) (by omega)
  have hx : cx_r R (nI j).toNatClampNeg &&& nI (2 ^ a) = nI (R j &&& 2 ^ a) := by rw [cx_at (by omega), nx_and]
  refine cx_oT hj (by omega) (br_f cx_10 (cx_aT ha (by omega) (br_f cx_10 (nm_r (pu_1sh (by omega)) ⟨hi, pk_eq (R j &&& 2 ^ a) 0 (fun hb => ?_) (fun hb => ?_) hx rfl (Nat.lt_of_le_of_lt Nat.and_le_left (hR j)) (by omega)⟩))))
  · rw [pu_and2.mp hb] at h
    exact cx_cross43 j a w (by omega) hw h
  · have hb2 : (R j).testBit a = true := by
      cases hc : (R j).testBit a
      · exact absurd (pu_and2.mpr hc) hb
      · rfl
    rw [hb2] at h
    exact cx_cross43 j a w (by omega) hw h
theorem cy_cross {post : Int32 → SY → Prop} {x z : Int32} (hn : n ≤ 8) (hm : m ≤ 7) (hR : ∀ i, R i < 2 ^ 31) (j a w : Nat) (hj : j < n) (ha : a < m) (hw : nI (2 ^ a) ^^^ (-1) = nI w) (h : post (pu_b ((R j).testBit a)) (nI n, nI m, z, cx_r (fun i => if i = j then pu_cr (R j) a w x else R i), cl, ps, cs, ch)) : wpY_cross post (nI n, nI m, z, cx_r R, cl, ps, cs, ch) (nI j) (nI a) x := by
  unfold wpY_cross
  dsimp only
  have hi : vp_in (nI j) 8 := vp_in_nI (by omega) (by omega)
  have hv : (cx_r R (nI j).toNatClampNeg >>> (nI a &&& 31)) &&& 1 = pu_b ((R j).testBit a) := by rw [cx_at (by omega), pu_bitv (hR j) (by omega), cx_bv]
  refine cy_oT hj hn (br_t rfl (cy_aT ha (by omega) (br_t rfl ⟨hi, nm_r hv (br_c (fun hx => ⟨hi, hi, nm_r (cx_set (v := pu_cr (R j) a w x) (by omega) ?_) h⟩) (fun hx => ⟨hi, hi, nm_r (cx_set (v := pu_cr (R j) a w x) (by omega) ?_) h⟩))⟩)))
  · rw [cx_at (by omega), pu_1sh (by omega), hw, nx_and]
    unfold pu_cr
    rw [if_pos hx]
  · rw [cx_at (by omega), pu_1sh (by omega), pu_nor]
    unfold pu_cr
    rw [if_neg hx]
theorem cx_follows (H : cx_ok n e R) {post : Int32 → Prop} (p q : Nat) (hp : p < e) (hq : q < e) (h : post (pu_b (pu_p q (pu_c R n (e - 1) p)))) : wpX_follows post (nI n, nI m, nI e, cx_r R, ps, lo) (nI p) (nI q) := by
  obtain ⟨h1, h2, h3, h4⟩ := id H
  unfold wpX_follows
  dsimp only
  exact cx_sT hp (by omega) (br_f cx_10 (cx_sT hq (by omega) (br_f cx_10 (cx_closureOf H p rfl (by omega) (cx_isPart q (pu_c R n (e - 1) p) rfl rfl (by omega) (cx_tb post h))))))
end
theorem cx_clamp (x : Int32) (a b : Nat) (hab : a ≤ b) (hb : b < 2 ^ 31) : ∃ j, a ≤ j ∧ j ≤ b ∧ ∀ P : Int32 → Prop, P (nI j) → ((nI a ≤ x → ((x ≤ nI b → P x) ∧ (¬ x ≤ nI b → P (nI b)))) ∧ (¬ nI a ≤ x → P (nI a))) := by
  by_cases h1 : nI a ≤ x
  · obtain ⟨j, hj, rfl⟩ := nI_of (x := x) (Int32.not_lt.mpr (Int32.le_trans (nI_pos' (by omega)) h1))
    have h3 := (nI_leI (by omega) hj).mp h1
    by_cases h2 : nI j ≤ nI b
    · exact ⟨j, h3, (nI_leI hj hb).mp h2, fun P p => br_t h1 (br_t h2 p)⟩
    · exact ⟨b, hab, Nat.le_refl _, fun P p => br_t h1 (br_f h2 p)⟩
  · exact ⟨a, Nat.le_refl _, hab, fun P p => br_f h1 p⟩
theorem cx_init (k0 k1 : Int32) : ∃ n m, 1 ≤ n ∧ n ≤ 8 ∧ 2 ≤ m ∧ m ≤ 7 ∧ (∀ post : SX → Prop, post (nI n, nI m, nI (2 ^ m), cx_r (fun _ => 0), (fun _ => 0), (fun _ => 0)) → wpX_init post k0 k1) ∧ (∀ post : SY → Prop, post (nI n, nI m, nI (2 ^ m - 1), cx_r (fun _ => 0), (fun _ => 0), (fun _ => 0), (fun _ => 0), (fun _ => 0)) → wpY_init post k0 k1) := by
  obtain ⟨n, h1, h2, hn⟩ := cx_clamp k0 1 8 (by omega) (by omega)
  obtain ⟨m, h3, h4, hm⟩ := cx_clamp k1 2 7 (by omega) (by omega)
  refine ⟨n, m, h1, h2, h3, h4, fun post h => ?_, fun post h => ?_⟩
  · exact hn (fun r => wpX_clamp (fun r2 => ∀ f : Int32, f = (1 : Int32) <<< (r2 &&& 31) → post (r, r2, f, (fun _ => 0), (fun _ => 0), (fun _ => 0))) k1 2 7) (hm (fun r2 => ∀ f : Int32, f = (1 : Int32) <<< (r2 &&& 31) → post (nI n, r2, f, (fun _ => 0), (fun _ => 0), (fun _ => 0))) (nm_r (pu_1sh (by omega)) h))
  · refine hn (fun r => wY_init_70 post k1 r 0 0 0 (fun _ => 0) (fun _ => 0) (fun _ => 0) (fun _ => 0) (fun _ => 0)) (hm (fun r2 => wY_init_95 post r2 (nI n) 0 0 (fun _ => 0) (fun _ => 0) (fun _ => 0) (fun _ => 0) (fun _ => 0)) (nm_r (e' := nI (2 ^ m - 1)) ?_ h))
    rw [pu_1sh (by omega)]
    exact pk_sub (b := 1) Nat.one_le_two_pow
end
section
/-! what is owed -/
def i_Rel (k : Nat) (u : SX) (v : SY) : Prop := ∃ (n m : Nat) (R : Nat → Nat) (ps lo cl qs cs ch : Nat → Int32), 1 ≤ n ∧ n ≤ 8 ∧ 2 ≤ m ∧ m ≤ 7 ∧ (∀ j, R j < 2 ^ m) ∧ u = (nI n, nI m, nI (2 ^ m), cx_r R, ps, lo) ∧ v = (nI n, nI m, nI (2 ^ m - 1), cx_r R, cl, qs, cs, ch)
theorem cx_rel {k n m : Nat} {R : Nat → Nat} {ps lo cl qs cs ch : Nat → Int32} (h1 : 1 ≤ n) (h2 : n ≤ 8) (h3 : 2 ≤ m) (h4 : m ≤ 7) (hR : ∀ j, R j < 2 ^ m) : i_Rel k (nI n, nI m, nI (2 ^ m), cx_r R, ps, lo) (nI n, nI m, nI (2 ^ m - 1), cx_r R, cl, qs, cs, ch) := ⟨n, m, R, ps, lo, cl, qs, cs, ch, h1, h2, h3, h4, hR, rfl, rfl⟩
theorem cx_ok2 {n m : Nat} {R : Nat → Nat} (h2 : n ≤ 8) (h4 : m ≤ 7) (hR : ∀ j, R j < 2 ^ m) : cx_ok n (2 ^ m) R := ⟨h2, Nat.one_le_two_pow, pu_ple (k := 7) h4, hR⟩
theorem i_up {k : Nat} {u : SX} {v : SY} (h : i_Rel k u v) : i_Rel (k + 4) u v := h
theorem i_vc0 (k0 : Int32) (k1 : Int32) : wpX_init (fun u => wpY_init (fun v => i_Rel 2 u v) k0 k1) k0 k1 := by
  obtain ⟨n, m, h1, h2, h3, h4, hx, hy⟩ := cx_init k0 k1
  exact hx _ (hy _ (cx_rel h1 h2 h3 h4 (fun _ => Nat.two_pow_pos m)))
theorem i_vc_objects {k : Nat} {u : SX} {v : SY} (I : i_Rel k u v) (hk : k + 4 ≤ 2050) : wpX_objects (fun r => wpY_objects (fun r' => r' = r ∧ i_Rel (k + 4) u v) v) u := by
  obtain ⟨n, m, R, ps, lo, cl, qs, cs, ch, h1, h2, h3, h4, hR, rfl, rfl⟩ := I
  have H := cx_ok2 h2 h4 hR
  have h5 : 2 ^ m ≤ 128 := H.2.2.1
  have h6 : 1 ≤ 2 ^ m := H.2.1
  unfold wpX_objects wpY_objects
  dsimp only
  exact ⟨rfl, cx_rel h1 h2 h3 h4 hR⟩
theorem i_vc_attributes {k : Nat} {u : SX} {v : SY} (I : i_Rel k u v) (hk : k + 4 ≤ 2050) : wpX_attributes (fun r => wpY_attributes (fun r' => r' = r ∧ i_Rel (k + 4) u v) v) u := by
  obtain ⟨n, m, R, ps, lo, cl, qs, cs, ch, h1, h2, h3, h4, hR, rfl, rfl⟩ := I
  have H := cx_ok2 h2 h4 hR
  have h5 : 2 ^ m ≤ 128 := H.2.2.1
  have h6 : 1 ≤ 2 ^ m := H.2.1
  unfold wpX_attributes wpY_attributes
  dsimp only
  exact ⟨rfl, cx_rel h1 h2 h3 h4 hR⟩
theorem i_vc_cross {k : Nat} {u : SX} {v : SY} (I : i_Rel k u v) (hk : k + 4 ≤ 2050) (v1 : Int32) (v2 : Int32) (v3 : Int32) : wpX_cross (fun r u' => wpY_cross (fun r' v' => r' = r ∧ i_Rel (k + 4) u' v') v v1 v2 v3) u v1 v2 v3 := by
  obtain ⟨n, m, R, ps, lo, cl, qs, cs, ch, h1, h2, h3, h4, hR, rfl, rfl⟩ := I
  have H := cx_ok2 h2 h4 hR
  have h5 : 2 ^ m ≤ 128 := H.2.2.1
  have h6 : 1 ≤ 2 ^ m := H.2.1
  have hb := cx_Rb H
  rcases cx_ix v1 n with ho | ⟨j, hj, hj2, rfl⟩
  · unfold wpX_cross
    dsimp only
    refine cx_oF ho (br_t rfl ?_)
    unfold wpY_cross
    dsimp only
    exact cy_oF ho (br_f cx_10 ⟨rfl, cx_rel h1 h2 h3 h4 hR⟩)
  · rcases cx_ix v2 m with ha | ⟨a, ha, ha2, rfl⟩
    · unfold wpX_cross
      dsimp only
      refine cx_oT hj (by omega) (br_f cx_10 (cx_aF ha (br_t rfl ?_)))
      unfold wpY_cross
      dsimp only
      exact cy_oT hj h2 (br_t rfl (cy_aF (by omega) ha (br_f cx_10 ⟨rfl, cx_rel h1 h2 h3 h4 hR⟩)))
    · obtain ⟨w, _, hw⟩ := wb_of32 (nI (2 ^ a) ^^^ (-1))
      refine cx_cross h2 h4 hb j a w hj ha hw (cy_cross h2 h4 hb j a w hj ha hw ⟨rfl, ?_⟩)
      exact cx_rel h1 h2 h3 h4 (cx_setb (pu_cr_lt (hR j) ha) hR)
theorem i_vc_row {k : Nat} {u : SX} {v : SY} (I : i_Rel k u v) (hk : k + 4 ≤ 2050) (v1 : Int32) (v2 : Int32) : wpX_row (fun r u' => wpY_row (fun r' v' => r' = r ∧ i_Rel (k + 4) u' v') v v1 v2) u v1 v2 := by
  obtain ⟨n, m, R, ps, lo, cl, qs, cs, ch, h1, h2, h3, h4, hR, rfl, rfl⟩ := I
  have H := cx_ok2 h2 h4 hR
  have h5 : 2 ^ m ≤ 128 := H.2.2.1
  have h6 : 1 ≤ 2 ^ m := H.2.1
  rcases cx_ix v1 n with ho | ⟨j, hj, hj2, rfl⟩
  · unfold wpX_row
    dsimp only
    refine cx_oF ho (br_t rfl ?_)
    unfold wpY_row
    dsimp only
    exact cy_oF ho (br_f cx_10 ⟨rfl, cx_rel h1 h2 h3 h4 hR⟩)
  · have hi : vp_in (nI j) 8 := vp_in_nI (by omega) (by omega)
    rcases cx_ix v2 (2 ^ m) with ha | ⟨s, hs, hs2, rfl⟩
    · unfold wpX_row
      dsimp only
      refine cx_oT hj (by omega) (br_f cx_10 (cx_sF ha (br_t rfl ?_)))
      unfold wpY_row
      dsimp only
      exact cy_oT hj h2 (br_t rfl (cy_sF h6 ha (br_f cx_10 ⟨rfl, cx_rel h1 h2 h3 h4 hR⟩)))
    · unfold wpX_row
      dsimp only
      refine cx_oT hj (by omega) (br_f cx_10 (cx_sT hs (by omega) (br_f cx_10 ⟨hi, nm_e ⟨hi, nm_r (cx_set (v := s) (by omega) rfl) ?_⟩⟩)))
      unfold wpY_row
      dsimp only
      exact cy_oT hj h2 (br_t rfl (cy_sT hs (by omega) (br_t rfl ⟨hi, nm_e ⟨hi, nm_r (cx_set (v := s) (by omega) rfl) ⟨rfl, cx_rel h1 h2 h3 h4 (cx_setb hs hR)⟩⟩⟩)))
theorem i_vc_rowOf {k : Nat} {u : SX} {v : SY} (I : i_Rel k u v) (hk : k + 4 ≤ 2050) (v1 : Int32) : wpX_rowOf (fun r => wpY_rowOf (fun r' => r' = r ∧ i_Rel (k + 4) u v) v v1) u v1 := by
  obtain ⟨n, m, R, ps, lo, cl, qs, cs, ch, h1, h2, h3, h4, hR, rfl, rfl⟩ := I
  have H := cx_ok2 h2 h4 hR
  have h5 : 2 ^ m ≤ 128 := H.2.2.1
  have h6 : 1 ≤ 2 ^ m := H.2.1
  rcases cx_ix v1 n with ho | ⟨j, hj, hj2, rfl⟩
  · unfold wpX_rowOf
    dsimp only
    refine cx_oF ho (br_t rfl ?_)
    unfold wpY_rowOf
    dsimp only
    exact cy_oF ho (br_f cx_10 ⟨rfl, cx_rel h1 h2 h3 h4 hR⟩)
  · have hi : vp_in (nI j) 8 := vp_in_nI (by omega) (by omega)
    unfold wpX_rowOf
    dsimp only
    refine cx_oT hj (by omega) (br_f cx_10 ⟨hi, ?_⟩)
    unfold wpY_rowOf
    dsimp only
    exact cy_oT hj h2 (br_t rfl ⟨hi, rfl, cx_rel h1 h2 h3 h4 hR⟩)
theorem i_vc_extent {k : Nat} {u : SX} {v : SY} (I : i_Rel k u v) (hk : k + 4 ≤ 2050) (v1 : Int32) : wpX_extent (fun r => wpY_extent (fun r' => r' = r ∧ i_Rel (k + 4) u v) v v1) u v1 := by
  obtain ⟨n, m, R, ps, lo, cl, qs, cs, ch, h1, h2, h3, h4, hR, rfl, rfl⟩ := I
  have H := cx_ok2 h2 h4 hR
  have h5 : 2 ^ m ≤ 128 := H.2.2.1
  have h6 : 1 ≤ 2 ^ m := H.2.1
  rcases cx_ix v1 (2 ^ m) with ho | ⟨s, hs, hs2, rfl⟩
  · unfold wpX_extent
    dsimp only
    refine cx_sF ho (br_t rfl ?_)
    unfold wpY_extent
    dsimp only
    exact cy_sF h6 ho (br_f cx_10 ⟨rfl, cx_rel h1 h2 h3 h4 hR⟩)
  · unfold wpX_extent
    dsimp only
    refine cx_sT hs (by omega) (br_f cx_10 (cx_extent H s hs2 ?_))
    unfold wpY_extent
    dsimp only
    refine cy_sT hs (by omega) (br_t rfl ?_)
    exact cy_havers H s rfl hs2 ⟨rfl, cx_rel h1 h2 h3 h4 hR⟩
theorem i_vc_intent {k : Nat} {u : SX} {v : SY} (I : i_Rel k u v) (hk : k + 4 ≤ 2050) (v1 : Int32) : wpX_intent (fun r => wpY_intent (fun r' => r' = r ∧ i_Rel (k + 4) u v) v v1) u v1 := by
  obtain ⟨n, m, R, ps, lo, cl, qs, cs, ch, h1, h2, h3, h4, hR, rfl, rfl⟩ := I
  have H := cx_ok2 h2 h4 hR
  have h5 : 2 ^ m ≤ 128 := H.2.2.1
  have h6 : 1 ≤ 2 ^ m := H.2.1
  have hn : 2 ^ n < 2 ^ 31 := pu_pw (by omega)
  rcases cx_ix v1 (2 ^ n) with ho | ⟨s, hs, hs2, rfl⟩
  · unfold wpX_intent
    dsimp only
    rw [pu_1sh (by omega)]
    refine cx_b1 hn ho ?_
    unfold wpY_intent
    dsimp only
    rw [pu_1sh (by omega)]
    exact cx_b1 hn ho ⟨rfl, cx_rel h1 h2 h3 h4 hR⟩
  · unfold wpX_intent
    dsimp only
    rw [pu_1sh (by omega)]
    refine cx_g1 hs hn (nm_r (pk_sub (b := 1) h6) (cx_intent H s hs2 ?_))
    unfold wpY_intent
    dsimp only
    rw [pu_1sh (by omega)]
    exact cx_g1 hs hn (cy_shared H s rfl hs2 ⟨rfl, cx_rel h1 h2 h3 h4 hR⟩)
theorem i_vc_closure {k : Nat} {u : SX} {v : SY} (I : i_Rel k u v) (hk : k + 4 ≤ 2050) (v1 : Int32) : wpX_closure (fun r => wpY_closure (fun r' => r' = r ∧ i_Rel (k + 4) u v) v v1) u v1 := by
  obtain ⟨n, m, R, ps, lo, cl, qs, cs, ch, h1, h2, h3, h4, hR, rfl, rfl⟩ := I
  have H := cx_ok2 h2 h4 hR
  have h5 : 2 ^ m ≤ 128 := H.2.2.1
  have h6 : 1 ≤ 2 ^ m := H.2.1
  rcases cx_ix v1 (2 ^ m) with ho | ⟨s, hs, hs2, rfl⟩
  · unfold wpX_closure
    dsimp only
    refine cx_sF ho (br_t rfl ?_)
    unfold wpY_closure
    dsimp only
    exact cy_sF h6 ho (br_f cx_10 ⟨rfl, cx_rel h1 h2 h3 h4 hR⟩)
  · unfold wpX_closure
    dsimp only
    refine cx_sT hs (by omega) (br_f cx_10 (cx_closureOf H s rfl hs2 ?_))
    unfold wpY_closure
    dsimp only
    refine cy_sT hs (by omega) (br_t rfl ?_)
    exact cy_closureOf H s rfl hs2 ⟨rfl, cx_rel h1 h2 h3 h4 hR⟩
theorem i_vc_closedSets {k : Nat} {u : SX} {v : SY} (I : i_Rel k u v) (hk : k + 4 ≤ 2050) : wpX_closedSets (fun r => wpY_closedSets (fun r' v' => r' = r ∧ i_Rel (k + 4) u v') v) u := by
  obtain ⟨n, m, R, ps, lo, cl, qs, cs, ch, h1, h2, h3, h4, hR, rfl, rfl⟩ := I
  have H := cx_ok2 h2 h4 hR
  have h5 : 2 ^ m ≤ 128 := H.2.2.1
  have h6 : 1 ≤ 2 ^ m := H.2.1
  refine cx_closedSets H ?_
  unfold wpY_closedSets
  dsimp only
  refine cy_tab H (fun cl' ps' cs' a b c => ?_)
  dsimp only
  exact cy_closedSets8 h6 h5 a ⟨rfl, cx_rel h1 h2 h3 h4 hR⟩
theorem i_vc_closedSet {k : Nat} {u : SX} {v : SY} (I : i_Rel k u v) (hk : k + 4 ≤ 2050) (v1 : Int32) : wpX_closedSet (fun r => wpY_closedSet (fun r' v' => r' = r ∧ i_Rel (k + 4) u v') v v1) u v1 := by
  obtain ⟨n, m, R, ps, lo, cl, qs, cs, ch, h1, h2, h3, h4, hR, rfl, rfl⟩ := I
  have H := cx_ok2 h2 h4 hR
  have h5 : 2 ^ m ≤ 128 := H.2.2.1
  have h6 : 1 ≤ 2 ^ m := H.2.1
  refine cx_closedSet H v1 ?_
  unfold wpY_closedSet
  dsimp only
  refine cy_tab H (fun cl' ps' cs' a b c => ?_)
  dsimp only
  exact cy_closedSet8 h6 h5 a v1 ⟨rfl, cx_rel h1 h2 h3 h4 hR⟩
theorem i_vc_nextClosed {k : Nat} {u : SX} {v : SY} (I : i_Rel k u v) (hk : k + 4 ≤ 2050) (v1 : Int32) : wpX_nextClosed (fun r => wpY_nextClosed (fun r' v' => r' = r ∧ i_Rel (k + 4) u v') v v1) u v1 := by
  obtain ⟨n, m, R, ps, lo, cl, qs, cs, ch, h1, h2, h3, h4, hR, rfl, rfl⟩ := I
  have H := cx_ok2 h2 h4 hR
  have h5 : 2 ^ m ≤ 128 := H.2.2.1
  have h6 : 1 ≤ 2 ^ m := H.2.1
  refine cx_nextClosed H v1 ?_
  unfold wpY_nextClosed
  dsimp only
  refine cy_tab H (fun cl' ps' cs' a b c => ?_)
  dsimp only
  exact cy_next6 h6 h5 a v1 ⟨rfl, cx_rel h1 h2 h3 h4 hR⟩
theorem i_vc_follows {k : Nat} {u : SX} {v : SY} (I : i_Rel k u v) (hk : k + 4 ≤ 2050) (v1 : Int32) (v2 : Int32) : wpX_follows (fun r => wpY_follows (fun r' => r' = r ∧ i_Rel (k + 4) u v) v v1 v2) u v1 v2 := by
  obtain ⟨n, m, R, ps, lo, cl, qs, cs, ch, h1, h2, h3, h4, hR, rfl, rfl⟩ := I
  have H := cx_ok2 h2 h4 hR
  have h5 : 2 ^ m ≤ 128 := H.2.2.1
  have h6 : 1 ≤ 2 ^ m := H.2.1
  rcases cx_ix v1 (2 ^ m) with ho | ⟨p, hp, hp2, rfl⟩
  · unfold wpX_follows
    dsimp only
    refine cx_sF ho (br_t rfl ?_)
    unfold wpY_follows
    dsimp only
    exact cy_sF h6 ho (br_f cx_10 ⟨rfl, cx_rel h1 h2 h3 h4 hR⟩)
  · rcases cx_ix v2 (2 ^ m) with ho | ⟨q, hq, hq2, rfl⟩
    · unfold wpX_follows
      dsimp only
      refine cx_sT hp (by omega) (br_f cx_10 (cx_sF ho (br_t rfl ?_)))
      unfold wpY_follows
      dsimp only
      exact cy_sT hp (by omega) (br_t rfl (cy_sF h6 ho (br_f cx_10 ⟨rfl, cx_rel h1 h2 h3 h4 hR⟩)))
    · refine cx_follows H p q hp hq ?_
      unfold wpY_follows
      dsimp only
      refine cy_sT hp (by omega) (br_t rfl (cy_sT hq (by omega) (br_t rfl (cy_follows20 h2 p q hp2 hq2 ⟨?_, cx_rel h1 h2 h3 h4 hR⟩))))
      rw [pu_f_eq hq]
theorem i_vc_rules {k : Nat} {u : SX} {v : SY} (I : i_Rel k u v) (hk : k + 4 ≤ 2050) : wpX_rules (fun r u' => wpY_rules (fun r' v' => r' = r ∧ i_Rel (k + 4) u' v') v) u := by
  obtain ⟨n, m, R, ps, lo, cl, qs, cs, ch, h1, h2, h3, h4, hR, rfl, rfl⟩ := I
  have H := cx_ok2 h2 h4 hR
  have h5 : 2 ^ m ≤ 128 := H.2.2.1
  have h6 : 1 ≤ 2 ^ m := H.2.1
  unfold wpX_rules
  dsimp only
  refine cx_mark H (fun ps1 hp => ?_)
  dsimp only
  refine cx_rules8 h5 hp _ ?_
  unfold wpY_rules
  dsimp only
  refine cy_tab H (fun cl' ps' cs' a b c => ?_)
  dsimp only
  exact cy_rules8 h6 h5 b ⟨rfl, cx_rel h1 h2 h3 h4 hR⟩
theorem i_vc_rule {k : Nat} {u : SX} {v : SY} (I : i_Rel k u v) (hk : k + 4 ≤ 2050) (v1 : Int32) : wpX_rule (fun r u' => wpY_rule (fun r' v' => r' = r ∧ i_Rel (k + 4) u' v') v v1) u v1 := by
  obtain ⟨n, m, R, ps, lo, cl, qs, cs, ch, h1, h2, h3, h4, hR, rfl, rfl⟩ := I
  have H := cx_ok2 h2 h4 hR
  have h5 : 2 ^ m ≤ 128 := H.2.2.1
  have h6 : 1 ≤ 2 ^ m := H.2.1
  unfold wpX_rule
  dsimp only
  refine cx_mark H (fun ps1 hp => ?_)
  dsimp only
  refine cx_rule8 h5 hp _ v1 ?_
  unfold wpY_rule
  dsimp only
  refine cy_tab H (fun cl' ps' cs' a b c => ?_)
  dsimp only
  exact cy_rule8 h6 h5 b v1 ⟨rfl, cx_rel h1 h2 h3 h4 hR⟩
theorem i_vc_covers {k : Nat} {u : SX} {v : SY} (I : i_Rel k u v) (hk : k + 4 ≤ 2050) (v1 : Int32) : wpX_covers (fun r => wpY_covers (fun r' v' => r' = r ∧ i_Rel (k + 4) u v') v v1) u v1 := by
  obtain ⟨n, m, R, ps, lo, cl, qs, cs, ch, h1, h2, h3, h4, hR, rfl, rfl⟩ := I
  have H := cx_ok2 h2 h4 hR
  have h5 : 2 ^ m ≤ 128 := H.2.2.1
  have h6 : 1 ≤ 2 ^ m := H.2.1
  rcases cx_ix v1 (2 ^ m) with ho | ⟨s, hs, hs2, rfl⟩
  · unfold wpX_covers
    dsimp only
    refine cx_sF ho (br_t rfl ?_)
    unfold wpY_covers
    dsimp only
    exact cy_sF h6 ho (br_f cx_10 ⟨rfl, cx_rel h1 h2 h3 h4 hR⟩)
  · unfold wpX_covers
    dsimp only
    refine cx_sT hs (by omega) (br_f cx_10 (cx_closureOf H s rfl hs2 (cx_countCovers H (pu_c R n (2 ^ m - 1) s) (cx_c_lt H s) ?_)))
    unfold wpY_covers
    dsimp only
    refine cy_sT hs (by omega) (br_t rfl ?_)
    refine cy_tab H (fun cl' ps' cs' a b c => ?_)
    dsimp only
    exact ⟨vp_in_nI (by omega) (by omega), cy_over h6 h5 a (pu_c R n (2 ^ m - 1) s) (cx_ra hs2 (c s hs)) (cx_k_lt H s) ⟨rfl, cx_rel h1 h2 h3 h4 hR⟩⟩
theorem i_vc_links {k : Nat} {u : SX} {v : SY} (I : i_Rel k u v) (hk : k + 4 ≤ 2050) : wpX_links (fun r => wpY_links (fun r' v' => r' = r ∧ i_Rel (k + 4) u v') v) u := by
  obtain ⟨n, m, R, ps, lo, cl, qs, cs, ch, h1, h2, h3, h4, hR, rfl, rfl⟩ := I
  have H := cx_ok2 h2 h4 hR
  have h5 : 2 ^ m ≤ 128 := H.2.2.1
  have h6 : 1 ≤ 2 ^ m := H.2.1
  refine cx_links H ?_
  unfold wpY_links
  dsimp only
  refine cy_tab H (fun cl' ps' cs' a b c => ?_)
  dsimp only
  exact cy_links8 h6 h5 a ⟨rfl, cx_rel h1 h2 h3 h4 hR⟩
theorem i_vc_height {k : Nat} {u : SX} {v : SY} (I : i_Rel k u v) (hk : k + 4 ≤ 2050) : wpX_height (fun r u' => wpY_height (fun r' v' => r' = r ∧ i_Rel (k + 4) u' v') v) u := by
  obtain ⟨n, m, R, ps, lo, cl, qs, cs, ch, h1, h2, h3, h4, hR, rfl, rfl⟩ := I
  have H := cx_ok2 h2 h4 hR
  have h5 : 2 ^ m ≤ 128 := H.2.2.1
  have h6 : 1 ≤ 2 ^ m := H.2.1
  refine cx_height H (fun lo1 => ?_)
  unfold wpY_height
  dsimp only
  refine cy_tab H (fun cl' ps' cs' a b c => ?_)
  dsimp only
  exact cy_height8 h6 h5 a (fun ch1 => ⟨rfl, cx_rel h1 h2 h3 h4 hR⟩)
theorem i_vc_generatorSize {k : Nat} {u : SX} {v : SY} (I : i_Rel k u v) (hk : k + 4 ≤ 2050) (v1 : Int32) : wpX_generatorSize (fun r => wpY_generatorSize (fun r' v' => r' = r ∧ i_Rel (k + 4) u v') v v1) u v1 := by
  obtain ⟨n, m, R, ps, lo, cl, qs, cs, ch, h1, h2, h3, h4, hR, rfl, rfl⟩ := I
  have H := cx_ok2 h2 h4 hR
  have h5 : 2 ^ m ≤ 128 := H.2.2.1
  have h6 : 1 ≤ 2 ^ m := H.2.1
  rcases cx_ix v1 (2 ^ m) with ho | ⟨s, hs, hs2, rfl⟩
  · unfold wpX_generatorSize
    dsimp only
    refine cx_sF ho (br_t rfl ?_)
    unfold wpY_generatorSize
    dsimp only
    exact cy_sF h6 ho (br_f cx_10 ⟨rfl, cx_rel h1 h2 h3 h4 hR⟩)
  · unfold wpX_generatorSize
    dsimp only
    refine cx_sT hs (by omega) (br_f cx_10 (cx_closureOf H s rfl hs2 (cx_gen H (pu_c R n (2 ^ m - 1) s) m (cx_k_lt H s) h4 ?_)))
    unfold wpY_generatorSize
    dsimp only
    refine cy_sT hs (by omega) (br_t rfl ?_)
    refine cy_tab H (fun cl' ps' cs' a b c => ?_)
    dsimp only
    refine cy_gen19 H c s hs ⟨?_, cx_rel h1 h2 h3 h4 hR⟩
    rw [pu_i_eq (b := 7) (b' := m) hs (pu_tet rfl) (pu_z7_le s) (pu_z_m m (by omega) s hs)]
theorem i_vc_dispensable {k : Nat} {u : SX} {v : SY} (I : i_Rel k u v) (hk : k + 4 ≤ 2050) (v1 : Int32) : wpX_dispensable (fun r => wpY_dispensable (fun r' v' => r' = r ∧ i_Rel (k + 4) u v') v v1) u v1 := by
  obtain ⟨n, m, R, ps, lo, cl, qs, cs, ch, h1, h2, h3, h4, hR, rfl, rfl⟩ := I
  have H := cx_ok2 h2 h4 hR
  have h5 : 2 ^ m ≤ 128 := H.2.2.1
  have h6 : 1 ≤ 2 ^ m := H.2.1
  rcases cx_ix v1 m with ho | ⟨a, ha, ha2, rfl⟩
  · unfold wpX_dispensable
    dsimp only
    refine cx_aF ho (br_t rfl ?_)
    unfold wpY_dispensable
    dsimp only
    exact cy_aF (by omega) ho (br_f cx_10 ⟨rfl, cx_rel h1 h2 h3 h4 hR⟩)
  · unfold wpX_dispensable
    dsimp only
    refine cx_aT ha (by omega) (br_f cx_10 (nm_r (pu_1sh (by omega)) (cx_disp H a (by omega) ?_)))
    unfold wpY_dispensable
    dsimp only
    refine cy_aT ha (by omega) (br_t rfl (cy_tab H (fun cl1 ps1 cs1 b1 b2 b3 => ?_)))
    dsimp only
    refine cy_disp16 h4 b1 a ha ⟨?_, cx_rel h1 h2 h3 h4 hR⟩
    rw [pu_d_eq ha h4]
end
