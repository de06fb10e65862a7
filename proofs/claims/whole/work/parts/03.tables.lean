/-! the marks: pseudo-closed sets, in rising order -/
def pu_u (T : Nat → Bool) (C : Nat → Nat) (s q : Nat) : Bool := T q && (pu_p q s && !pu_p (C q) s)
theorem pu_u_1 {T : Nat → Bool} {C : Nat → Nat} {s q : Nat} (h : T q = false) : pu_u T C s q = false := by
  unfold pu_u
  rw [h]
  rfl
theorem pu_u_2 {T : Nat → Bool} {C : Nat → Nat} {s q : Nat} (h : pu_p q s = false) : pu_u T C s q = false := by
  unfold pu_u
  rw [h]
  cases T q <;> rfl
theorem pu_u_3 {T : Nat → Bool} {C : Nat → Nat} {s q : Nat} (h : pu_p (C q) s = true) : pu_u T C s q = false := by
  unfold pu_u
  rw [h]
  cases T q <;> cases pu_p q s <;> rfl
theorem pu_u_4 {T : Nat → Bool} {C : Nat → Nat} {s q : Nat} (h1 : T q = true) (h2 : pu_p q s = true) (h3 : pu_p (C q) s = false) : pu_u T C s q = true := by
  unfold pu_u
  rw [h1, h2, h3]
  rfl
def pu_t (K : Nat → Bool) (C : Nat → Nat) : Nat → Nat → Bool
  | 0 => fun _ => false
  | i + 1 => fun j => if j = i then (!K i && !pu_y (pu_u (pu_t K C i) C i) i 0) else pu_t K C i j
theorem pu_t_s (K : Nat → Bool) (C : Nat → Nat) (i : Nat) : pu_t K C (i + 1) i = (!K i && !pu_y (pu_u (pu_t K C i) C i) i 0) := if_pos rfl
theorem pu_t_n (K : Nat → Bool) (C : Nat → Nat) {i j : Nat} (h : j < i) : pu_t K C (i + 1) j = pu_t K C i j := if_neg (by omega)
theorem pu_y_ext {p q : Nat → Bool} : ∀ r k, (∀ j, k ≤ j → j < k + r → p j = q j) → pu_y p r k = pu_y q r k := by
  intro r k h
  apply pu_y_congr
  constructor
  · rintro ⟨j, h1, h2, h3⟩
    exact ⟨j, h1, h2, (h j h1 h2) ▸ h3⟩
  · rintro ⟨j, h1, h2, h3⟩
    exact ⟨j, h1, h2, (h j h1 h2).symm ▸ h3⟩
/-! the longest chains -/
def pu_m (T : Nat → Nat) (s : Nat) : Nat → Nat
  | 0 => 0
  | k + 1 => if pu_p k s = true ∧ pu_m T s k < T k then T k else pu_m T s k
theorem pu_m_t {T : Nat → Nat} {s k : Nat} (h : pu_p k s = true) (h2 : pu_m T s k < T k) : pu_m T s (k + 1) = T k := if_pos ⟨h, h2⟩
theorem pu_m_f {T : Nat → Nat} {s k : Nat} (h : pu_p k s = false) : pu_m T s (k + 1) = pu_m T s k := if_neg (fun z => by rw [h] at z; exact absurd z.1 (by decide))
theorem pu_m_l {T : Nat → Nat} {s k : Nat} (h : T k ≤ pu_m T s k) : pu_m T s (k + 1) = pu_m T s k := if_neg (fun z => by have := z.2; omega)
theorem pu_m_le {T : Nat → Nat} {s b : Nat} (h : ∀ j, T j ≤ b) : ∀ k, pu_m T s k ≤ b := by
  intro k
  induction k with
  | zero => exact Nat.zero_le b
  | succ k ih =>
    by_cases h2 : pu_p k s = true ∧ pu_m T s k < T k
    · rw [pu_m_t h2.1 h2.2]
      exact h k
    · have e : pu_m T s (k + 1) = pu_m T s k := if_neg h2
      rw [e]
      exact ih
def pu_h (K : Nat → Bool) : Nat → Nat → Nat
  | 0 => fun _ => 0
  | i + 1 => fun j => if j = i then (if K i = true then pu_m (pu_h K i) i i + 1 else 0) else pu_h K i j
theorem pu_h_t {K : Nat → Bool} {i : Nat} (h : K i = true) : pu_h K (i + 1) i = pu_m (pu_h K i) i i + 1 := (if_pos rfl).trans (if_pos h)
theorem pu_h_f {K : Nat → Bool} {i : Nat} (h : K i = false) : pu_h K (i + 1) i = 0 := (if_pos rfl).trans (if_neg (by rw [h]; decide))
theorem pu_h_n (K : Nat → Bool) {i j : Nat} (h : j ≠ i) : pu_h K (i + 1) j = pu_h K i j := if_neg h
theorem pu_h_le (K : Nat → Bool) : ∀ i j, pu_h K i j ≤ i := by
  intro i
  induction i with
  | zero => intro j; exact Nat.le_refl 0
  | succ i ih =>
    intro j
    by_cases hj : j = i
    · subst hj
      cases h : K j
      · rw [pu_h_f h]
        omega
      · rw [pu_h_t h]
        have := pu_m_le (s := j) ih j
        omega
    · rw [pu_h_n K hj]
      have := ih j
      omega
theorem pu_h_0 (K : Nat → Bool) {j : Nat} (h : K j = false) : ∀ i, pu_h K i j = 0 := by
  intro i
  induction i with
  | zero => rfl
  | succ i ih =>
    by_cases hj : j = i
    · subst hj
      exact pu_h_f h
    · rw [pu_h_n K hj]
      exact ih
def pu_g (K : Nat → Bool) : Nat → Nat
  | 0 => 0
  | i + 1 => if pu_g K i < pu_h K (i + 1) i then pu_h K (i + 1) i else pu_g K i
theorem pu_g_t {K : Nat → Bool} {i : Nat} (h : pu_g K i < pu_h K (i + 1) i) : pu_g K (i + 1) = pu_h K (i + 1) i := if_pos h
theorem pu_g_f {K : Nat → Bool} {i : Nat} (h : pu_h K (i + 1) i ≤ pu_g K i) : pu_g K (i + 1) = pu_g K i := if_neg (by omega)
theorem pu_g_le (K : Nat → Bool) : ∀ i, pu_g K i ≤ i := by
  intro i
  induction i with
  | zero => exact Nat.le_refl 0
  | succ i ih =>
    have h2 := pu_h_le K (i + 1) i
    by_cases h : pu_g K i < pu_h K (i + 1) i
    · rw [pu_g_t h]
      exact h2
    · rw [pu_g_f (by omega)]
      omega
/-- the reference's chain of d after k of its turns -/
def pu_r (K : Nat → Bool) (d k : Nat) : Nat := if K d = true then pu_m (pu_h K d) d k + 1 else 0
theorem pu_r_t {K : Nat → Bool} {d : Nat} (h : K d = true) (k : Nat) : pu_r K d k = pu_m (pu_h K d) d k + 1 := if_pos h
theorem pu_r_f {K : Nat → Bool} {d : Nat} (h : K d = false) (k : Nat) : pu_r K d k = 0 := if_neg (by rw [h]; decide)
theorem pu_r_e (K : Nat → Bool) (d : Nat) : pu_r K d d = pu_h K (d + 1) d := by
  cases h : K d
  · rw [pu_r_f h, pu_h_f h]
  · rw [pu_r_t h, pu_h_t h]
theorem pu_r_le (K : Nat → Bool) (d k : Nat) : pu_r K d k ≤ d + 1 := by
  cases h : K d
  · rw [pu_r_f h]
    omega
  · rw [pu_r_t h]
    have := pu_m_le (s := d) (pu_h_le K d) k
    omega
/-! sums -/
def pu_l (K : Nat → Bool) (f : Nat → Nat) : Nat → Nat
  | 0 => 0
  | i + 1 => if K i = true then pu_l K f i + f i else pu_l K f i
theorem pu_l_t {K : Nat → Bool} {f : Nat → Nat} {i : Nat} (h : K i = true) : pu_l K f (i + 1) = pu_l K f i + f i := if_pos h
theorem pu_l_f {K : Nat → Bool} {f : Nat → Nat} {i : Nat} (h : K i = false) : pu_l K f (i + 1) = pu_l K f i := if_neg (by rw [h]; decide)
/-! covers -/
def pu_w (K : Nat → Bool) (c d z : Nat) : Bool := K z && (pu_q c z && pu_q z d)
def pu_v (K : Nat → Bool) (e c d : Nat) : Bool := K d && (pu_q c d && !pu_y (pu_w K c d) e 0)
def pu_o (K : Nat → Bool) (e c : Nat) : Nat := pu_n (pu_v K e c) e
theorem pu_w_b {K : Nat → Bool} {c d z : Nat} (h : pu_w K c d z = true) : c < z ∧ z < d := by
  unfold pu_w at h
  rw [Bool.and_eq_true, Bool.and_eq_true] at h
  exact ⟨pu_q_lt h.2.1, pu_q_lt h.2.2⟩
theorem pu_w_y {K : Nat → Bool} {e c d : Nat} (hd : d ≤ e) (hc : c < d) : pu_y (pu_w K c d) (d - (c + 1)) (c + 1) = pu_y (pu_w K c d) e 0 := by
  apply pu_y_congr
  constructor
  · rintro ⟨j, h1, h2, h3⟩
    have := pu_w_b h3
    exact ⟨j, by omega, by omega, h3⟩
  · rintro ⟨j, h1, h2, h3⟩
    have := pu_w_b h3
    exact ⟨j, by omega, by omega, h3⟩
theorem pu_v_0 {K : Nat → Bool} {e c d : Nat} (h : d ≤ c) : pu_v K e c d = false := by
  unfold pu_v
  rw [pu_q_ge h]
  cases K d <;> rfl
theorem pu_v_n {K : Nat → Bool} {e c : Nat} : pu_n (pu_v K e c) (c + 1) = 0 := pu_n_0 _ (fun j hj => pu_v_0 (by omega))
theorem pu_o_le (K : Nat → Bool) (e c : Nat) : pu_o K e c ≤ e := pu_n_le _ _
theorem pu_l_le {K : Nat → Bool} {f : Nat → Nat} {b : Nat} (h : ∀ i, f i ≤ b) : ∀ i, pu_l K f i ≤ b * i := by
  intro i
  induction i with
  | zero => exact Nat.le_refl 0
  | succ i ih =>
    have h2 := h i
    have h3 : b * (i + 1) = b * i + b := Nat.mul_succ b i
    cases hk : K i
    · rw [pu_l_f hk]
      omega
    · rw [pu_l_t hk]
      omega
/-! sizes -/
def pu_z (s : Nat) : Nat → Nat
  | 0 => 0
  | i + 1 => pu_z s i + s / 2 ^ i % 2
theorem pu_z_s (s i : Nat) : pu_z s (i + 1) = pu_z s i + s / 2 ^ i % 2 := rfl
theorem pu_z_le (s : Nat) : ∀ i, pu_z s i ≤ i := by
  intro i
  induction i with
  | zero => exact Nat.le_refl 0
  | succ i ih =>
    rw [pu_z_s]
    have := Nat.mod_lt (s / 2 ^ i) (show 0 < 2 by decide)
    omega
theorem pu_z_m : ∀ m, m < 8 → ∀ s, s < 2 ^ m → pu_z s 7 ≤ m := by decide +kernel
/-! the least size -/
def pu_i (t : Nat → Bool) (z : Nat → Nat) (b : Nat) : Nat → Nat
  | 0 => b
  | i + 1 => if z i < pu_i t z b i ∧ t i = true then z i else pu_i t z b i
theorem pu_i_t {t : Nat → Bool} {z : Nat → Nat} {b i : Nat} (h : z i < pu_i t z b i) (h2 : t i = true) : pu_i t z b (i + 1) = z i := if_pos ⟨h, h2⟩
theorem pu_i_l {t : Nat → Bool} {z : Nat → Nat} {b i : Nat} (h : pu_i t z b i ≤ z i) : pu_i t z b (i + 1) = pu_i t z b i := if_neg (fun h2 => by have := h2.1; omega)
theorem pu_i_f {t : Nat → Bool} {z : Nat → Nat} {b i : Nat} (h : t i = false) : pu_i t z b (i + 1) = pu_i t z b i := if_neg (fun h2 => by rw [h] at h2; exact absurd h2.2 (by decide))
theorem pu_i_c (t : Nat → Bool) (z : Nat → Nat) (b : Nat) : ∀ i, pu_i t z b i ≤ b ∧ (∀ j, j < i → t j = true → pu_i t z b i ≤ z j) ∧ (pu_i t z b i = b ∨ ∃ j, j < i ∧ t j = true ∧ z j = pu_i t z b i) := by
  intro i
  induction i with
  | zero => exact ⟨Nat.le_refl b, fun j hj => absurd hj (by omega), Or.inl rfl⟩
  | succ i ih =>
    obtain ⟨h1, h2, h3⟩ := ih
    by_cases h : z i < pu_i t z b i ∧ t i = true
    · rw [pu_i_t h.1 h.2]
      refine ⟨by omega, fun j hj ht => ?_, Or.inr ⟨i, by omega, h.2, rfl⟩⟩
      by_cases hji : j = i
      · subst hji
        exact Nat.le_refl _
      · have := h2 j (by omega) ht
        omega
    · have e : pu_i t z b (i + 1) = pu_i t z b i := if_neg h
      rw [e]
      refine ⟨h1, fun j hj ht => ?_, ?_⟩
      · by_cases hji : j = i
        · subst hji
          by_cases hz : z j < pu_i t z b j
          · exact absurd ⟨hz, ht⟩ h
          · omega
        · exact h2 j (by omega) ht
      · rcases h3 with h3 | ⟨j, hj, hj2, hj3⟩
        · exact Or.inl h3
        · exact Or.inr ⟨j, by omega, hj2, hj3⟩
theorem pu_i_eq {t : Nat → Bool} {z : Nat → Nat} {b b' e j : Nat} (hj : j < e) (ht : t j = true) (h1 : z j ≤ b) (h2 : z j ≤ b') : pu_i t z b e = pu_i t z b' e := by
  obtain ⟨a1, a2, a3⟩ := pu_i_c t z b e
  obtain ⟨c1, c2, c3⟩ := pu_i_c t z b' e
  have a4 := a2 j hj ht
  have c4 := c2 j hj ht
  apply Nat.le_antisymm
  · rcases c3 with c3 | ⟨i, hi, hi2, hi3⟩
    · omega
    · have := a2 i hi hi2
      omega
  · rcases a3 with a3 | ⟨i, hi, hi2, hi3⟩
    · omega
    · have := c2 i hi hi2
      omega
theorem pu_i_le (t : Nat → Bool) (z : Nat → Nat) (b i : Nat) : pu_i t z b i ≤ b := (pu_i_c t z b i).1
/-! two closed sets that differ in one attribute -/
theorem pu_d_tab : ∀ a, a < 7 → ∀ s, s < 128 → (s &&& 2 ^ a = 0 ∧ s ||| 2 ^ a = s ^^^ 2 ^ a) ∨ ((s ^^^ 2 ^ a) &&& 2 ^ a = 0 ∧ (s ^^^ 2 ^ a) ||| 2 ^ a = s) := by decide +kernel
theorem pu_d_o : ∀ a, a < 7 → ∀ s, s < 128 → s &&& 2 ^ a = 0 → s ||| 2 ^ a = s ^^^ 2 ^ a := by decide +kernel
def pu_dx (K : Nat → Bool) (a s : Nat) : Bool := decide (s &&& 2 ^ a = 0) && (K s && K (s ||| 2 ^ a))
def pu_dy (K : Nat → Bool) (a s : Nat) : Bool := K s && K (s ^^^ 2 ^ a)
theorem pu_d_eq {K : Nat → Bool} {a m : Nat} (ha : a < m) (hm : m ≤ 7) : pu_y (pu_dx K a) (2 ^ m) 0 = pu_y (pu_dy K a) (2 ^ m) 0 := by
  have hp : 2 ^ m ≤ 128 := pu_ple (k := 7) hm
  apply pu_y_congr
  constructor
  · rintro ⟨s, h1, h2, h3⟩
    unfold pu_dx at h3
    rw [Bool.and_eq_true, Bool.and_eq_true, decide_eq_true_iff] at h3
    refine ⟨s, h1, h2, ?_⟩
    unfold pu_dy
    rw [← pu_d_o a (by omega) s (by omega) h3.1, h3.2.1, h3.2.2]
    rfl
  · rintro ⟨s, h1, h2, h3⟩
    unfold pu_dy at h3
    rw [Bool.and_eq_true] at h3
    rcases pu_d_tab a (by omega) s (by omega) with h | h
    · refine ⟨s, h1, h2, ?_⟩
      unfold pu_dx
      rw [decide_eq_true h.1, h.2, h3.1, h3.2]
      rfl
    · have hx : s ^^^ 2 ^ a < 2 ^ m := Nat.xor_lt_two_pow (by omega) (pu_pw ha)
      refine ⟨s ^^^ 2 ^ a, by omega, by omega, ?_⟩
      unfold pu_dx
      rw [decide_eq_true h.1, h.2, h3.1, h3.2]
      rfl
/-! follows -/
def pu_f (R : Nat → Nat) (p q g : Nat) : Bool := pu_p p (R g) && !pu_p q (R g)
theorem pu_f_eq {R : Nat → Nat} {n m p q : Nat} (hq : q < 2 ^ m) : pu_p q (pu_c R n (2 ^ m - 1) p) = !pu_y (pu_f R p q) n 0 := by
  apply pu_beq
  unfold pu_c
  rw [pu_a_p, Bool.not_eq_true', ← Bool.not_eq_true, pu_y_iff]
  have hz : pu_p q (2 ^ m - 1) = true := by
    unfold pu_p
    rw [decide_eq_true_iff]
    exact Nat.and_two_pow_sub_one_of_lt_two_pow hq
  constructor
  · rintro ⟨_, h⟩ ⟨j, _, h2, h3⟩
    unfold pu_f at h3
    rw [Bool.and_eq_true, Bool.not_eq_true'] at h3
    have := h j (by omega) h3.1
    rw [h3.2] at this
    exact absurd this (by decide)
  · intro h
    refine ⟨hz, fun g hg ht => ?_⟩
    cases h4 : pu_p q (R g)
    · refine absurd ⟨g, by omega, by omega, ?_⟩ h
      unfold pu_f
      rw [h4]
      try dsimp only at ht
      rw [ht]
      rfl
    · rfl
