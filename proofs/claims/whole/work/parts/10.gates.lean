/-! the tests of the arguments, both sides; cross -/
def cx_bad (N : Nat) (x : Int32) : Prop := x < 0 ∨ ∃ j, N ≤ j ∧ j < 2 ^ 31 ∧ x = nI j
theorem cx_ix (x : Int32) (N : Nat) : cx_bad N x ∨ ∃ j, j < N ∧ j < 2 ^ 31 ∧ x = nI j := by
  by_cases h : x < 0
  · exact Or.inl (Or.inl h)
  · obtain ⟨j, hj, rfl⟩ := nI_of h
    by_cases h2 : j < N
    · exact Or.inr ⟨j, h2, hj, rfl⟩
    · exact Or.inl (Or.inr ⟨j, by omega, hj, rfl⟩)
theorem cx_b0 {N : Nat} {x : Int32} {P Q : Prop} (h : cx_bad N x) (p : P) : ((x < 0 → P) ∧ (¬ x < 0 → ((nI N ≤ x → P) ∧ (¬ nI N ≤ x → Q)))) := by
  rcases h with h | ⟨j, h1, h2, rfl⟩
  · exact br_t h p
  · exact br_f (nI_pos h2) (br_t (nI_le h1 h2) p)
theorem cx_g0 {N j : Nat} {P Q : Prop} (hj : j < N) (hN : N < 2 ^ 31) (q : Q) : ((nI j < 0 → P) ∧ (¬ nI j < 0 → ((nI N ≤ nI j → P) ∧ (¬ nI N ≤ nI j → Q)))) := br_f (nI_pos (by omega)) (br_f (nI_ge hj hN) q)
theorem cx_b1 {N : Nat} {x : Int32} {P Q : Prop} (hN : N < 2 ^ 31) (h : cx_bad N x) (p : P) : ((x < 0 → P) ∧ (¬ x < 0 → ((x < nI N → Q) ∧ (¬ x < nI N → P)))) := by
  rcases h with h | ⟨j, h1, h2, rfl⟩
  · exact br_t h p
  · exact br_f (nI_pos h2) (br_f (nI_nlt h1 h2) p)
theorem cx_g1 {N j : Nat} {P Q : Prop} (hj : j < N) (hN : N < 2 ^ 31) (q : Q) : ((nI j < 0 → P) ∧ (¬ nI j < 0 → ((nI j < nI N → Q) ∧ (¬ nI j < nI N → P)))) := br_f (nI_pos (by omega)) (br_t (nI_lt hj hN) q)
theorem cx_b2 {N : Nat} {x : Int32} {P Q : Prop} (h0 : 1 ≤ N) (h : cx_bad N x) (p : P) : ((x < 0 → P) ∧ (¬ x < 0 → ((x ≤ nI (N - 1) → Q) ∧ (¬ x ≤ nI (N - 1) → P)))) := by
  rcases h with h | ⟨j, h1, h2, rfl⟩
  · exact br_t h p
  · exact br_f (nI_pos h2) (br_f (nI_ge (by omega) h2) p)
theorem cx_g2 {N j : Nat} {P Q : Prop} (hj : j < N) (hN : N < 2 ^ 31) (q : Q) : ((nI j < 0 → P) ∧ (¬ nI j < 0 → ((nI j ≤ nI (N - 1) → Q) ∧ (¬ nI j ≤ nI (N - 1) → P)))) := br_f (nI_pos (by omega)) (br_t (nI_le (by omega) (by omega)) q)
theorem cx_tb {b : Bool} (P : Int32 → Prop) (h : P (pu_b b)) : (pu_b b = 0 → P 0) ∧ (¬ pu_b b = 0 → P 1) := by
  cases b
  · exact pu_br (fun _ => h) (fun z => absurd z (by decide))
  · exact pu_br (fun z => absurd z (by decide)) (fun _ => h)
theorem cx_10 : ¬ (1 : Int32) = 0 := by decide
section
variable {n m e : Nat} {a1 a2 a3 a4 a5 : Nat → Int32}
theorem cx_oF {post : Int32 → Prop} {x : Int32} (h : cx_bad n x) (p : post 0) : wpX_isGoodObject post (nI n, nI m, nI e, a1, a2, a3) x := cx_b0 h p
theorem cx_oT {post : Int32 → Prop} {j : Nat} (h : j < n) (hn : n < 2 ^ 31) (p : post 1) : wpX_isGoodObject post (nI n, nI m, nI e, a1, a2, a3) (nI j) := cx_g0 h hn p
theorem cx_aF {post : Int32 → Prop} {x : Int32} (h : cx_bad m x) (p : post 0) : wpX_isGoodAttribute post (nI n, nI m, nI e, a1, a2, a3) x := cx_b0 h p
theorem cx_aT {post : Int32 → Prop} {j : Nat} (h : j < m) (hn : m < 2 ^ 31) (p : post 1) : wpX_isGoodAttribute post (nI n, nI m, nI e, a1, a2, a3) (nI j) := cx_g0 h hn p
theorem cx_sF {post : Int32 → Prop} {x : Int32} (h : cx_bad e x) (p : post 0) : wpX_isGoodSet post (nI n, nI m, nI e, a1, a2, a3) x := cx_b0 h p
theorem cx_sT {post : Int32 → Prop} {j : Nat} (h : j < e) (hn : e < 2 ^ 31) (p : post 1) : wpX_isGoodSet post (nI n, nI m, nI e, a1, a2, a3) (nI j) := cx_g0 h hn p
theorem cy_oF {post : Int32 → Prop} {x : Int32} {z : Int32} (h : cx_bad n x) (p : post 1) : wpY_badObject post (nI n, nI m, z, a1, a2, a3, a4, a5) x := cx_b0 h p
theorem cy_oT {post : Int32 → Prop} {j : Nat} {z : Int32} (h : j < n) (hn : n ≤ 8) (p : post 0) : wpY_badObject post (nI n, nI m, z, a1, a2, a3, a4, a5) (nI j) := cx_g0 h (by omega) (br_t (nI_le (b := 7) (by omega) (by decide)) p)
theorem cy_aF {post : Int32 → Prop} {x : Int32} {z : Int32} (hm : m < 2 ^ 31) (h : cx_bad m x) (p : post 1) : wpY_badAttribute post (nI n, nI m, z, a1, a2, a3, a4, a5) x := cx_b1 hm h p
theorem cy_aT {post : Int32 → Prop} {j : Nat} {z : Int32} (h : j < m) (hm : m < 2 ^ 31) (p : post 0) : wpY_badAttribute post (nI n, nI m, z, a1, a2, a3, a4, a5) (nI j) := cx_g1 h hm p
theorem cy_sF {post : Int32 → Prop} {x : Int32} (h0 : 1 ≤ e) (h : cx_bad e x) (p : post 1) : wpY_badSet post (nI n, nI m, nI (e - 1), a1, a2, a3, a4, a5) x := cx_b2 h0 h p
theorem cy_sT {post : Int32 → Prop} {j : Nat} (h : j < e) (hn : e < 2 ^ 31) (p : post 0) : wpY_badSet post (nI n, nI m, nI (e - 1), a1, a2, a3, a4, a5) (nI j) := cx_g2 h hn p
end
theorem cx_set {R : Nat → Nat} {j v : Nat} {x : Int32} (hj : j < 2 ^ 31) (hx : x = nI v) : upd (cx_r R) (nI j).toNatClampNeg x = cx_r (fun i => if i = j then v else R i) := by
  funext i
  rw [nI_clamp hj, hx]
  unfold upd cx_r
  dsimp only
  by_cases h : i = j
  · rw [if_pos h, if_pos h]
  · rw [if_neg h, if_neg h]
theorem cx_setb {R : Nat → Nat} {j v e : Nat} (hv : v < e) (hR : ∀ i, R i < e) : ∀ i, (fun i => if i = j then v else R i) i < e := by
  intro i
  dsimp only
  by_cases h : i = j
  · rw [if_pos h]
    exact hv
  · rw [if_neg h]
    exact hR i
theorem cx_bv {r a : Nat} : nI (r / 2 ^ a % 2) = pu_b (r.testBit a) := by
  cases h : r.testBit a
  · have h2 : ¬ r / 2 ^ a % 2 = 1 := fun z => by
      rw [pu_bit1, h] at z
      exact absurd z (by decide)
    have h3 : r / 2 ^ a % 2 < 2 := Nat.mod_lt _ (by decide)
    rw [show r / 2 ^ a % 2 = 0 by omega]
    rfl
  · rw [pu_bit1.mpr h]
    rfl
/-- the row of object j after cross(j, a, flag) -/
def pu_cr (r a w : Nat) (x : Int32) : Nat := if x = 0 then r &&& w else r ||| 2 ^ a
theorem pu_cr_lt {r a w m : Nat} {x : Int32} (hr : r < 2 ^ m) (ha : a < m) : pu_cr r a w x < 2 ^ m := by
  unfold pu_cr
  by_cases h : x = 0
  · rw [if_pos h]
    exact Nat.lt_of_le_of_lt Nat.and_le_left hr
  · rw [if_neg h]
    exact Nat.or_lt_two_pow hr (pu_pw ha)
section
variable {n m e : Nat} {R : Nat → Nat} {ps lo cl cs ch : Nat → Int32}
theorem cx_cross43 {post : Int32 → SX → Prop} {z x : Int32} (j a w : Nat) (hj : j < 8) (hw : nI (2 ^ a) ^^^ (-1) = nI w) (h : post z (nI n, nI m, nI e, cx_r (fun i => if i = j then pu_cr (R j) a w x else R i), ps, lo)) : wX_cross_43 post (nI j) x (nI (2 ^ a)) z (nI n) (nI m) (nI e) (cx_r R) ps lo := by
  unfold wX_cross_43
  have hi : vp_in (nI j) 8 := vp_in_nI hj (by omega)
  refine br_c (fun hx => ⟨hi, hi, nm_r (cx_set (v := pu_cr (R j) a w x) (by omega) ?_) h⟩) (fun hx => ⟨hi, hi, nm_r (cx_set (v := pu_cr (R j) a w x) (by omega) ?_) h⟩)
  · rw [cx_at (by omega), hw, nx_and]
    unfold pu_cr
    rw [if_pos hx]
  · rw [cx_at (by omega), pu_nor]
    unfold pu_cr
    rw [if_neg hx]
theorem cx_cross {post : Int32 → SX → Prop} {x : Int32} (hn : n ≤ 8) (hm : m ≤ 7) (hR : ∀ i, R i < 2 ^ 31) (j a w : Nat) (hj : j < n) (ha : a < m) (hw : nI (2 ^ a) ^^^ (-1) = nI w) (h : post (pu_b ((R j).testBit a)) (nI n, nI m, nI e, cx_r (fun i => if i = j then pu_cr (R j) a w x else R i), ps, lo)) : wpX_cross post (nI n, nI m, nI e, cx_r R, ps, lo) (nI j) (nI a) x := by
  unfold wpX_cross
  dsimp only
  have hi : vp_in (nI j) 8 := vp_in_nI (by omega) (by omega)
  have hx : cx_r R (nI j).toNatClampNeg &&& nI (2 ^ a) = nI (R j &&& 2 ^ a) := by rw [cx_at (by omega), nx_and]
  refine cx_oT hj (by omega) (br_f cx_10 (cx_aT ha (by omega) (br_f cx_10 (nm_r (pu_1sh (by omega)) ⟨hi, pk_eq (R j &&& 2 ^ a) 0 (fun hb => ?_) (fun hb => ?_) hx rfl (Nat.lt_of_le_of_lt Nat.and_le_left (hR j)) (by omega)⟩))))
  · rw [pu_and2.mp hb] at h
    exact cx_cross43 j a w (by omega) hw h
  · have hb2 : (R j).testBit a = true := by
      cases hc : (R j).testBit a
      · exact absurd (pu_and2.mpr hc) hb
      · rfl
    rw [hb2] at h
    exact cx_cross43 j a w (by omega) hw h
theorem cy_cross {post : Int32 → SY → Prop} {x z : Int32} (hn : n ≤ 8) (hm : m ≤ 7) (hR : ∀ i, R i < 2 ^ 31) (j a w : Nat) (hj : j < n) (ha : a < m) (hw : nI (2 ^ a) ^^^ (-1) = nI w) (h : post (pu_b ((R j).testBit a)) (nI n, nI m, z, cx_r (fun i => if i = j then pu_cr (R j) a w x else R i), cl, ps, cs, ch)) : wpY_cross post (nI n, nI m, z, cx_r R, cl, ps, cs, ch) (nI j) (nI a) x := by
  unfold wpY_cross
  dsimp only
  have hi : vp_in (nI j) 8 := vp_in_nI (by omega) (by omega)
  have hv : (cx_r R (nI j).toNatClampNeg >>> (nI a &&& 31)) &&& 1 = pu_b ((R j).testBit a) := by rw [cx_at (by omega), pu_bitv (hR j) (by omega), cx_bv]
  refine cy_oT hj hn (br_t rfl (cy_aT ha (by omega) (br_t rfl ⟨hi, nm_r hv (br_c (fun hx => ⟨hi, hi, nm_r (cx_set (v := pu_cr (R j) a w x) (by omega) ?_) h⟩) (fun hx => ⟨hi, hi, nm_r (cx_set (v := pu_cr (R j) a w x) (by omega) ?_) h⟩))⟩)))
  · rw [cx_at (by omega), pu_1sh (by omega), hw, nx_and]
    unfold pu_cr
    rw [if_pos hx]
  · rw [cx_at (by omega), pu_1sh (by omega), pu_nor]
    unfold pu_cr
    rw [if_neg hx]
theorem cx_follows (H : cx_ok n e R) {post : Int32 → Prop} (p q : Nat) (hp : p < e) (hq : q < e) (h : post (pu_b (pu_p q (pu_c R n (e - 1) p)))) : wpX_follows post (nI n, nI m, nI e, cx_r R, ps, lo) (nI p) (nI q) := by
  obtain ⟨h1, h2, h3, h4⟩ := id H
  unfold wpX_follows
  dsimp only
  exact cx_sT hp (by omega) (br_f cx_10 (cx_sT hq (by omega) (br_f cx_10 (cx_closureOf H p rfl (by omega) (cx_isPart q (pu_c R n (e - 1) p) rfl rfl (by omega) (cx_tb post h))))))
end
theorem cx_clamp (x : Int32) (a b : Nat) (hab : a ≤ b) (hb : b < 2 ^ 31) : ∃ j, a ≤ j ∧ j ≤ b ∧ ∀ P : Int32 → Prop, P (nI j) → ((nI a ≤ x → ((x ≤ nI b → P x) ∧ (¬ x ≤ nI b → P (nI b)))) ∧ (¬ nI a ≤ x → P (nI a))) := by
  by_cases h1 : nI a ≤ x
  · obtain ⟨j, hj, rfl⟩ := nI_of (x := x) (Int32.not_lt.mpr (Int32.le_trans (nI_pos' (by omega)) h1))
    have h3 := (nI_leI (by omega) hj).mp h1
    by_cases h2 : nI j ≤ nI b
    · exact ⟨j, h3, (nI_leI hj hb).mp h2, fun P p => br_t h1 (br_t h2 p)⟩
    · exact ⟨b, hab, Nat.le_refl _, fun P p => br_t h1 (br_f h2 p)⟩
  · exact ⟨a, Nat.le_refl _, hab, fun P p => br_f h1 p⟩
theorem cx_init (k0 k1 : Int32) : ∃ n m, 1 ≤ n ∧ n ≤ 8 ∧ 2 ≤ m ∧ m ≤ 7 ∧ (∀ post : SX → Prop, post (nI n, nI m, nI (2 ^ m), cx_r (fun _ => 0), (fun _ => 0), (fun _ => 0)) → wpX_init post k0 k1) ∧ (∀ post : SY → Prop, post (nI n, nI m, nI (2 ^ m - 1), cx_r (fun _ => 0), (fun _ => 0), (fun _ => 0), (fun _ => 0), (fun _ => 0)) → wpY_init post k0 k1) := by
  obtain ⟨n, h1, h2, hn⟩ := cx_clamp k0 1 8 (by omega) (by omega)
  obtain ⟨m, h3, h4, hm⟩ := cx_clamp k1 2 7 (by omega) (by omega)
  refine ⟨n, m, h1, h2, h3, h4, fun post h => ?_, fun post h => ?_⟩
  · exact hn (fun r => wpX_clamp (fun r2 => ∀ f : Int32, f = (1 : Int32) <<< (r2 &&& 31) → post (r, r2, f, (fun _ => 0), (fun _ => 0), (fun _ => 0))) k1 2 7) (hm (fun r2 => ∀ f : Int32, f = (1 : Int32) <<< (r2 &&& 31) → post (nI n, r2, f, (fun _ => 0), (fun _ => 0), (fun _ => 0))) (nm_r (pu_1sh (by omega)) h))
  · refine hn (fun r => wY_init_70 post k1 r 0 0 0 (fun _ => 0) (fun _ => 0) (fun _ => 0) (fun _ => 0) (fun _ => 0)) (hm (fun r2 => wY_init_95 post r2 (nI n) 0 0 (fun _ => 0) (fun _ => 0) (fun _ => 0) (fun _ => 0) (fun _ => 0)) (nm_r (e' := nI (2 ^ m - 1)) ?_ h))
    rw [pu_1sh (by omega)]
    exact pk_sub (b := 1) Nat.one_le_two_pow
