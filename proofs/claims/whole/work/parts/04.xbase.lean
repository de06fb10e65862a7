/-! the class: its private helpers and its questions of the rows -/
def cx_r (R : Nat → Nat) : Nat → Int32 := fun j => nI (R j)
theorem cx_at {R : Nat → Nat} {k : Nat} (h : k < 2 ^ 31) : cx_r R (nI k).toNatClampNeg = nI (R k) := by
  rw [nI_clamp h]
  rfl
def cx_ok (n e : Nat) (R : Nat → Nat) : Prop := n ≤ 8 ∧ 1 ≤ e ∧ e ≤ 128 ∧ ∀ j, R j < e
theorem cx_lp (W : Nat → Nat → Prop) (e k0 : Nat) (h0 : k0 ≤ e) (hx : ∀ f, W (f + 1) e) (hs : ∀ f k, k0 ≤ k → k < e → W f (k + 1) → W (f + 1) k) : ∃ f, W f k0 := by
  have h : ∀ d k, k0 ≤ k → k + d = e → W (d + 1) k := by
    intro d
    induction d with
    | zero =>
      intro k _ hk
      have ke : k = e := by omega
      rw [ke]
      exact hx 0
    | succ d ih =>
      intro k h1 hk
      exact hs (d + 1) k h1 (by omega) (ih (k + 1) (by omega) (by omega))
  exact ⟨e - k0 + 1, h (e - k0) k0 (Nat.le_refl _) (by omega)⟩
theorem pu_ct {R : Nat → Nat} {s z i : Nat} (h : pu_p s (R i) = true) : pu_a R (fun g => pu_p s (R g)) z (i + 1) = pu_a R (fun g => pu_p s (R g)) z i &&& R i := if_pos h
theorem pu_cf {R : Nat → Nat} {s z i : Nat} (h : pu_p s (R i) = false) : pu_a R (fun g => pu_p s (R g)) z (i + 1) = pu_a R (fun g => pu_p s (R g)) z i := pu_a_f (t := fun g => pu_p s (R g)) h
theorem pu_gt {R : Nat → Nat} {s z i : Nat} (h : s.testBit i = true) : pu_a R (fun g => s.testBit g) z (i + 1) = pu_a R (fun g => s.testBit g) z i &&& R i := if_pos h
theorem pu_gf {R : Nat → Nat} {s z i : Nat} (h : s.testBit i = false) : pu_a R (fun g => s.testBit g) z (i + 1) = pu_a R (fun g => s.testBit g) z i := pu_a_f (t := fun g => s.testBit g) h
theorem pu_kt {R : Nat → Nat} {n z s : Nat} (h : pu_c R n z s = s) : pu_k R n z s = true := decide_eq_true h
theorem pu_kf {R : Nat → Nat} {n z s : Nat} (h : ¬ pu_c R n z s = s) : pu_k R n z s = false := decide_eq_false h
theorem pu_pt {a b : Nat} (h : a &&& b = a) : pu_p a b = true := decide_eq_true h
theorem pu_pf {a b : Nat} (h : ¬ a &&& b = a) : pu_p a b = false := decide_eq_false h
theorem pu_qt {a b : Nat} (h : ¬ a = b) : pu_q a b = pu_p a b := by
  unfold pu_q
  rw [decide_eq_false h]
  rfl
theorem pu_qf {a b : Nat} (h : a = b) : pu_q a b = false := by
  unfold pu_q
  rw [decide_eq_true h]
  rfl
section
variable {n m e : Nat} {R : Nat → Nat} {ps lo : Nat → Int32}
theorem cx_c_lt (H : cx_ok n e R) (s : Nat) : pu_c R n (e - 1) s < e := by
  have h := pu_c_le R n (e - 1) s
  have h2 := H.2.1
  omega
theorem cx_k_lt (H : cx_ok n e R) (s : Nat) : pu_c R n (e - 1) s < 2 ^ 31 := by
  have h := cx_c_lt H s
  have h2 := H.2.2.1
  omega
theorem cx_Rb (H : cx_ok n e R) (j : Nat) : R j < 2 ^ 31 := by
  have h := H.2.2.2 j
  have h2 := H.2.2.1
  omega
theorem cx_isPart {post : Int32 → Prop} {x y : Int32} (a b : Nat) (hx : x = nI a) (hy : y = nI b) (ha : a < 2 ^ 31) (h : post (pu_b (pu_p a b))) : wpX_isPart post x y := by
  subst hx hy
  unfold wpX_isPart
  rw [nx_and, nI_eq (Nat.lt_of_le_of_lt Nat.and_le_left ha) ha]
  by_cases h2 : a &&& b = a
  · rw [pu_pt h2] at h
    exact br_t h2 h
  · rw [pu_pf h2] at h
    exact br_f h2 h
theorem cx_isProperPart {post : Int32 → Prop} {x y : Int32} (a b : Nat) (hx : x = nI a) (hy : y = nI b) (ha : a < 2 ^ 31) (hb : b < 2 ^ 31) (h : post (pu_b (pu_q a b))) : wpX_isProperPart post x y := by
  subst hx hy
  unfold wpX_isProperPart
  rw [nx_and, nI_eq (Nat.lt_of_le_of_lt Nat.and_le_left ha) ha, nI_eq ha hb]
  by_cases h1 : a = b
  · rw [pu_qf h1] at h
    exact br_t h1 h
  · rw [pu_qt h1] at h
    refine br_f h1 ?_
    by_cases h2 : a &&& b = a
    · rw [pu_pt h2] at h
      exact br_t h2 h
    · rw [pu_pf h2] at h
      exact br_f h2 h
theorem cx_closureOf (H : cx_ok n e R) {post : Int32 → Prop} {x : Int32} (s : Nat) (hx : x = nI s) (hs : s < 2 ^ 31) (h : post (nI (pu_c R n (e - 1) s))) : wpX_closureOf post (nI n, nI m, nI e, cx_r R, ps, lo) x := by
  subst hx
  obtain ⟨h1, h2, h3, h4⟩ := id H
  unfold wpX_closureOf
  dsimp only
  refine nm_r (pk_sub (a := e) (b := 1) h2) ?_
  refine cx_lp (fun f k => wX_closureOf_9 post (nI s) (nI n) (nI m) (nI e) (cx_r R) ps lo f (nI (pu_a R (fun g => pu_p s (R g)) (e - 1) k)) (nI k)) n 0 (Nat.zero_le _) (fun f => ?_) (fun f k _ hk ih => ?_)
  · exact br_t (nI_le (Nat.le_refl _) (by omega)) h
  · have hi : vp_in (nI k) 8 := vp_in_nI (by omega) (by omega)
    refine br_f (nI_ge hk (by omega)) ⟨hi, cx_isPart s (R k) rfl (cx_at (by omega)) hs ?_⟩
    refine pu_br (fun hb => nm_r (nI_1 k) ?_) (fun hb => ⟨hi, nm_r (e' := nI (pu_a R (fun g => pu_p s (R g)) (e - 1) (k + 1))) ?_ (nm_r (nI_1 k) ih)⟩)
    · try dsimp only at ih
      rw [pu_cf hb] at ih
      exact ih
    · rw [cx_at (by omega), nx_and, pu_ct hb]
theorem cx_isClosed (H : cx_ok n e R) {post : Int32 → Prop} {x : Int32} (s : Nat) (hx : x = nI s) (hs : s < 2 ^ 31) (h : post (pu_b (pu_k R n (e - 1) s))) : wpX_isClosed post (nI n, nI m, nI e, cx_r R, ps, lo) x := by
  subst hx
  unfold wpX_isClosed
  dsimp only
  refine cx_closureOf H s rfl hs ?_
  refine pk_eq (pu_c R n (e - 1) s) s (fun h2 => ?_) (fun h2 => ?_) rfl rfl (cx_k_lt H s) hs
  · rw [pu_kt h2] at h
    exact h
  · rw [pu_kf h2] at h
    exact h
theorem cx_extent (H : cx_ok n e R) {post : Int32 → Prop} (s : Nat) (hs : s < 2 ^ 31) (h : post (nI (pu_e R s n))) : ∃ f, wX_extent_14 post (nI s) (nI n) (nI m) (nI e) (cx_r R) ps lo f 0 0 := by
  obtain ⟨h1, h2, h3, h4⟩ := id H
  refine cx_lp (fun f k => wX_extent_14 post (nI s) (nI n) (nI m) (nI e) (cx_r R) ps lo f (nI (pu_e R s k)) (nI k)) n 0 (Nat.zero_le _) (fun f => ?_) (fun f k _ hk ih => ?_)
  · exact br_t (nI_le (Nat.le_refl _) (by omega)) h
  · have hi : vp_in (nI k) 8 := vp_in_nI (by omega) (by omega)
    refine br_f (nI_ge hk (by omega)) ⟨hi, cx_isPart s (R k) rfl (cx_at (by omega)) hs ?_⟩
    refine pu_br (fun hb => nm_r (nI_1 k) ?_) (fun hb => nm_r (e' := nI (pu_e R s (k + 1))) ?_ (nm_r (nI_1 k) ih))
    · try dsimp only at ih
      rw [pu_e_f hb] at ih
      exact ih
    · rw [pu_1sh (by omega), pu_nor, pu_e_t hb]
theorem cx_intent (H : cx_ok n e R) {post : Int32 → Prop} (s : Nat) (hs : s < 2 ^ 31) (h : post (nI (pu_a R (fun g => s.testBit g) (e - 1) n))) : ∃ f, wX_intent_25 post (nI s) (nI n) (nI m) (nI e) (cx_r R) ps lo f (nI (e - 1)) 0 := by
  obtain ⟨h1, h2, h3, h4⟩ := id H
  refine cx_lp (fun f k => wX_intent_25 post (nI s) (nI n) (nI m) (nI e) (cx_r R) ps lo f (nI (pu_a R (fun g => s.testBit g) (e - 1) k)) (nI k)) n 0 (Nat.zero_le _) (fun f => ?_) (fun f k _ hk ih => ?_)
  · exact br_t (nI_le (Nat.le_refl _) (by omega)) h
  · have hi : vp_in (nI k) 8 := vp_in_nI (by omega) (by omega)
    refine br_f (nI_ge hk (by omega)) ?_
    have hl : s &&& 2 ^ k < 2 ^ 31 := Nat.lt_of_le_of_lt Nat.and_le_left hs
    refine pk_eq (s &&& 2 ^ k) 0 (fun hb => nm_r (nI_1 k) ?_) (fun hb => ⟨hi, nm_r (e' := nI (pu_a R (fun g => s.testBit g) (e - 1) (k + 1))) ?_ (nm_r (nI_1 k) ih)⟩) ?_ rfl hl (by omega)
    · try dsimp only at ih
      rw [pu_gf (pu_and2.mp hb)] at ih
      exact ih
    · have hb2 : s.testBit k = true := by
        cases hc : s.testBit k
        · exact absurd (pu_and2.mpr hc) hb
        · rfl
      rw [cx_at (by omega), nx_and, pu_gt hb2]
    · rw [pu_1sh (by omega), nx_and]
end
