/-! the reference: its walks over the tables -/
section
variable {n m e : Nat} {R : Nat → Nat} {rw' cl ps cs ch : Nat → Int32}
theorem cy_closedSets8 {post : Int32 → SY → Prop} {T : Nat → Bool} (h2 : 1 ≤ e) (he : e ≤ 128) (hp : ∀ j, j < e → cl j = pu_b (T j)) (h : post (nI (pu_n T e)) (nI n, nI m, nI (e - 1), rw', cl, ps, cs, ch)) : ∃ f, wY_closedSets_8 post (nI n) (nI m) (nI (e - 1)) rw' cl ps cs ch f 0 0 := by
  refine cx_lp (fun f k => wY_closedSets_8 post (nI n) (nI m) (nI (e - 1)) rw' cl ps cs ch f (nI (pu_n T k)) (nI k)) e 0 (Nat.zero_le _) (fun f => ?_) (fun f k _ hk ih => ?_)
  · exact br_t (nI_lt (by omega) (by omega)) h
  · try dsimp only at ih
    have hi : vp_in (nI k) 128 := vp_in_nI (by omega) (by omega)
    refine br_f (nI_nlt (by omega) (by omega)) ⟨hi, pu_br' (cx_ra (by omega) (hp k hk)) (fun hb => nm_r (nI_1 k) ?_) (fun hb => nm_r (nI_1 _) (nm_r (nI_1 k) ?_))⟩
    · rw [pu_n_f hb] at ih
      exact ih
    · rw [pu_n_t hb] at ih
      exact ih
theorem cy_rules8 {post : Int32 → SY → Prop} {T : Nat → Bool} (h2 : 1 ≤ e) (he : e ≤ 128) (hp : ∀ j, j < e → ps j = pu_b (T j)) (h : post (nI (pu_n T e)) (nI n, nI m, nI (e - 1), rw', cl, ps, cs, ch)) : ∃ f, wY_rules_8 post (nI n) (nI m) (nI (e - 1)) rw' cl ps cs ch f 0 0 := by
  refine cx_lp (fun f k => wY_rules_8 post (nI n) (nI m) (nI (e - 1)) rw' cl ps cs ch f (nI (pu_n T k)) (nI k)) e 0 (Nat.zero_le _) (fun f => ?_) (fun f k _ hk ih => ?_)
  · exact br_t (nI_lt (by omega) (by omega)) h
  · try dsimp only at ih
    have hi : vp_in (nI k) 128 := vp_in_nI (by omega) (by omega)
    refine br_f (nI_nlt (by omega) (by omega)) ⟨hi, pu_br' (cx_ra (by omega) (hp k hk)) (fun hb => nm_r (nI_1 k) ?_) (fun hb => nm_r (nI_1 _) (nm_r (nI_1 k) ?_))⟩
    · rw [pu_n_f hb] at ih
      exact ih
    · rw [pu_n_t hb] at ih
      exact ih
theorem cy_closedSet8 {post : Int32 → SY → Prop} {T : Nat → Bool} (h2 : 1 ≤ e) (he : e ≤ 128) (hp : ∀ j, j < e → cl j = pu_b (T j)) (x : Int32) (h : post (pu_s T x e 0) (nI n, nI m, nI (e - 1), rw', cl, ps, cs, ch)) : ∃ f, wY_closedSet_8 post x (nI n) (nI m) (nI (e - 1)) rw' cl ps cs ch f 0 0 := by
  obtain ⟨f, hf⟩ := cx_lp (fun f k => post (pu_s T x (e - k) k) (nI n, nI m, nI (e - 1), rw', cl, ps, cs, ch) → wY_closedSet_8 post x (nI n) (nI m) (nI (e - 1)) rw' cl ps cs ch f (nI (pu_n T k)) (nI k)) e 0 (Nat.zero_le _) (fun f h => by
    rw [Nat.sub_self] at h
    exact br_t (nI_lt (by omega) (by omega)) h) (fun f k _ hk ih h => by
    try dsimp only at ih
    rw [show e - k = (e - (k + 1)) + 1 from by omega] at h
    have hi : vp_in (nI k) 128 := vp_in_nI (by omega) (by omega)
    refine br_f (nI_nlt (by omega) (by omega)) ⟨hi, pu_br' (cx_ra (by omega) (hp k hk)) (fun hb => nm_r (nI_1 k) ?_) (fun hb => br_c (fun hx => ?_) (fun hx => nm_r (nI_1 _) (nm_r (nI_1 k) ?_)))⟩
    · rw [pu_s_f hb] at h
      have ih2 := ih h
      rw [pu_n_f hb] at ih2
      exact ih2
    · rw [pu_s_t hb hx] at h
      exact h
    · rw [pu_s_n hb hx] at h
      have ih2 := ih h
      rw [pu_n_t hb] at ih2
      exact ih2)
  exact ⟨f, hf h⟩
theorem cy_rule8 {post : Int32 → SY → Prop} {T : Nat → Bool} (h2 : 1 ≤ e) (he : e ≤ 128) (hp : ∀ j, j < e → ps j = pu_b (T j)) (x : Int32) (h : post (pu_s T x e 0) (nI n, nI m, nI (e - 1), rw', cl, ps, cs, ch)) : ∃ f, wY_rule_8 post x (nI n) (nI m) (nI (e - 1)) rw' cl ps cs ch f 0 0 := by
  obtain ⟨f, hf⟩ := cx_lp (fun f k => post (pu_s T x (e - k) k) (nI n, nI m, nI (e - 1), rw', cl, ps, cs, ch) → wY_rule_8 post x (nI n) (nI m) (nI (e - 1)) rw' cl ps cs ch f (nI (pu_n T k)) (nI k)) e 0 (Nat.zero_le _) (fun f h => by
    rw [Nat.sub_self] at h
    exact br_t (nI_lt (by omega) (by omega)) h) (fun f k _ hk ih h => by
    try dsimp only at ih
    rw [show e - k = (e - (k + 1)) + 1 from by omega] at h
    have hi : vp_in (nI k) 128 := vp_in_nI (by omega) (by omega)
    refine br_f (nI_nlt (by omega) (by omega)) ⟨hi, pu_br' (cx_ra (by omega) (hp k hk)) (fun hb => nm_r (nI_1 k) ?_) (fun hb => br_c (fun hx => ?_) (fun hx => nm_r (nI_1 _) (nm_r (nI_1 k) ?_)))⟩
    · rw [pu_s_f hb] at h
      have ih2 := ih h
      rw [pu_n_f hb] at ih2
      exact ih2
    · rw [pu_s_t hb hx] at h
      exact h
    · rw [pu_s_n hb hx] at h
      have ih2 := ih h
      rw [pu_n_t hb] at ih2
      exact ih2)
  exact ⟨f, hf h⟩
theorem cy_next6 {post : Int32 → SY → Prop} {T : Nat → Bool} (h2 : 1 ≤ e) (he : e ≤ 128) (hp : ∀ j, j < e → cl j = pu_b (T j)) (x : Int32) (h : post (pu_x T x e 0) (nI n, nI m, nI (e - 1), rw', cl, ps, cs, ch)) : ∃ f, wY_nextClosed_6 post x (nI n) (nI m) (nI (e - 1)) rw' cl ps cs ch f 0 := by
  obtain ⟨f, hf⟩ := cx_lp (fun f k => post (pu_x T x (e - k) k) (nI n, nI m, nI (e - 1), rw', cl, ps, cs, ch) → wY_nextClosed_6 post x (nI n) (nI m) (nI (e - 1)) rw' cl ps cs ch f (nI k)) e 0 (Nat.zero_le _) (fun f h => by
    rw [Nat.sub_self] at h
    exact br_t (nI_lt (by omega) (by omega)) h) (fun f k _ hk ih h => by
    try dsimp only at ih
    rw [show e - k = (e - (k + 1)) + 1 from by omega] at h
    have hi : vp_in (nI k) 128 := vp_in_nI (by omega) (by omega)
    refine br_f (nI_nlt (by omega) (by omega)) (br_c (fun hx => nm_r (nI_1 k) ?_) (fun hx => ⟨hi, pu_br' (cx_ra (by omega) (hp k hk)) (fun hb => nm_r (nI_1 k) ?_) (fun hb => ?_)⟩))
    · rw [pu_x_l hx] at h
      exact ih h
    · rw [pu_x_f hb] at h
      exact ih h
    · rw [pu_x_t hx hb] at h
      exact h)
  exact ⟨f, hf h⟩
theorem pu_f_1 {R : Nat → Nat} {p q g : Nat} (h : pu_p p (R g) = false) : pu_f R p q g = false := by
  unfold pu_f
  rw [h]
  rfl
theorem pu_f_2 {R : Nat → Nat} {p q g : Nat} (h : pu_p q (R g) = true) : pu_f R p q g = false := by
  unfold pu_f
  rw [h]
  cases pu_p p (R g) <;> rfl
theorem pu_f_3 {R : Nat → Nat} {p q g : Nat} (h1 : pu_p p (R g) = true) (h2 : pu_p q (R g) = false) : pu_f R p q g = true := by
  unfold pu_f
  rw [h1, h2]
  rfl
theorem cy_follows20 {post : Int32 → Prop} (hn : n ≤ 8) (p q : Nat) (hp : p < 2 ^ 31) (hq : q < 2 ^ 31) (h : post (pu_b (!pu_y (pu_f R p q) n 0))) : ∃ f, wY_follows_20 post (nI p) (nI q) (nI n) (nI m) (nI (e - 1)) (cx_r R) cl ps cs ch f 0 := by
  obtain ⟨f, hf⟩ := cx_lp (fun f k => post (pu_b (!pu_y (pu_f R p q) (n - k) k)) → wY_follows_20 post (nI p) (nI q) (nI n) (nI m) (nI (e - 1)) (cx_r R) cl ps cs ch f (nI k)) n 0 (Nat.zero_le _) (fun f h => by
    rw [Nat.sub_self] at h
    exact br_t (nI_le (Nat.le_refl _) (by omega)) h) (fun f k _ hk ih h => by
    try dsimp only at ih
    rw [show n - k = (n - (k + 1)) + 1 from by omega] at h
    have hi : vp_in (nI k) 8 := vp_in_nI (by omega) (by omega)
    refine br_f (nI_ge hk (by omega)) (br_f (nI_ge (b := 8) (by omega) (by decide)) ⟨hi, cy_part p (R k) rfl (cx_at (by omega)) hp ?_⟩)
    refine pu_br (fun hb => nm_r (nI_1 k) ?_) (fun hb => ⟨hi, cy_part q (R k) rfl (cx_at (by omega)) hq ?_⟩)
    · rw [pu_y_f (pu_f_1 hb)] at h
      exact ih h
    · refine pu_br (fun hc => ?_) (fun hc => nm_r (nI_1 k) ?_)
      · rw [pu_y_t (pu_f_3 hb hc)] at h
        exact h
      · rw [pu_y_f (pu_f_2 hc)] at h
        exact ih h)
  exact ⟨f, hf h⟩
theorem cy_between {post : Int32 → Prop} {K : Nat → Bool} (h2 : 1 ≤ e) (he : e ≤ 128) (hp : ∀ j, j < e → cl j = pu_b (K j)) (c d : Nat) (hc : c < 2 ^ 31) (hd : d < 2 ^ 31) (h : post (pu_b (pu_y (pu_w K c d) e 0))) : wpY_between post (nI n, nI m, nI (e - 1), rw', cl, ps, cs, ch) (nI c) (nI d) := by
  unfold wpY_between
  dsimp only
  obtain ⟨f, hf⟩ := cx_lp (fun f k => post (pu_b (pu_y (pu_w K c d) (e - k) k)) → wY_between_2 post (nI c) (nI d) (nI n) (nI m) (nI (e - 1)) rw' cl ps cs ch f (nI k)) e 0 (Nat.zero_le _) (fun f h => by
    rw [Nat.sub_self] at h
    exact br_t (nI_lt (by omega) (by omega)) h) (fun f k _ hk ih h => by
    try dsimp only at ih
    rw [show e - k = (e - (k + 1)) + 1 from by omega] at h
    have hi : vp_in (nI k) 128 := vp_in_nI (by omega) (by omega)
    refine br_f (nI_nlt (by omega) (by omega)) ⟨hi, pu_br' (cx_ra (by omega) (hp k hk)) (fun hb => nm_r (nI_1 k) ?_) (fun hb => cy_proper c k rfl rfl hc (by omega) ?_)⟩
    · rw [pu_y_f (pu_w_1 hb)] at h
      exact ih h
    · refine pu_br (fun hq => nm_r (nI_1 k) ?_) (fun hq => cy_proper k d rfl rfl (by omega) hd ?_)
      · rw [pu_y_f (pu_w_2 hq)] at h
        exact ih h
      · refine pu_br (fun hr => nm_r (nI_1 k) ?_) (fun hr => ?_)
        · rw [pu_y_f (pu_w_3 hr)] at h
          exact ih h
        · rw [pu_y_t (pu_w_4 hb hq hr)] at h
          exact h)
  exact ⟨f, hf h⟩
theorem cy_over {post : Int32 → Prop} {K : Nat → Bool} {x : Int32} (h2 : 1 ≤ e) (he : e ≤ 128) (hp : ∀ j, j < e → cl j = pu_b (K j)) (c : Nat) (hx : x = nI c) (hc : c < 2 ^ 31) (h : post (nI (pu_o K e c))) : wpY_over post (nI n, nI m, nI (e - 1), rw', cl, ps, cs, ch) x := by
  subst hx
  unfold wpY_over
  dsimp only
  refine cx_lp (fun f k => wY_over_4 post (nI c) (nI n) (nI m) (nI (e - 1)) rw' cl ps cs ch f (nI (pu_n (pu_v K e c) k)) (nI k)) e 0 (Nat.zero_le _) (fun f => ?_) (fun f k _ hk ih => ?_)
  · exact br_t (nI_lt (by omega) (by omega)) h
  · try dsimp only at ih
    have hi : vp_in (nI k) 128 := vp_in_nI (by omega) (by omega)
    refine br_f (nI_nlt (by omega) (by omega)) ⟨hi, pu_br' (cx_ra (by omega) (hp k hk)) (fun hb => nm_r (nI_1 k) ?_) (fun hb => cy_proper c k rfl rfl hc (by omega) ?_)⟩
    · rw [pu_n_f (pu_v_1 hb)] at ih
      exact ih
    · refine pu_br (fun hq => nm_r (nI_1 k) ?_) (fun hq => cy_between h2 he hp c k hc (by omega) ?_)
      · rw [pu_n_f (pu_v_2 hq)] at ih
        exact ih
      · refine pu_br (fun hy => nm_r (nI_1 _) (nm_r (nI_1 k) ?_)) (fun hy => nm_r (nI_1 k) ?_)
        · rw [pu_n_t (pu_v_4 hb hq hy)] at ih
          exact ih
        · rw [pu_n_f (pu_v_3 hy)] at ih
          exact ih
theorem cy_links8 {post : Int32 → SY → Prop} {K : Nat → Bool} (h2 : 1 ≤ e) (he : e ≤ 128) (hp : ∀ j, j < e → cl j = pu_b (K j)) (h : post (nI (pu_l K (pu_o K e) e)) (nI n, nI m, nI (e - 1), rw', cl, ps, cs, ch)) : ∃ f, wY_links_8 post (nI n) (nI m) (nI (e - 1)) rw' cl ps cs ch f 0 0 := by
  refine cx_lp (fun f k => wY_links_8 post (nI n) (nI m) (nI (e - 1)) rw' cl ps cs ch f (nI (pu_l K (pu_o K e) k)) (nI k)) e 0 (Nat.zero_le _) (fun f => ?_) (fun f k _ hk ih => ?_)
  · exact br_t (nI_lt (by omega) (by omega)) h
  · try dsimp only at ih
    have hi : vp_in (nI k) 128 := vp_in_nI (by omega) (by omega)
    refine br_f (nI_nlt (by omega) (by omega)) ⟨hi, pu_br' (cx_ra (by omega) (hp k hk)) (fun hb => nm_r (nI_1 k) ?_) (fun hb => cy_over h2 he hp k rfl (by omega) (nm_r (nI_add _ _) (nm_r (nI_1 k) ?_)))⟩
    · rw [pu_l_f hb] at ih
      exact ih
    · rw [pu_l_t hb] at ih
      exact ih
end
