/-! the class: its walks over the sets -/
theorem cx_up1 {ps : Nat → Int32} {T T' : Nat → Bool} {k : Nat} {v : Int32} (hk : k < 2 ^ 31) (hv : vp_nar .boolean v = pu_b (T' k)) (hn : ∀ j, j < k → T' j = T j) (hp : ∀ j, j < k → ps j = pu_b (T j)) : ∀ j, j < k + 1 → upd ps (nI k).toNatClampNeg (vp_nar .boolean v) j = pu_b (T' j) := by
  intro j hj
  rw [nI_clamp hk]
  by_cases h : j = k
  · subst h
    rw [pk_us, hv]
  · rw [pk_un h, hp j (by omega), hn j (by omega)]
theorem cx_up2 {lo : Nat → Int32} {T T' : Nat → Nat} {k : Nat} {v : Int32} (hk : k < 2 ^ 31) (hv : v = nI (T' k)) (hn : ∀ j, j < k → T' j = T j) (hp : ∀ j, j < k → lo j = nI (T j)) : ∀ j, j < k + 1 → upd lo (nI k).toNatClampNeg v j = nI (T' j) := by
  intro j hj
  rw [nI_clamp hk]
  by_cases h : j = k
  · subst h
    rw [pk_us, hv]
  · rw [pk_un h, hp j (by omega), hn j (by omega)]
theorem cx_nb (b : Bool) : vp_nar .boolean (pu_b b) = pu_b b := by cases b <;> rfl
theorem cx_ra {α : Nat → Int32} {k : Nat} {x : Int32} (hk : k < 2 ^ 31) (h : α k = x) : α (nI k).toNatClampNeg = x := by rw [nI_clamp hk, h]
section
variable {n m e : Nat} {R : Nat → Nat} {ps lo : Nat → Int32}
theorem cx_closedSets (H : cx_ok n e R) {post : Int32 → Prop} (h : post (nI (pu_n (pu_k R n (e - 1)) e))) : wpX_closedSets post (nI n, nI m, nI e, cx_r R, ps, lo) := by
  obtain ⟨h1, h2, h3, h4⟩ := id H
  unfold wpX_closedSets
  dsimp only
  refine cx_lp (fun f k => wX_closedSets_4 post (nI n) (nI m) (nI e) (cx_r R) ps lo f (nI (pu_n (pu_k R n (e - 1)) k)) (nI k)) e 0 (Nat.zero_le _) (fun f => ?_) (fun f k _ hk ih => ?_)
  · exact br_t (nI_le (Nat.le_refl _) (by omega)) h
  · try dsimp only at ih
    refine br_f (nI_ge hk (by omega)) (cx_isClosed H k rfl (by omega) ?_)
    refine pu_br (fun hb => nm_r (nI_1 k) ?_) (fun hb => nm_r (nI_1 _) (nm_r (nI_1 k) ?_))
    · rw [pu_n_f hb] at ih
      exact ih
    · rw [pu_n_t hb] at ih
      exact ih
theorem cx_closedSet (H : cx_ok n e R) {post : Int32 → Prop} (x : Int32) (h : post (pu_s (pu_k R n (e - 1)) x e 0)) : wpX_closedSet post (nI n, nI m, nI e, cx_r R, ps, lo) x := by
  obtain ⟨h1, h2, h3, h4⟩ := id H
  unfold wpX_closedSet
  dsimp only
  obtain ⟨f, hf⟩ := cx_lp (fun f k => post (pu_s (pu_k R n (e - 1)) x (e - k) k) → wX_closedSet_4 post x (nI n) (nI m) (nI e) (cx_r R) ps lo f (nI (pu_n (pu_k R n (e - 1)) k)) (nI k)) e 0 (Nat.zero_le _) (fun f h => by
    rw [Nat.sub_self] at h
    exact br_t (nI_le (Nat.le_refl _) (by omega)) h) (fun f k _ hk ih h => by
    try dsimp only at ih
    rw [show e - k = (e - (k + 1)) + 1 from by omega] at h
    refine br_f (nI_ge hk (by omega)) (cx_isClosed H k rfl (by omega) ?_)
    refine pu_br (fun hb => nm_r (nI_1 k) ?_) (fun hb => br_c (fun hx => ?_) (fun hx => nm_r (nI_1 _) (nm_r (nI_1 k) ?_)))
    · rw [pu_s_f hb] at h
      have ih2 := ih h
      rw [pu_n_f hb] at ih2
      exact ih2
    · rw [pu_s_t hb hx] at h
      exact h
    · rw [pu_s_n hb hx] at h
      have ih2 := ih h
      rw [pu_n_t hb] at ih2
      exact ih2)
  exact ⟨f, hf h⟩
theorem cx_nextClosed (H : cx_ok n e R) {post : Int32 → Prop} (x : Int32) (h : post (pu_x (pu_k R n (e - 1)) x e 0)) : wpX_nextClosed post (nI n, nI m, nI e, cx_r R, ps, lo) x := by
  obtain ⟨h1, h2, h3, h4⟩ := id H
  unfold wpX_nextClosed
  dsimp only
  obtain ⟨f, hf⟩ := cx_lp (fun f k => post (pu_x (pu_k R n (e - 1)) x (e - k) k) → wX_nextClosed_2 post x (nI n) (nI m) (nI e) (cx_r R) ps lo f (nI k)) e 0 (Nat.zero_le _) (fun f h => by
    rw [Nat.sub_self] at h
    exact br_t (nI_le (Nat.le_refl _) (by omega)) h) (fun f k _ hk ih h => by
    try dsimp only at ih
    rw [show e - k = (e - (k + 1)) + 1 from by omega] at h
    refine br_f (nI_ge hk (by omega)) (br_c (fun hx => nm_r (nI_1 k) ?_) (fun hx => cx_isClosed H k rfl (by omega) ?_))
    · rw [pu_x_l hx] at h
      exact ih h
    · refine pu_br (fun hb => nm_r (nI_1 k) ?_) (fun hb => ?_)
      · rw [pu_x_f hb] at h
        exact ih h
      · rw [pu_x_t hx hb] at h
        exact h)
  exact ⟨f, hf h⟩
theorem cx_holds (H : cx_ok n e R) {post : Int32 → Prop} (s : Nat) (hs : s < 128) (T : Nat → Bool) (hp : ∀ j, j < s → ps j = pu_b (T j)) (h : post (pu_b (!pu_y (pu_u T (pu_c R n (e - 1)) s) s 0))) : wpX_holdsMarkedClosures post (nI n, nI m, nI e, cx_r R, ps, lo) (nI s) := by
  unfold wpX_holdsMarkedClosures
  dsimp only
  obtain ⟨f, hf⟩ := cx_lp (fun f k => post (pu_b (!pu_y (pu_u T (pu_c R n (e - 1)) s) (s - k) k)) → wX_holdsMarkedClosures_2 post (nI s) (nI n) (nI m) (nI e) (cx_r R) ps lo f (nI k)) s 0 (Nat.zero_le _) (fun f h => by
    rw [Nat.sub_self] at h
    exact br_t (nI_le (Nat.le_refl _) (by omega)) h) (fun f k _ hk ih h => by
    try dsimp only at ih
    rw [show s - k = (s - (k + 1)) + 1 from by omega] at h
    have hi : vp_in (nI k) 128 := vp_in_nI (by omega) (by omega)
    refine br_f (nI_ge hk (by omega)) ⟨hi, pu_br' (cx_ra (by omega) (hp k hk)) (fun hb => nm_r (nI_1 k) ?_) (fun hb => cx_isPart k s rfl rfl (by omega) ?_)⟩
    · rw [pu_y_f (pu_u_1 hb)] at h
      exact ih h
    · refine pu_br (fun hc => nm_r (nI_1 k) ?_) (fun hc => cx_closureOf H k rfl (by omega) (cx_isPart (pu_c R n (e - 1) k) s rfl rfl (cx_k_lt H k) ?_))
      · rw [pu_y_f (pu_u_2 hc)] at h
        exact ih h
      · refine pu_br (fun hd => ?_) (fun hd => nm_r (nI_1 k) ?_)
        · rw [pu_y_t (pu_u_4 hb hc hd)] at h
          exact h
        · rw [pu_y_f (pu_u_3 hd)] at h
          exact ih h)
  exact ⟨f, hf h⟩
theorem cx_mark (H : cx_ok n e R) {post : SX → Prop} (h : ∀ ps' : Nat → Int32, (∀ j, j < e → ps' j = pu_b (pu_t (pu_k R n (e - 1)) (pu_c R n (e - 1)) e j)) → post (nI n, nI m, nI e, cx_r R, ps', lo)) : wpX_markPseudoClosed post (nI n, nI m, nI e, cx_r R, ps, lo) := by
  obtain ⟨h1, h2, h3, h4⟩ := id H
  unfold wpX_markPseudoClosed
  dsimp only
  obtain ⟨f, hf⟩ := cx_lp (fun f k => ∀ ps : Nat → Int32, (∀ j, j < k → ps j = pu_b (pu_t (pu_k R n (e - 1)) (pu_c R n (e - 1)) k j)) → wX_markPseudoClosed_2 post (nI n) (nI m) (nI e) f (nI k) (cx_r R) ps lo) e 0 (Nat.zero_le _) (fun f ps hp => br_t (nI_le (Nat.le_refl _) (by omega)) (h ps hp)) (fun f k _ hk ih ps hp => by
    have hi : vp_in (nI k) 128 := vp_in_nI (by omega) (by omega)
    have hn : ∀ j, j < k → pu_t (pu_k R n (e - 1)) (pu_c R n (e - 1)) (k + 1) j = pu_t (pu_k R n (e - 1)) (pu_c R n (e - 1)) k j := fun j hj => pu_t_n _ _ hj
    have hs := pu_t_s (pu_k R n (e - 1)) (pu_c R n (e - 1)) k
    refine br_f (nI_ge hk (by omega)) (cx_isClosed H k rfl (by omega) ?_)
    refine pu_br (fun hb => cx_holds H k (by omega) (pu_t (pu_k R n (e - 1)) (pu_c R n (e - 1)) k) hp ?_) (fun hb => ⟨hi, nm_e (nm_r (nI_1 k) (ih _ (cx_up1 (by omega) ?_ hn hp)))⟩)
    · rw [hb] at hs
      refine pu_br (fun hc => ⟨hi, nm_e (nm_r (nI_1 k) (ih _ (cx_up1 (by omega) ?_ hn hp)))⟩) (fun hc => ⟨hi, nm_e (nm_r (nI_1 k) (ih _ (cx_up1 (by omega) ?_ hn hp)))⟩)
      · rw [hs, hc]
        rfl
      · rw [hs, hc]
        rfl
    · rw [hs, hb]
      rfl)
  exact ⟨f, hf ps (fun j hj => absurd hj (by omega))⟩
theorem cx_rules8 {post : Int32 → SX → Prop} {T : Nat → Bool} (he : e ≤ 128) (hp : ∀ j, j < e → ps j = pu_b (T j)) (rw' : Nat → Int32) (h : post (nI (pu_n T e)) (nI n, nI m, nI e, rw', ps, lo)) : ∃ f, wX_rules_8 post (nI n) (nI m) (nI e) rw' ps lo f 0 0 := by
  refine cx_lp (fun f k => wX_rules_8 post (nI n) (nI m) (nI e) rw' ps lo f (nI (pu_n T k)) (nI k)) e 0 (Nat.zero_le _) (fun f => ?_) (fun f k _ hk ih => ?_)
  · exact br_t (nI_le (Nat.le_refl _) (by omega)) h
  · try dsimp only at ih
    have hi : vp_in (nI k) 128 := vp_in_nI (by omega) (by omega)
    refine br_f (nI_ge hk (by omega)) ⟨hi, pu_br' (cx_ra (by omega) (hp k hk)) (fun hb => nm_r (nI_1 k) ?_) (fun hb => nm_r (nI_1 _) (nm_r (nI_1 k) ?_))⟩
    · rw [pu_n_f hb] at ih
      exact ih
    · rw [pu_n_t hb] at ih
      exact ih
theorem cx_rule8 {post : Int32 → SX → Prop} {T : Nat → Bool} (he : e ≤ 128) (hp : ∀ j, j < e → ps j = pu_b (T j)) (rw' : Nat → Int32) (x : Int32) (h : post (pu_s T x e 0) (nI n, nI m, nI e, rw', ps, lo)) : ∃ f, wX_rule_8 post x (nI n) (nI m) (nI e) rw' ps lo f 0 0 := by
  obtain ⟨f, hf⟩ := cx_lp (fun f k => post (pu_s T x (e - k) k) (nI n, nI m, nI e, rw', ps, lo) → wX_rule_8 post x (nI n) (nI m) (nI e) rw' ps lo f (nI (pu_n T k)) (nI k)) e 0 (Nat.zero_le _) (fun f h => by
    rw [Nat.sub_self] at h
    exact br_t (nI_le (Nat.le_refl _) (by omega)) h) (fun f k _ hk ih h => by
    try dsimp only at ih
    rw [show e - k = (e - (k + 1)) + 1 from by omega] at h
    have hi : vp_in (nI k) 128 := vp_in_nI (by omega) (by omega)
    refine br_f (nI_ge hk (by omega)) ⟨hi, pu_br' (cx_ra (by omega) (hp k hk)) (fun hb => nm_r (nI_1 k) ?_) (fun hb => br_c (fun hx => ?_) (fun hx => nm_r (nI_1 _) (nm_r (nI_1 k) ?_)))⟩
    · rw [pu_s_f hb] at h
      have ih2 := ih h
      rw [pu_n_f hb] at ih2
      exact ih2
    · rw [pu_s_t hb hx] at h
      exact h
    · rw [pu_s_n hb hx] at h
      have ih2 := ih h
      rw [pu_n_t hb] at ih2
      exact ih2)
  exact ⟨f, hf h⟩
end
