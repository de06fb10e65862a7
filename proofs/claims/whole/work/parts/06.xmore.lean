/-! the class: covers, links, height, sizes, dispensable -/
def pu_te (R : Nat → Nat) (n z c o : Nat) : Bool := decide (pu_c R n z o = c)
def pu_z7 (o : Nat) : Nat := pu_z o 7
theorem pu_tet {R : Nat → Nat} {n z c o : Nat} (h : pu_c R n z o = c) : pu_te R n z c o = true := decide_eq_true h
theorem pu_tef {R : Nat → Nat} {n z c o : Nat} (h : ¬ pu_c R n z o = c) : pu_te R n z c o = false := decide_eq_false h
theorem pu_z7_le (o : Nat) : pu_z7 o ≤ 7 := pu_z_le o 7
theorem pu_w_1 {K : Nat → Bool} {c d z : Nat} (h : K z = false) : pu_w K c d z = false := by
  unfold pu_w
  rw [h]
  rfl
theorem pu_w_2 {K : Nat → Bool} {c d z : Nat} (h : pu_q c z = false) : pu_w K c d z = false := by
  unfold pu_w
  rw [h]
  cases K z <;> rfl
theorem pu_w_3 {K : Nat → Bool} {c d z : Nat} (h : pu_q z d = false) : pu_w K c d z = false := by
  unfold pu_w
  rw [h]
  cases K z <;> cases pu_q c z <;> rfl
theorem pu_w_4 {K : Nat → Bool} {c d z : Nat} (h1 : K z = true) (h2 : pu_q c z = true) (h3 : pu_q z d = true) : pu_w K c d z = true := by
  unfold pu_w
  rw [h1, h2, h3]
  rfl
theorem pu_v_1 {K : Nat → Bool} {e c d : Nat} (h : K d = false) : pu_v K e c d = false := by
  unfold pu_v
  rw [h]
  rfl
theorem pu_v_2 {K : Nat → Bool} {e c d : Nat} (h : pu_q c d = false) : pu_v K e c d = false := by
  unfold pu_v
  rw [h]
  cases K d <;> rfl
theorem pu_v_3 {K : Nat → Bool} {e c d : Nat} (h : pu_y (pu_w K c d) e 0 = true) : pu_v K e c d = false := by
  unfold pu_v
  rw [h]
  cases K d <;> cases pu_q c d <;> rfl
theorem pu_v_4 {K : Nat → Bool} {e c d : Nat} (h1 : K d = true) (h2 : pu_q c d = true) (h3 : pu_y (pu_w K c d) e 0 = false) : pu_v K e c d = true := by
  unfold pu_v
  rw [h1, h2, h3]
  rfl
theorem pu_dx_1 {K : Nat → Bool} {a s : Nat} (h : ¬ s &&& 2 ^ a = 0) : pu_dx K a s = false := by
  unfold pu_dx
  rw [decide_eq_false h]
  rfl
theorem pu_dx_2 {K : Nat → Bool} {a s : Nat} (h : K s = false) : pu_dx K a s = false := by
  unfold pu_dx
  rw [h]
  cases decide (s &&& 2 ^ a = 0) <;> rfl
theorem pu_dx_3 {K : Nat → Bool} {a s : Nat} (h : K (s ||| 2 ^ a) = false) : pu_dx K a s = false := by
  unfold pu_dx
  rw [h]
  cases decide (s &&& 2 ^ a = 0) <;> cases K s <;> rfl
theorem pu_dx_4 {K : Nat → Bool} {a s : Nat} (h1 : s &&& 2 ^ a = 0) (h2 : K s = true) (h3 : K (s ||| 2 ^ a) = true) : pu_dx K a s = true := by
  unfold pu_dx
  rw [decide_eq_true h1, h2, h3]
  rfl
section
variable {n m e : Nat} {R : Nat → Nat} {ps lo : Nat → Int32}
theorem cx_between (H : cx_ok n e R) {post : Int32 → Prop} (c d : Nat) (hcd : c < d) (hd : d < e) (h : post (pu_b (pu_y (pu_w (pu_k R n (e - 1)) c d) e 0))) : wpX_hasClosedBetween post (nI n, nI m, nI e, cx_r R, ps, lo) (nI c) (nI d) := by
  obtain ⟨h1, h2, h3, h4⟩ := id H
  unfold wpX_hasClosedBetween
  dsimp only
  refine nm_r (nI_1 c) ?_
  rw [← pu_w_y (show d ≤ e by omega) hcd] at h
  obtain ⟨f, hf⟩ := cx_lp (fun f k => post (pu_b (pu_y (pu_w (pu_k R n (e - 1)) c d) (d - k) k)) → wX_hasClosedBetween_4 post (nI c) (nI d) (nI n) (nI m) (nI e) (cx_r R) ps lo f (nI k)) d (c + 1) hcd (fun f h => by
    rw [Nat.sub_self] at h
    exact br_t (nI_le (Nat.le_refl _) (by omega)) h) (fun f k _ hk ih h => by
    try dsimp only at ih
    rw [show d - k = (d - (k + 1)) + 1 from by omega] at h
    refine br_f (nI_ge hk (by omega)) (cx_isProperPart c k rfl rfl (by omega) (by omega) ?_)
    refine pu_br (fun hb => nm_r (nI_1 k) ?_) (fun hb => cx_isProperPart k d rfl rfl (by omega) (by omega) ?_)
    · rw [pu_y_f (pu_w_2 hb)] at h
      exact ih h
    · refine pu_br (fun hc => nm_r (nI_1 k) ?_) (fun hc => cx_isClosed H k rfl (by omega) ?_)
      · rw [pu_y_f (pu_w_3 hc)] at h
        exact ih h
      · refine pu_br (fun hd => nm_r (nI_1 k) ?_) (fun hd => ?_)
        · rw [pu_y_f (pu_w_1 hd)] at h
          exact ih h
        · rw [pu_y_t (pu_w_4 hd hb hc)] at h
          exact h)
  exact ⟨f, hf h⟩
theorem cx_countCovers (H : cx_ok n e R) {post : Int32 → Prop} (c : Nat) (hc : c < e) (h : post (nI (pu_o (pu_k R n (e - 1)) e c))) : wpX_countCovers post (nI n, nI m, nI e, cx_r R, ps, lo) (nI c) := by
  obtain ⟨h1, h2, h3, h4⟩ := id H
  unfold wpX_countCovers
  dsimp only
  refine nm_r (nI_1 c) ?_
  obtain ⟨f, hf⟩ := cx_lp (fun f k => wX_countCovers_6 post (nI c) (nI n) (nI m) (nI e) (cx_r R) ps lo f (nI (pu_n (pu_v (pu_k R n (e - 1)) e c) k)) (nI k)) e (c + 1) hc (fun f => br_t (nI_le (Nat.le_refl _) (by omega)) h) (fun f k _ hk ih => by
    try dsimp only at ih
    refine br_f (nI_ge hk (by omega)) (cx_isProperPart c k rfl rfl (by omega) (by omega) ?_)
    refine pu_br (fun hb => nm_r (nI_1 k) ?_) (fun hb => cx_isClosed H k rfl (by omega) ?_)
    · rw [pu_n_f (pu_v_2 hb)] at ih
      exact ih
    · refine pu_br (fun hd => nm_r (nI_1 k) ?_) (fun hd => cx_between H c k (pu_q_lt hb) hk ?_)
      · rw [pu_n_f (pu_v_1 hd)] at ih
        exact ih
      · refine pu_br (fun hy => nm_r (nI_1 _) (nm_r (nI_1 k) ?_)) (fun hy => nm_r (nI_1 k) ?_)
        · rw [pu_n_t (pu_v_4 hd hb hy)] at ih
          exact ih
        · rw [pu_n_f (pu_v_3 hy)] at ih
          exact ih)
  try dsimp only at hf
  rw [pu_v_n] at hf
  exact ⟨f, hf⟩
theorem cx_links (H : cx_ok n e R) {post : Int32 → Prop} (h : post (nI (pu_l (pu_k R n (e - 1)) (pu_o (pu_k R n (e - 1)) e) e))) : wpX_links post (nI n, nI m, nI e, cx_r R, ps, lo) := by
  obtain ⟨h1, h2, h3, h4⟩ := id H
  unfold wpX_links
  dsimp only
  refine cx_lp (fun f k => wX_links_4 post (nI n) (nI m) (nI e) (cx_r R) ps lo f (nI (pu_l (pu_k R n (e - 1)) (pu_o (pu_k R n (e - 1)) e) k)) (nI k)) e 0 (Nat.zero_le _) (fun f => ?_) (fun f k _ hk ih => ?_)
  · exact br_t (nI_le (Nat.le_refl _) (by omega)) h
  · try dsimp only at ih
    refine br_f (nI_ge hk (by omega)) (cx_isClosed H k rfl (by omega) ?_)
    refine pu_br (fun hb => nm_r (nI_1 k) ?_) (fun hb => cx_countCovers H k hk (nm_r (nI_add _ _) (nm_r (nI_1 k) ?_)))
    · rw [pu_l_f hb] at ih
      exact ih
    · rw [pu_l_t hb] at ih
      exact ih
theorem cx_below {post : Int32 → Prop} (s : Nat) (hs : s < 128) (T : Nat → Nat) (hT : ∀ j, T j ≤ 128) (hl : ∀ j, j < s → lo j = nI (T j)) (rw' : Nat → Int32) (h : post (nI (pu_m T s s))) : wpX_longestBelow post (nI n, nI m, nI e, rw', ps, lo) (nI s) := by
  unfold wpX_longestBelow
  dsimp only
  refine cx_lp (fun f k => wX_longestBelow_4 post (nI s) (nI n) (nI m) (nI e) rw' ps lo f (nI (pu_m T s k)) (nI k)) s 0 (Nat.zero_le _) (fun f => ?_) (fun f k _ hk ih => ?_)
  · exact br_t (nI_le (Nat.le_refl _) (by omega)) h
  · try dsimp only at ih
    have hi : vp_in (nI k) 128 := vp_in_nI (by omega) (by omega)
    have hb1 := hT k
    have hb2 := pu_m_le (s := s) hT k
    have hr : lo (nI k).toNatClampNeg = nI (T k) := cx_ra (by omega) (hl k hk)
    refine br_f (nI_ge hk (by omega)) (cx_isPart k s rfl rfl (by omega) ?_)
    refine pu_br (fun hb => nm_r (nI_1 k) ?_) (fun hb => ⟨hi, pk_le (T k) (pu_m T s k) (fun hc => nm_r (nI_1 k) ?_) (fun hc => ⟨hi, nm_r (e' := nI (pu_m T s (k + 1))) ?_ (nm_r (nI_1 k) ih)⟩) hr rfl (by omega) (by omega)⟩)
    · rw [pu_m_f hb] at ih
      exact ih
    · rw [pu_m_l hc] at ih
      exact ih
    · rw [hr, pu_m_t hb hc]
theorem cx_height36 {post : Int32 → SX → Prop} {J : Int32 → Int32 → (Nat → Int32) → (Nat → Int32) → (Nat → Int32) → Prop} {K : Nat → Bool} {rw' : Nat → Int32} {z : Int32} (k : Nat) (hk : k < 128) (hz : z = nI (pu_h K (k + 1) k)) (hl : ∀ j, j < k → lo j = nI (pu_h K k j)) (hJ : ∀ lo' : Nat → Int32, (∀ j, j < k + 1 → lo' j = nI (pu_h K (k + 1) j)) → J (nI (pu_g K (k + 1))) (nI (k + 1)) rw' ps lo') : wX_height_36 post J (nI (pu_g K k)) (nI k) z (nI k) (nI n) (nI m) (nI e) rw' ps lo := by
  unfold wX_height_36
  have hi : vp_in (nI k) 128 := vp_in_nI (by omega) (by omega)
  have hb1 := pu_h_le K (k + 1) k
  have hb2 := pu_g_le K k
  have hup := cx_up2 (T' := pu_h K (k + 1)) (by omega) hz (fun j hj => pu_h_n K (by omega)) hl
  have hJ2 := hJ _ hup
  have hr : upd lo (nI k).toNatClampNeg z (nI k).toNatClampNeg = nI (pu_h K (k + 1) k) := cx_ra (by omega) (hup k (by omega))
  refine ⟨hi, nm_e ⟨hi, pk_le (pu_h K (k + 1) k) (pu_g K k) (fun hc => nm_r (nI_1 k) ?_) (fun hc => ⟨hi, nm_r (e' := nI (pu_g K (k + 1))) ?_ (nm_r (nI_1 k) hJ2)⟩) hr rfl (by omega) (by omega)⟩⟩
  · rw [pu_g_f hc] at hJ2
    exact hJ2
  · rw [hr, pu_g_t hc]
theorem cx_height (H : cx_ok n e R) {post : Int32 → SX → Prop} (h : ∀ lo' : Nat → Int32, post (nI (pu_g (pu_k R n (e - 1)) e)) (nI n, nI m, nI e, cx_r R, ps, lo')) : wpX_height post (nI n, nI m, nI e, cx_r R, ps, lo) := by
  obtain ⟨h1, h2, h3, h4⟩ := id H
  unfold wpX_height
  dsimp only
  obtain ⟨f, hf⟩ := cx_lp (fun f k => ∀ lo : Nat → Int32, (∀ j, j < k → lo j = nI (pu_h (pu_k R n (e - 1)) k j)) → wX_height_4 post (nI n) (nI m) (nI e) f (nI (pu_g (pu_k R n (e - 1)) k)) (nI k) (cx_r R) ps lo) e 0 (Nat.zero_le _) (fun f lo hl => br_t (nI_le (Nat.le_refl _) (by omega)) (h lo)) (fun f k _ hk ih lo hl => by
    refine br_f (nI_ge hk (by omega)) (cx_isClosed H k rfl (by omega) ?_)
    refine pu_br (fun hb => cx_height36 k (by omega) ?_ hl ih) (fun hb => cx_below k (by omega) (pu_h (pu_k R n (e - 1)) k) (fun j => Nat.le_trans (pu_h_le _ k j) (by omega)) hl _ (cx_height36 k (by omega) ?_ hl ih))
    · rw [pu_h_f hb]
      rfl
    · rw [pu_h_t hb]
      exact nI_1 _)
  exact ⟨f, hf lo (fun j hj => absurd hj (by omega))⟩
theorem cx_sizeOf {post : Int32 → Prop} (s : Nat) (hs : s < 2 ^ 31) (h : post (nI (pu_z7 s))) : wpX_sizeOf post (nI s) := by
  unfold wpX_sizeOf
  refine cx_lp (fun f k => wX_sizeOf_4 post (nI s) f (nI (pu_z s k)) (nI k)) 7 0 (Nat.zero_le _) (fun f => ?_) (fun f k _ hk ih => ?_)
  · exact br_t (show (7 : Int32) ≤ nI 7 by decide) h
  · refine br_f (nI_ge (b := 7) hk (by decide)) (nm_r (e' := nI (pu_z s (k + 1))) ?_ (nm_r (nI_1 k) ih))
    rw [pu_bitv hs (by omega), nI_add, pu_z_s]
theorem cx_gen (H : cx_ok n e R) {post : Int32 → Prop} (c b : Nat) (hc : c < 2 ^ 31) (hb : b ≤ 7) (h : post (nI (pu_i (pu_te R n (e - 1) c) pu_z7 b e))) : ∃ f, wX_generatorSize_24 post (nI c) (nI n) (nI m) (nI e) (cx_r R) ps lo f (nI b) 0 := by
  obtain ⟨h1, h2, h3, h4⟩ := id H
  refine cx_lp (fun f k => wX_generatorSize_24 post (nI c) (nI n) (nI m) (nI e) (cx_r R) ps lo f (nI (pu_i (pu_te R n (e - 1) c) pu_z7 b k)) (nI k)) e 0 (Nat.zero_le _) (fun f => ?_) (fun f k _ hk ih => ?_)
  · exact br_t (nI_le (Nat.le_refl _) (by omega)) h
  · try dsimp only at ih
    have hz := pu_z7_le k
    have hi := pu_i_le (pu_te R n (e - 1) c) pu_z7 b k
    refine br_f (nI_ge hk (by omega)) (cx_sizeOf k (by omega) ?_)
    refine pk_le (pu_i (pu_te R n (e - 1) c) pu_z7 b k) (pu_z7 k) (fun hl => nm_r (nI_1 k) ?_) (fun hl => cx_closureOf H k rfl (by omega) ?_) rfl rfl (by omega) (by omega)
    · rw [pu_i_l hl] at ih
      exact ih
    · refine pk_eq (pu_c R n (e - 1) k) c (fun hq => nm_r (nI_1 k) ?_) (fun hq => nm_r (nI_1 k) ?_) rfl rfl (cx_k_lt H k) hc
      · rw [pu_i_t hl (pu_tet hq)] at ih
        exact ih
      · rw [pu_i_f (pu_tef hq)] at ih
        exact ih
theorem cx_disp (H : cx_ok n e R) {post : Int32 → Prop} (a : Nat) (ha : a < 7) (h : post (pu_b (!pu_y (pu_dx (pu_k R n (e - 1)) a) e 0))) : ∃ f, wX_dispensable_16 post (nI (2 ^ a)) (nI n) (nI m) (nI e) (cx_r R) ps lo f 0 := by
  obtain ⟨h1, h2, h3, h4⟩ := id H
  obtain ⟨f, hf⟩ := cx_lp (fun f k => post (pu_b (!pu_y (pu_dx (pu_k R n (e - 1)) a) (e - k) k)) → wX_dispensable_16 post (nI (2 ^ a)) (nI n) (nI m) (nI e) (cx_r R) ps lo f (nI k)) e 0 (Nat.zero_le _) (fun f h => by
    rw [Nat.sub_self] at h
    exact br_t (nI_le (Nat.le_refl _) (by omega)) h) (fun f k _ hk ih h => by
    try dsimp only at ih
    rw [show e - k = (e - (k + 1)) + 1 from by omega] at h
    have hp : 2 ^ a < 2 ^ 31 := pu_pw (by omega)
    have hl : k &&& 2 ^ a < 2 ^ 31 := Nat.lt_of_le_of_lt Nat.and_le_right hp
    have ho : k ||| 2 ^ a < 2 ^ 31 := Nat.or_lt_two_pow (by omega) hp
    refine br_f (nI_ge hk (by omega)) (pk_eq (k &&& 2 ^ a) 0 (fun hb => cx_isClosed H k rfl (by omega) ?_) (fun hb => nm_r (nI_1 k) ?_) (nx_and k (2 ^ a)) rfl hl (by omega))
    · refine pu_br (fun hc => nm_r (nI_1 k) ?_) (fun hc => cx_isClosed H (k ||| 2 ^ a) (pu_nor k (2 ^ a)) ho ?_)
      · rw [pu_y_f (pu_dx_2 hc)] at h
        exact ih h
      · refine pu_br (fun hd => nm_r (nI_1 k) ?_) (fun hd => ?_)
        · rw [pu_y_f (pu_dx_3 hd)] at h
          exact ih h
        · rw [pu_y_t (pu_dx_4 hb hc hd)] at h
          exact h
    · rw [pu_y_f (pu_dx_1 hb)] at h
      exact ih h)
  exact ⟨f, hf h⟩
end
