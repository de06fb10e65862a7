/-! what is owed -/
def i_Rel (k : Nat) (u : SX) (v : SY) : Prop := ∃ (n m : Nat) (R : Nat → Nat) (ps lo cl qs cs ch : Nat → Int32), 1 ≤ n ∧ n ≤ 8 ∧ 2 ≤ m ∧ m ≤ 7 ∧ (∀ j, R j < 2 ^ m) ∧ u = (nI n, nI m, nI (2 ^ m), cx_r R, ps, lo) ∧ v = (nI n, nI m, nI (2 ^ m - 1), cx_r R, cl, qs, cs, ch)
theorem cx_rel {k n m : Nat} {R : Nat → Nat} {ps lo cl qs cs ch : Nat → Int32} (h1 : 1 ≤ n) (h2 : n ≤ 8) (h3 : 2 ≤ m) (h4 : m ≤ 7) (hR : ∀ j, R j < 2 ^ m) : i_Rel k (nI n, nI m, nI (2 ^ m), cx_r R, ps, lo) (nI n, nI m, nI (2 ^ m - 1), cx_r R, cl, qs, cs, ch) := ⟨n, m, R, ps, lo, cl, qs, cs, ch, h1, h2, h3, h4, hR, rfl, rfl⟩
theorem cx_ok2 {n m : Nat} {R : Nat → Nat} (h2 : n ≤ 8) (h4 : m ≤ 7) (hR : ∀ j, R j < 2 ^ m) : cx_ok n (2 ^ m) R := ⟨h2, Nat.one_le_two_pow, pu_ple (k := 7) h4, hR⟩
theorem i_up {k : Nat} {u : SX} {v : SY} (h : i_Rel k u v) : i_Rel (k + 4) u v := h
theorem i_vc0 (k0 : Int32) (k1 : Int32) : wpX_init (fun u => wpY_init (fun v => i_Rel 2 u v) k0 k1) k0 k1 := by
  obtain ⟨n, m, h1, h2, h3, h4, hx, hy⟩ := cx_init k0 k1
  exact hx _ (hy _ (cx_rel h1 h2 h3 h4 (fun _ => Nat.two_pow_pos m)))
theorem i_vc_objects {k : Nat} {u : SX} {v : SY} (I : i_Rel k u v) (hk : k + 4 ≤ 2050) : wpX_objects (fun r => wpY_objects (fun r' => r' = r ∧ i_Rel (k + 4) u v) v) u := by
  obtain ⟨n, m, R, ps, lo, cl, qs, cs, ch, h1, h2, h3, h4, hR, rfl, rfl⟩ := I
  have H := cx_ok2 h2 h4 hR
  have h5 : 2 ^ m ≤ 128 := H.2.2.1
  have h6 : 1 ≤ 2 ^ m := H.2.1
  unfold wpX_objects wpY_objects
  dsimp only
  exact ⟨rfl, cx_rel h1 h2 h3 h4 hR⟩
theorem i_vc_attributes {k : Nat} {u : SX} {v : SY} (I : i_Rel k u v) (hk : k + 4 ≤ 2050) : wpX_attributes (fun r => wpY_attributes (fun r' => r' = r ∧ i_Rel (k + 4) u v) v) u := by
  obtain ⟨n, m, R, ps, lo, cl, qs, cs, ch, h1, h2, h3, h4, hR, rfl, rfl⟩ := I
  have H := cx_ok2 h2 h4 hR
  have h5 : 2 ^ m ≤ 128 := H.2.2.1
  have h6 : 1 ≤ 2 ^ m := H.2.1
  unfold wpX_attributes wpY_attributes
  dsimp only
  exact ⟨rfl, cx_rel h1 h2 h3 h4 hR⟩
theorem i_vc_cross {k : Nat} {u : SX} {v : SY} (I : i_Rel k u v) (hk : k + 4 ≤ 2050) (v1 : Int32) (v2 : Int32) (v3 : Int32) : wpX_cross (fun r u' => wpY_cross (fun r' v' => r' = r ∧ i_Rel (k + 4) u' v') v v1 v2 v3) u v1 v2 v3 := by
  obtain ⟨n, m, R, ps, lo, cl, qs, cs, ch, h1, h2, h3, h4, hR, rfl, rfl⟩ := I
  have H := cx_ok2 h2 h4 hR
  have h5 : 2 ^ m ≤ 128 := H.2.2.1
  have h6 : 1 ≤ 2 ^ m := H.2.1
  have hb := cx_Rb H
  rcases cx_ix v1 n with ho | ⟨j, hj, hj2, rfl⟩
  · unfold wpX_cross
    dsimp only
    refine cx_oF ho (br_t rfl ?_)
    unfold wpY_cross
    dsimp only
    exact cy_oF ho (br_f cx_10 ⟨rfl, cx_rel h1 h2 h3 h4 hR⟩)
  · rcases cx_ix v2 m with ha | ⟨a, ha, ha2, rfl⟩
    · unfold wpX_cross
      dsimp only
      refine cx_oT hj (by omega) (br_f cx_10 (cx_aF ha (br_t rfl ?_)))
      unfold wpY_cross
      dsimp only
      exact cy_oT hj h2 (br_t rfl (cy_aF (by omega) ha (br_f cx_10 ⟨rfl, cx_rel h1 h2 h3 h4 hR⟩)))
    · obtain ⟨w, _, hw⟩ := wb_of32 (nI (2 ^ a) ^^^ (-1))
      refine cx_cross h2 h4 hb j a w hj ha hw (cy_cross h2 h4 hb j a w hj ha hw ⟨rfl, ?_⟩)
      exact cx_rel h1 h2 h3 h4 (cx_setb (pu_cr_lt (hR j) ha) hR)
theorem i_vc_row {k : Nat} {u : SX} {v : SY} (I : i_Rel k u v) (hk : k + 4 ≤ 2050) (v1 : Int32) (v2 : Int32) : wpX_row (fun r u' => wpY_row (fun r' v' => r' = r ∧ i_Rel (k + 4) u' v') v v1 v2) u v1 v2 := by
  obtain ⟨n, m, R, ps, lo, cl, qs, cs, ch, h1, h2, h3, h4, hR, rfl, rfl⟩ := I
  have H := cx_ok2 h2 h4 hR
  have h5 : 2 ^ m ≤ 128 := H.2.2.1
  have h6 : 1 ≤ 2 ^ m := H.2.1
  rcases cx_ix v1 n with ho | ⟨j, hj, hj2, rfl⟩
  · unfold wpX_row
    dsimp only
    refine cx_oF ho (br_t rfl ?_)
    unfold wpY_row
    dsimp only
    exact cy_oF ho (br_f cx_10 ⟨rfl, cx_rel h1 h2 h3 h4 hR⟩)
  · have hi : vp_in (nI j) 8 := vp_in_nI (by omega) (by omega)
    rcases cx_ix v2 (2 ^ m) with ha | ⟨s, hs, hs2, rfl⟩
    · unfold wpX_row
      dsimp only
      refine cx_oT hj (by omega) (br_f cx_10 (cx_sF ha (br_t rfl ?_)))
      unfold wpY_row
      dsimp only
      exact cy_oT hj h2 (br_t rfl (cy_sF h6 ha (br_f cx_10 ⟨rfl, cx_rel h1 h2 h3 h4 hR⟩)))
    · unfold wpX_row
      dsimp only
      refine cx_oT hj (by omega) (br_f cx_10 (cx_sT hs (by omega) (br_f cx_10 ⟨hi, nm_e ⟨hi, nm_r (cx_set (v := s) (by omega) rfl) ?_⟩⟩)))
      unfold wpY_row
      dsimp only
      exact cy_oT hj h2 (br_t rfl (cy_sT hs (by omega) (br_t rfl ⟨hi, nm_e ⟨hi, nm_r (cx_set (v := s) (by omega) rfl) ⟨rfl, cx_rel h1 h2 h3 h4 (cx_setb hs hR)⟩⟩⟩)))
theorem i_vc_rowOf {k : Nat} {u : SX} {v : SY} (I : i_Rel k u v) (hk : k + 4 ≤ 2050) (v1 : Int32) : wpX_rowOf (fun r => wpY_rowOf (fun r' => r' = r ∧ i_Rel (k + 4) u v) v v1) u v1 := by
  obtain ⟨n, m, R, ps, lo, cl, qs, cs, ch, h1, h2, h3, h4, hR, rfl, rfl⟩ := I
  have H := cx_ok2 h2 h4 hR
  have h5 : 2 ^ m ≤ 128 := H.2.2.1
  have h6 : 1 ≤ 2 ^ m := H.2.1
  rcases cx_ix v1 n with ho | ⟨j, hj, hj2, rfl⟩
  · unfold wpX_rowOf
    dsimp only
    refine cx_oF ho (br_t rfl ?_)
    unfold wpY_rowOf
    dsimp only
    exact cy_oF ho (br_f cx_10 ⟨rfl, cx_rel h1 h2 h3 h4 hR⟩)
  · have hi : vp_in (nI j) 8 := vp_in_nI (by omega) (by omega)
    unfold wpX_rowOf
    dsimp only
    refine cx_oT hj (by omega) (br_f cx_10 ⟨hi, ?_⟩)
    unfold wpY_rowOf
    dsimp only
    exact cy_oT hj h2 (br_t rfl ⟨hi, rfl, cx_rel h1 h2 h3 h4 hR⟩)
theorem i_vc_extent {k : Nat} {u : SX} {v : SY} (I : i_Rel k u v) (hk : k + 4 ≤ 2050) (v1 : Int32) : wpX_extent (fun r => wpY_extent (fun r' => r' = r ∧ i_Rel (k + 4) u v) v v1) u v1 := by
  obtain ⟨n, m, R, ps, lo, cl, qs, cs, ch, h1, h2, h3, h4, hR, rfl, rfl⟩ := I
  have H := cx_ok2 h2 h4 hR
  have h5 : 2 ^ m ≤ 128 := H.2.2.1
  have h6 : 1 ≤ 2 ^ m := H.2.1
  rcases cx_ix v1 (2 ^ m) with ho | ⟨s, hs, hs2, rfl⟩
  · unfold wpX_extent
    dsimp only
    refine cx_sF ho (br_t rfl ?_)
    unfold wpY_extent
    dsimp only
    exact cy_sF h6 ho (br_f cx_10 ⟨rfl, cx_rel h1 h2 h3 h4 hR⟩)
  · unfold wpX_extent
    dsimp only
    refine cx_sT hs (by omega) (br_f cx_10 (cx_extent H s hs2 ?_))
    unfold wpY_extent
    dsimp only
    refine cy_sT hs (by omega) (br_t rfl ?_)
    exact cy_havers H s rfl hs2 ⟨rfl, cx_rel h1 h2 h3 h4 hR⟩
theorem i_vc_intent {k : Nat} {u : SX} {v : SY} (I : i_Rel k u v) (hk : k + 4 ≤ 2050) (v1 : Int32) : wpX_intent (fun r => wpY_intent (fun r' => r' = r ∧ i_Rel (k + 4) u v) v v1) u v1 := by
  obtain ⟨n, m, R, ps, lo, cl, qs, cs, ch, h1, h2, h3, h4, hR, rfl, rfl⟩ := I
  have H := cx_ok2 h2 h4 hR
  have h5 : 2 ^ m ≤ 128 := H.2.2.1
  have h6 : 1 ≤ 2 ^ m := H.2.1
  have hn : 2 ^ n < 2 ^ 31 := pu_pw (by omega)
  rcases cx_ix v1 (2 ^ n) with ho | ⟨s, hs, hs2, rfl⟩
  · unfold wpX_intent
    dsimp only
    rw [pu_1sh (by omega)]
    refine cx_b1 hn ho ?_
    unfold wpY_intent
    dsimp only
    rw [pu_1sh (by omega)]
    exact cx_b1 hn ho ⟨rfl, cx_rel h1 h2 h3 h4 hR⟩
  · unfold wpX_intent
    dsimp only
    rw [pu_1sh (by omega)]
    refine cx_g1 hs hn (nm_r (pk_sub (b := 1) h6) (cx_intent H s hs2 ?_))
    unfold wpY_intent
    dsimp only
    rw [pu_1sh (by omega)]
    exact cx_g1 hs hn (cy_shared H s rfl hs2 ⟨rfl, cx_rel h1 h2 h3 h4 hR⟩)
theorem i_vc_closure {k : Nat} {u : SX} {v : SY} (I : i_Rel k u v) (hk : k + 4 ≤ 2050) (v1 : Int32) : wpX_closure (fun r => wpY_closure (fun r' => r' = r ∧ i_Rel (k + 4) u v) v v1) u v1 := by
  obtain ⟨n, m, R, ps, lo, cl, qs, cs, ch, h1, h2, h3, h4, hR, rfl, rfl⟩ := I
  have H := cx_ok2 h2 h4 hR
  have h5 : 2 ^ m ≤ 128 := H.2.2.1
  have h6 : 1 ≤ 2 ^ m := H.2.1
  rcases cx_ix v1 (2 ^ m) with ho | ⟨s, hs, hs2, rfl⟩
  · unfold wpX_closure
    dsimp only
    refine cx_sF ho (br_t rfl ?_)
    unfold wpY_closure
    dsimp only
    exact cy_sF h6 ho (br_f cx_10 ⟨rfl, cx_rel h1 h2 h3 h4 hR⟩)
  · unfold wpX_closure
    dsimp only
    refine cx_sT hs (by omega) (br_f cx_10 (cx_closureOf H s rfl hs2 ?_))
    unfold wpY_closure
    dsimp only
    refine cy_sT hs (by omega) (br_t rfl ?_)
    exact cy_closureOf H s rfl hs2 ⟨rfl, cx_rel h1 h2 h3 h4 hR⟩
theorem i_vc_closedSets {k : Nat} {u : SX} {v : SY} (I : i_Rel k u v) (hk : k + 4 ≤ 2050) : wpX_closedSets (fun r => wpY_closedSets (fun r' v' => r' = r ∧ i_Rel (k + 4) u v') v) u := by
  obtain ⟨n, m, R, ps, lo, cl, qs, cs, ch, h1, h2, h3, h4, hR, rfl, rfl⟩ := I
  have H := cx_ok2 h2 h4 hR
  have h5 : 2 ^ m ≤ 128 := H.2.2.1
  have h6 : 1 ≤ 2 ^ m := H.2.1
  refine cx_closedSets H ?_
  unfold wpY_closedSets
  dsimp only
  refine cy_tab H (fun cl' ps' cs' a b c => ?_)
  dsimp only
  exact cy_closedSets8 h6 h5 a ⟨rfl, cx_rel h1 h2 h3 h4 hR⟩
theorem i_vc_closedSet {k : Nat} {u : SX} {v : SY} (I : i_Rel k u v) (hk : k + 4 ≤ 2050) (v1 : Int32) : wpX_closedSet (fun r => wpY_closedSet (fun r' v' => r' = r ∧ i_Rel (k + 4) u v') v v1) u v1 := by
  obtain ⟨n, m, R, ps, lo, cl, qs, cs, ch, h1, h2, h3, h4, hR, rfl, rfl⟩ := I
  have H := cx_ok2 h2 h4 hR
  have h5 : 2 ^ m ≤ 128 := H.2.2.1
  have h6 : 1 ≤ 2 ^ m := H.2.1
  refine cx_closedSet H v1 ?_
  unfold wpY_closedSet
  dsimp only
  refine cy_tab H (fun cl' ps' cs' a b c => ?_)
  dsimp only
  exact cy_closedSet8 h6 h5 a v1 ⟨rfl, cx_rel h1 h2 h3 h4 hR⟩
theorem i_vc_nextClosed {k : Nat} {u : SX} {v : SY} (I : i_Rel k u v) (hk : k + 4 ≤ 2050) (v1 : Int32) : wpX_nextClosed (fun r => wpY_nextClosed (fun r' v' => r' = r ∧ i_Rel (k + 4) u v') v v1) u v1 := by
  obtain ⟨n, m, R, ps, lo, cl, qs, cs, ch, h1, h2, h3, h4, hR, rfl, rfl⟩ := I
  have H := cx_ok2 h2 h4 hR
  have h5 : 2 ^ m ≤ 128 := H.2.2.1
  have h6 : 1 ≤ 2 ^ m := H.2.1
  refine cx_nextClosed H v1 ?_
  unfold wpY_nextClosed
  dsimp only
  refine cy_tab H (fun cl' ps' cs' a b c => ?_)
  dsimp only
  exact cy_next6 h6 h5 a v1 ⟨rfl, cx_rel h1 h2 h3 h4 hR⟩
theorem i_vc_follows {k : Nat} {u : SX} {v : SY} (I : i_Rel k u v) (hk : k + 4 ≤ 2050) (v1 : Int32) (v2 : Int32) : wpX_follows (fun r => wpY_follows (fun r' => r' = r ∧ i_Rel (k + 4) u v) v v1 v2) u v1 v2 := by
  obtain ⟨n, m, R, ps, lo, cl, qs, cs, ch, h1, h2, h3, h4, hR, rfl, rfl⟩ := I
  have H := cx_ok2 h2 h4 hR
  have h5 : 2 ^ m ≤ 128 := H.2.2.1
  have h6 : 1 ≤ 2 ^ m := H.2.1
  rcases cx_ix v1 (2 ^ m) with ho | ⟨p, hp, hp2, rfl⟩
  · unfold wpX_follows
    dsimp only
    refine cx_sF ho (br_t rfl ?_)
    unfold wpY_follows
    dsimp only
    exact cy_sF h6 ho (br_f cx_10 ⟨rfl, cx_rel h1 h2 h3 h4 hR⟩)
  · rcases cx_ix v2 (2 ^ m) with ho | ⟨q, hq, hq2, rfl⟩
    · unfold wpX_follows
      dsimp only
      refine cx_sT hp (by omega) (br_f cx_10 (cx_sF ho (br_t rfl ?_)))
      unfold wpY_follows
      dsimp only
      exact cy_sT hp (by omega) (br_t rfl (cy_sF h6 ho (br_f cx_10 ⟨rfl, cx_rel h1 h2 h3 h4 hR⟩)))
    · refine cx_follows H p q hp hq ?_
      unfold wpY_follows
      dsimp only
      refine cy_sT hp (by omega) (br_t rfl (cy_sT hq (by omega) (br_t rfl (cy_follows20 h2 p q hp2 hq2 ⟨?_, cx_rel h1 h2 h3 h4 hR⟩))))
      rw [pu_f_eq hq]
theorem i_vc_rules {k : Nat} {u : SX} {v : SY} (I : i_Rel k u v) (hk : k + 4 ≤ 2050) : wpX_rules (fun r u' => wpY_rules (fun r' v' => r' = r ∧ i_Rel (k + 4) u' v') v) u := by
  obtain ⟨n, m, R, ps, lo, cl, qs, cs, ch, h1, h2, h3, h4, hR, rfl, rfl⟩ := I
  have H := cx_ok2 h2 h4 hR
  have h5 : 2 ^ m ≤ 128 := H.2.2.1
  have h6 : 1 ≤ 2 ^ m := H.2.1
  unfold wpX_rules
  dsimp only
  refine cx_mark H (fun ps1 hp => ?_)
  dsimp only
  refine cx_rules8 h5 hp _ ?_
  unfold wpY_rules
  dsimp only
  refine cy_tab H (fun cl' ps' cs' a b c => ?_)
  dsimp only
  exact cy_rules8 h6 h5 b ⟨rfl, cx_rel h1 h2 h3 h4 hR⟩
theorem i_vc_rule {k : Nat} {u : SX} {v : SY} (I : i_Rel k u v) (hk : k + 4 ≤ 2050) (v1 : Int32) : wpX_rule (fun r u' => wpY_rule (fun r' v' => r' = r ∧ i_Rel (k + 4) u' v') v v1) u v1 := by
  obtain ⟨n, m, R, ps, lo, cl, qs, cs, ch, h1, h2, h3, h4, hR, rfl, rfl⟩ := I
  have H := cx_ok2 h2 h4 hR
  have h5 : 2 ^ m ≤ 128 := H.2.2.1
  have h6 : 1 ≤ 2 ^ m := H.2.1
  unfold wpX_rule
  dsimp only
  refine cx_mark H (fun ps1 hp => ?_)
  dsimp only
  refine cx_rule8 h5 hp _ v1 ?_
  unfold wpY_rule
  dsimp only
  refine cy_tab H (fun cl' ps' cs' a b c => ?_)
  dsimp only
  exact cy_rule8 h6 h5 b v1 ⟨rfl, cx_rel h1 h2 h3 h4 hR⟩
theorem i_vc_covers {k : Nat} {u : SX} {v : SY} (I : i_Rel k u v) (hk : k + 4 ≤ 2050) (v1 : Int32) : wpX_covers (fun r => wpY_covers (fun r' v' => r' = r ∧ i_Rel (k + 4) u v') v v1) u v1 := by
  obtain ⟨n, m, R, ps, lo, cl, qs, cs, ch, h1, h2, h3, h4, hR, rfl, rfl⟩ := I
  have H := cx_ok2 h2 h4 hR
  have h5 : 2 ^ m ≤ 128 := H.2.2.1
  have h6 : 1 ≤ 2 ^ m := H.2.1
  rcases cx_ix v1 (2 ^ m) with ho | ⟨s, hs, hs2, rfl⟩
  · unfold wpX_covers
    dsimp only
    refine cx_sF ho (br_t rfl ?_)
    unfold wpY_covers
    dsimp only
    exact cy_sF h6 ho (br_f cx_10 ⟨rfl, cx_rel h1 h2 h3 h4 hR⟩)
  · unfold wpX_covers
    dsimp only
    refine cx_sT hs (by omega) (br_f cx_10 (cx_closureOf H s rfl hs2 (cx_countCovers H (pu_c R n (2 ^ m - 1) s) (cx_c_lt H s) ?_)))
    unfold wpY_covers
    dsimp only
    refine cy_sT hs (by omega) (br_t rfl ?_)
    refine cy_tab H (fun cl' ps' cs' a b c => ?_)
    dsimp only
    exact ⟨vp_in_nI (by omega) (by omega), cy_over h6 h5 a (pu_c R n (2 ^ m - 1) s) (cx_ra hs2 (c s hs)) (cx_k_lt H s) ⟨rfl, cx_rel h1 h2 h3 h4 hR⟩⟩
theorem i_vc_links {k : Nat} {u : SX} {v : SY} (I : i_Rel k u v) (hk : k + 4 ≤ 2050) : wpX_links (fun r => wpY_links (fun r' v' => r' = r ∧ i_Rel (k + 4) u v') v) u := by
  obtain ⟨n, m, R, ps, lo, cl, qs, cs, ch, h1, h2, h3, h4, hR, rfl, rfl⟩ := I
  have H := cx_ok2 h2 h4 hR
  have h5 : 2 ^ m ≤ 128 := H.2.2.1
  have h6 : 1 ≤ 2 ^ m := H.2.1
  refine cx_links H ?_
  unfold wpY_links
  dsimp only
  refine cy_tab H (fun cl' ps' cs' a b c => ?_)
  dsimp only
  exact cy_links8 h6 h5 a ⟨rfl, cx_rel h1 h2 h3 h4 hR⟩
theorem i_vc_height {k : Nat} {u : SX} {v : SY} (I : i_Rel k u v) (hk : k + 4 ≤ 2050) : wpX_height (fun r u' => wpY_height (fun r' v' => r' = r ∧ i_Rel (k + 4) u' v') v) u := by
  obtain ⟨n, m, R, ps, lo, cl, qs, cs, ch, h1, h2, h3, h4, hR, rfl, rfl⟩ := I
  have H := cx_ok2 h2 h4 hR
  have h5 : 2 ^ m ≤ 128 := H.2.2.1
  have h6 : 1 ≤ 2 ^ m := H.2.1
  refine cx_height H (fun lo1 => ?_)
  unfold wpY_height
  dsimp only
  refine cy_tab H (fun cl' ps' cs' a b c => ?_)
  dsimp only
  exact cy_height8 h6 h5 a (fun ch1 => ⟨rfl, cx_rel h1 h2 h3 h4 hR⟩)
theorem i_vc_generatorSize {k : Nat} {u : SX} {v : SY} (I : i_Rel k u v) (hk : k + 4 ≤ 2050) (v1 : Int32) : wpX_generatorSize (fun r => wpY_generatorSize (fun r' v' => r' = r ∧ i_Rel (k + 4) u v') v v1) u v1 := by
  obtain ⟨n, m, R, ps, lo, cl, qs, cs, ch, h1, h2, h3, h4, hR, rfl, rfl⟩ := I
  have H := cx_ok2 h2 h4 hR
  have h5 : 2 ^ m ≤ 128 := H.2.2.1
  have h6 : 1 ≤ 2 ^ m := H.2.1
  rcases cx_ix v1 (2 ^ m) with ho | ⟨s, hs, hs2, rfl⟩
  · unfold wpX_generatorSize
    dsimp only
    refine cx_sF ho (br_t rfl ?_)
    unfold wpY_generatorSize
    dsimp only
    exact cy_sF h6 ho (br_f cx_10 ⟨rfl, cx_rel h1 h2 h3 h4 hR⟩)
  · unfold wpX_generatorSize
    dsimp only
    refine cx_sT hs (by omega) (br_f cx_10 (cx_closureOf H s rfl hs2 (cx_gen H (pu_c R n (2 ^ m - 1) s) m (cx_k_lt H s) h4 ?_)))
    unfold wpY_generatorSize
    dsimp only
    refine cy_sT hs (by omega) (br_t rfl ?_)
    refine cy_tab H (fun cl' ps' cs' a b c => ?_)
    dsimp only
    refine cy_gen19 H c s hs ⟨?_, cx_rel h1 h2 h3 h4 hR⟩
    rw [pu_i_eq (b := 7) (b' := m) hs (pu_tet rfl) (pu_z7_le s) (pu_z_m m (by omega) s hs)]
theorem i_vc_dispensable {k : Nat} {u : SX} {v : SY} (I : i_Rel k u v) (hk : k + 4 ≤ 2050) (v1 : Int32) : wpX_dispensable (fun r => wpY_dispensable (fun r' v' => r' = r ∧ i_Rel (k + 4) u v') v v1) u v1 := by
  obtain ⟨n, m, R, ps, lo, cl, qs, cs, ch, h1, h2, h3, h4, hR, rfl, rfl⟩ := I
  have H := cx_ok2 h2 h4 hR
  have h5 : 2 ^ m ≤ 128 := H.2.2.1
  have h6 : 1 ≤ 2 ^ m := H.2.1
  rcases cx_ix v1 m with ho | ⟨a, ha, ha2, rfl⟩
  · unfold wpX_dispensable
    dsimp only
    refine cx_aF ho (br_t rfl ?_)
    unfold wpY_dispensable
    dsimp only
    exact cy_aF (by omega) ho (br_f cx_10 ⟨rfl, cx_rel h1 h2 h3 h4 hR⟩)
  · unfold wpX_dispensable
    dsimp only
    refine cx_aT ha (by omega) (br_f cx_10 (nm_r (pu_1sh (by omega)) (cx_disp H a (by omega) ?_)))
    unfold wpY_dispensable
    dsimp only
    refine cy_aT ha (by omega) (br_t rfl (cy_tab H (fun cl1 ps1 cs1 b1 b2 b3 => ?_)))
    dsimp only
    refine cy_disp16 h4 b1 a ha ⟨?_, cx_rel h1 h2 h3 h4 hR⟩
    rw [pu_d_eq ha h4]
