/-! the reference: its helpers and its tables -/
theorem cy_part {post : Int32 → Prop} {u : SY} {x y : Int32} (a b : Nat) (hx : x = nI a) (hy : y = nI b) (ha : a < 2 ^ 31) (h : post (pu_b (pu_p a b))) : wpY_part post u x y := by
  subst hx hy
  obtain ⟨u1, u2, u3, u4, u5, u6, u7, u8⟩ := u
  unfold wpY_part
  dsimp only
  rw [nx_and, nI_eq (Nat.lt_of_le_of_lt Nat.and_le_left ha) ha]
  by_cases h2 : a &&& b = a
  · rw [pu_pt h2] at h
    exact br_t h2 h
  · rw [pu_pf h2] at h
    exact br_f h2 h
theorem cy_proper {post : Int32 → Prop} {u : SY} {x y : Int32} (a b : Nat) (hx : x = nI a) (hy : y = nI b) (ha : a < 2 ^ 31) (hb : b < 2 ^ 31) (h : post (pu_b (pu_q a b))) : wpY_proper post u x y := by
  subst hx hy
  obtain ⟨u1, u2, u3, u4, u5, u6, u7, u8⟩ := u
  unfold wpY_proper
  dsimp only
  refine pk_eq a b (fun h1 => ?_) (fun h1 => cy_part a b rfl rfl ha ?_) rfl rfl ha hb
  · rw [pu_qf h1] at h
    exact h
  · rw [pu_qt h1] at h
    refine pu_br (fun h2 => ?_) (fun h2 => ?_)
    · rw [h2] at h
      exact h
    · rw [h2] at h
      exact h
section
variable {n m e : Nat} {R : Nat → Nat} {cl ps cs ch : Nat → Int32}
theorem cy_havers (H : cx_ok n e R) {post : Int32 → Prop} {x : Int32} (s : Nat) (hx : x = nI s) (hs : s < 2 ^ 31) (h : post (nI (pu_e R s n))) : wpY_havers post (nI n, nI m, nI (e - 1), cx_r R, cl, ps, cs, ch) x := by
  subst hx
  obtain ⟨h1, h2, h3, h4⟩ := id H
  unfold wpY_havers
  dsimp only
  refine cx_lp (fun f k => wY_havers_4 post (nI s) (nI n) (nI m) (nI (e - 1)) (cx_r R) cl ps cs ch f (nI (pu_e R s k)) (nI k)) n 0 (Nat.zero_le _) (fun f => ?_) (fun f k _ hk ih => ?_)
  · exact br_t (nI_le (Nat.le_refl _) (by omega)) h
  · have hi : vp_in (nI k) 8 := vp_in_nI (by omega) (by omega)
    refine br_f (nI_ge hk (by omega)) (br_f (nI_ge (b := 8) (by omega) (by decide)) ⟨hi, cy_part s (R k) rfl (cx_at (by omega)) hs ?_⟩)
    refine pu_br (fun hb => nm_r (nI_1 k) ?_) (fun hb => nm_r (e' := nI (pu_e R s (k + 1))) ?_ (nm_r (nI_1 k) ih))
    · rw [pu_e_f hb] at ih
      exact ih
    · rw [pu_1sh (by omega), pu_nor, pu_e_t hb]
theorem cy_shared (H : cx_ok n e R) {post : Int32 → Prop} {x : Int32} (s : Nat) (hx : x = nI s) (hs : s < 2 ^ 31) (h : post (nI (pu_a R (fun g => s.testBit g) (e - 1) n))) : wpY_shared post (nI n, nI m, nI (e - 1), cx_r R, cl, ps, cs, ch) x := by
  subst hx
  obtain ⟨h1, h2, h3, h4⟩ := id H
  unfold wpY_shared
  dsimp only
  refine cx_lp (fun f k => wY_shared_7 post (nI s) (nI n) (nI m) (nI (e - 1)) (cx_r R) cl ps cs ch f (nI (pu_a R (fun g => s.testBit g) (e - 1) k)) (nI k)) n 0 (Nat.zero_le _) (fun f => ?_) (fun f k _ hk ih => ?_)
  · exact br_t (nI_le (Nat.le_refl _) (by omega)) h
  · have hi : vp_in (nI k) 8 := vp_in_nI (by omega) (by omega)
    have hm : s / 2 ^ k % 2 < 2 := Nat.mod_lt _ (by decide)
    refine br_f (nI_ge hk (by omega)) (br_f (nI_ge (b := 8) (by omega) (by decide)) ?_)
    refine pk_eq (s / 2 ^ k % 2) 1 (fun hb => ⟨hi, nm_r (e' := nI (pu_a R (fun g => s.testBit g) (e - 1) (k + 1))) ?_ (nm_r (nI_1 k) ih)⟩) (fun hb => nm_r (nI_1 k) ?_) (pu_bitv hs (by omega)) rfl (by omega) (by omega)
    · rw [cx_at (by omega), nx_and, pu_gt (pu_bit1.mp hb)]
    · have hb2 : s.testBit k = false := by
        cases hc : s.testBit k
        · rfl
        · exact absurd (pu_bit1.mpr hc) hb
      rw [pu_gf hb2] at ih
      exact ih
theorem cy_closureOf (H : cx_ok n e R) {post : Int32 → Prop} {x : Int32} (s : Nat) (hx : x = nI s) (hs : s < 2 ^ 31) (h : post (nI (pu_c R n (e - 1) s))) : wpY_closureOf post (nI n, nI m, nI (e - 1), cx_r R, cl, ps, cs, ch) x := by
  unfold wpY_closureOf
  dsimp only
  have hb : pu_e R s n < 2 ^ 31 := Nat.lt_of_lt_of_le (pu_e_lt R s n) (pu_ple (k := 31) (Nat.le_trans H.1 (by decide)))
  refine cy_havers H s hx hs (cy_shared H (pu_e R s n) rfl hb ?_)
  rw [pu_c_e]
  exact h
theorem cy_isPseudo {post : Int32 → Prop} {K : Nat → Bool} {C : Nat → Nat} {f1 f2 f3 : Int32} {rw' : Nat → Int32} (s : Nat) (hs : s < 128) (T : Nat → Bool) (hC : ∀ j, C j < 2 ^ 31) (hp : ∀ j, j < s → ps j = pu_b (T j)) (hc : ∀ j, j < s → cs j = nI (C j)) (hk : cl s = pu_b (K s)) (h : post (pu_b (!K s && !pu_y (pu_u T C s) s 0))) : wpY_isPseudo post (f1, f2, f3, rw', cl, ps, cs, ch) (nI s) := by
  unfold wpY_isPseudo
  dsimp only
  refine ⟨vp_in_nI hs (by omega), pu_br' (cx_ra (by omega) hk) (fun hb => ?_) (fun hb => ?_)⟩
  · rw [hb] at h
    obtain ⟨f, hf⟩ := cx_lp (fun f k => post (pu_b (!false && !pu_y (pu_u T C s) (s - k) k)) → wY_isPseudo_13 post (nI s) f1 f2 f3 rw' cl ps cs ch f (nI k)) s 0 (Nat.zero_le _) (fun f h => by
      rw [Nat.sub_self] at h
      exact br_t (nI_le (Nat.le_refl _) (by omega)) h) (fun f k _ hk ih h => by
      try dsimp only at ih
      rw [show s - k = (s - (k + 1)) + 1 from by omega] at h
      have hi : vp_in (nI k) 128 := vp_in_nI (by omega) (by omega)
      refine br_f (nI_ge hk (by omega)) ⟨hi, pu_br' (cx_ra (by omega) (hp k hk)) (fun hb => nm_r (nI_1 k) ?_) (fun hb => cy_proper k s rfl rfl (by omega) (by omega) ?_)⟩
      · rw [pu_y_f (pu_u_1 hb)] at h
        exact ih h
      · rw [pu_q_of hk]
        refine pu_br (fun hc1 => nm_r (nI_1 k) ?_) (fun hc1 => ⟨hi, cy_part (C k) s (cx_ra (by omega) (hc k hk)) rfl (hC k) ?_⟩)
        · rw [pu_y_f (pu_u_2 hc1)] at h
          exact ih h
        · refine pu_br (fun hd => ?_) (fun hd => nm_r (nI_1 k) ?_)
          · rw [pu_y_t (pu_u_4 hb hc1 hd)] at h
            exact h
          · rw [pu_y_f (pu_u_3 hd)] at h
            exact ih h)
    exact ⟨f, hf h⟩
  · rw [hb] at h
    exact h
theorem cy_tab48 {post : SY → Prop} {J : Int32 → (Nat → Int32) → (Nat → Int32) → (Nat → Int32) → (Nat → Int32) → (Nat → Int32) → Prop} {K : Nat → Bool} {C : Nat → Nat} {f1 f2 f3 : Int32} {rw' : Nat → Int32} {z : Int32} (k : Nat) (hk : k < 128) (hz : z = pu_b (K k)) (hC : ∀ j, C j < 2 ^ 31) (hcl : ∀ j, j < k → cl j = pu_b (K j)) (hps : ∀ j, j < k → ps j = pu_b (pu_t K C k j)) (hcs : ∀ j, j < k → cs j = nI (C j)) (hJ : ∀ cl' ps' : Nat → Int32, (∀ j, j < k + 1 → cl' j = pu_b (K j)) → (∀ j, j < k + 1 → ps' j = pu_b (pu_t K C (k + 1) j)) → J (nI (k + 1)) rw' cl' ps' cs ch) : wY_tabulate_48 post J (nI k) z (nI k) f1 f2 f3 rw' cl ps cs ch := by
  subst hz
  unfold wY_tabulate_48
  have hi : vp_in (nI k) 128 := vp_in_nI hk (by omega)
  have h1 := cx_up1 (T' := K) (by omega) (cx_nb (K k)) (fun j _ => rfl) hcl
  refine ⟨hi, nm_e (cy_isPseudo (K := K) (C := C) k hk (pu_t K C k) hC hps hcs (h1 k (by omega)) ⟨hi, nm_e (nm_r (nI_1 k) (hJ _ _ h1 (cx_up1 (by omega) ?_ (fun j hj => pu_t_n K C hj) hps)))⟩)⟩
  rw [pu_t_s]
  exact cx_nb _
theorem cy_tab (H : cx_ok n e R) {post : SY → Prop} (h : ∀ cl' ps' cs' : Nat → Int32, (∀ j, j < e → cl' j = pu_b (pu_k R n (e - 1) j)) → (∀ j, j < e → ps' j = pu_b (pu_t (pu_k R n (e - 1)) (pu_c R n (e - 1)) e j)) → (∀ j, j < e → cs' j = nI (pu_c R n (e - 1) j)) → post (nI n, nI m, nI (e - 1), cx_r R, cl', ps', cs', ch)) : wpY_tabulate post (nI n, nI m, nI (e - 1), cx_r R, cl, ps, cs, ch) := by
  obtain ⟨h1, h2, h3, h4⟩ := id H
  unfold wpY_tabulate
  dsimp only
  obtain ⟨f, hf⟩ := cx_lp (fun f k => ∀ cl ps cs : Nat → Int32, (∀ j, j < k → cl j = pu_b (pu_k R n (e - 1) j)) → (∀ j, j < k → ps j = pu_b (pu_t (pu_k R n (e - 1)) (pu_c R n (e - 1)) k j)) → (∀ j, j < k → cs j = nI (pu_c R n (e - 1) j)) → wY_tabulate_2 post (nI n) (nI m) (nI (e - 1)) f (nI k) (cx_r R) cl ps cs ch) e 0 (Nat.zero_le _) (fun f cl ps cs a b c => br_t (nI_lt (by omega) (by omega)) (h cl ps cs a b c)) (fun f k _ hk ih cl ps cs a b c => by
    have hi : vp_in (nI k) 128 := vp_in_nI (by omega) (by omega)
    have hc2 := cx_up2 (T' := pu_c R n (e - 1)) (v := nI (pu_c R n (e - 1) k)) (by omega) rfl (fun j _ => rfl) c
    have hr : upd cs (nI k).toNatClampNeg (nI (pu_c R n (e - 1) k)) (nI k).toNatClampNeg = nI (pu_c R n (e - 1) k) := cx_ra (by omega) (hc2 k (by omega))
    have ihJ := fun cl' ps' a' b' => ih cl' ps' _ a' b' hc2
    refine br_f (nI_nlt (by omega) (by omega)) (br_f (nI_ge (b := 128) (by omega) (by decide)) (cy_closureOf H k rfl (by omega) ⟨hi, nm_e ⟨hi, pk_eq (pu_c R n (e - 1) k) k (fun hq => ?_) (fun hq => ?_) hr rfl (cx_k_lt H k) (by omega)⟩⟩))
    · exact cy_tab48 (K := pu_k R n (e - 1)) (C := pu_c R n (e - 1)) k (by omega) (by rw [pu_kt hq]; rfl) (cx_k_lt H) a b (fun j hj => hc2 j (by omega)) ihJ
    · exact cy_tab48 (K := pu_k R n (e - 1)) (C := pu_c R n (e - 1)) k (by omega) (by rw [pu_kf hq]; rfl) (cx_k_lt H) a b (fun j hj => hc2 j (by omega)) ihJ)
  exact ⟨f, hf cl ps cs (fun j hj => absurd hj (by omega)) (fun j hj => absurd hj (by omega)) (fun j hj => absurd hj (by omega))⟩
end
