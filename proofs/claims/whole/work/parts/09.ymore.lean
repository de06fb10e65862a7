/-! the reference: height, sizes, dispensable -/
theorem pu_r_0f {K : Nat → Bool} {d : Nat} (h : K d = false) : (0 : Int32) = nI (pu_r K d 0) := by
  rw [pu_r_f h]
  rfl
theorem pu_r_0t {K : Nat → Bool} {d : Nat} (h : K d = true) : (1 : Int32) = nI (pu_r K d 0) := by
  rw [pu_r_t h]
  rfl
theorem cy_up3 {ch : Nat → Int32} {T : Nat → Nat} {d a : Nat} {v : Int32} (hd : d < 2 ^ 31) (hv : v = nI a) (hp : ∀ j, j < d → ch j = nI (T j)) : (∀ j, j < d → upd ch (nI d).toNatClampNeg v j = nI (T j)) ∧ upd ch (nI d).toNatClampNeg v d = nI a := by
  rw [nI_clamp hd]
  constructor
  · intro j hj
    rw [pk_un (by omega), hp j hj]
  · rw [pk_us, hv]
section
variable {n m e : Nat} {R : Nat → Nat} {rw' cl ps cs ch : Nat → Int32}
theorem cy_height45 {post : Int32 → SY → Prop} {J : Int32 → Int32 → (Nat → Int32) → (Nat → Int32) → (Nat → Int32) → (Nat → Int32) → (Nat → Int32) → Prop} {K : Nat → Bool} (he : e ≤ 128) (hp : ∀ j, j < e → cl j = pu_b (K j)) (d : Nat) (hd : d < e) (hJ : ∀ ch' : Nat → Int32, (∀ j, j < d + 1 → ch' j = nI (pu_h K (d + 1) j)) → J (nI (pu_g K (d + 1))) (nI (d + 1)) rw' cl ps cs ch') (hc : ∀ j, j < d → ch j = nI (pu_h K d j)) (hcd : ch d = nI (pu_r K d 0)) : ∃ f, wY_height_45 post J (nI (pu_g K d)) (nI d) (nI n) (nI m) (nI (e - 1)) f 0 rw' cl ps cs ch := by
  have hid : vp_in (nI d) 128 := vp_in_nI (by omega) (by omega)
  have hg := pu_g_le K d
  obtain ⟨f, hf⟩ := cx_lp (fun f k => ∀ ch : Nat → Int32, (∀ j, j < d → ch j = nI (pu_h K d j)) → ch d = nI (pu_r K d k) → wY_height_45 post J (nI (pu_g K d)) (nI d) (nI n) (nI m) (nI (e - 1)) f (nI k) rw' cl ps cs ch) d 0 (Nat.zero_le _) (fun f ch hc hcd => by
    have hb1 := pu_h_le K (d + 1) d
    rw [pu_r_e] at hcd
    have hr : ch (nI d).toNatClampNeg = nI (pu_h K (d + 1) d) := cx_ra (by omega) hcd
    have hJ2 := hJ ch (fun j hj => by
      by_cases hjd : j = d
      · subst hjd
        exact hcd
      · rw [pu_h_n K hjd]
        exact hc j (by omega))
    refine br_t (nI_le (Nat.le_refl _) (by omega)) ⟨hid, pk_le (pu_h K (d + 1) d) (pu_g K d) (fun hl => nm_r (nI_1 d) ?_) (fun hl => ⟨hid, nm_r (e' := nI (pu_g K (d + 1))) ?_ (nm_r (nI_1 d) hJ2)⟩) hr rfl (by omega) (by omega)⟩
    · rw [pu_g_f hl] at hJ2
      exact hJ2
    · rw [hr, pu_g_t hl]) (fun f k _ hk ih ch hc hcd => by
    have hi : vp_in (nI k) 128 := vp_in_nI (by omega) (by omega)
    have hb1 := pu_h_le K d k
    have hb2 := pu_r_le K d k
    have hrk : ch (nI k).toNatClampNeg + 1 = nI (pu_h K d k + 1) := by
      rw [cx_ra (by omega) (hc k hk)]
      exact nI_1 _
    have hrd : ch (nI d).toNatClampNeg = nI (pu_r K d k) := cx_ra (by omega) hcd
    refine br_f (nI_ge hk (by omega)) ⟨hid, pu_br' (cx_ra (by omega) (hp d hd)) (fun hb => nm_r (nI_1 k) (ih ch hc ?_)) (fun hb => ⟨hi, pu_br' (cx_ra (by omega) (hp k (by omega))) (fun hk0 => nm_r (nI_1 k) (ih ch hc ?_)) (fun hk0 => cy_proper k d rfl rfl (by omega) (by omega) ?_)⟩)⟩
    · rw [hcd, pu_r_f hb, pu_r_f hb]
    · rw [hcd, pu_r_t hb, pu_r_t hb, pu_m_l]
      rw [pu_h_0 K hk0]
      exact Nat.zero_le _
    · rw [pu_q_of hk]
      refine pu_br (fun hq => nm_r (nI_1 k) (ih ch hc ?_)) (fun hq => ⟨hi, hid, pk_le (pu_h K d k + 1) (pu_r K d k) (fun hl => nm_r (nI_1 k) (ih ch hc ?_)) (fun hl => ⟨hi, hid, ?_⟩) hrk hrd (by omega) (by omega)⟩)
      · rw [hcd, pu_r_t hb, pu_r_t hb, pu_m_f hq]
      · rw [pu_r_t hb] at hl
        rw [hcd, pu_r_t hb, pu_r_t hb, pu_m_l (by omega)]
      · have hu := cy_up3 (T := pu_h K d) (d := d) (a := pu_h K d k + 1) (by omega) hrk hc
        refine nm_e (nm_r (nI_1 k) (ih _ hu.1 ?_))
        rw [pu_r_t hb] at hl
        rw [hu.2, pu_r_t hb, pu_m_t hq (by omega)])
  exact ⟨f, hf ch hc hcd⟩
theorem cy_height8 {post : Int32 → SY → Prop} {K : Nat → Bool} (h2 : 1 ≤ e) (he : e ≤ 128) (hp : ∀ j, j < e → cl j = pu_b (K j)) (h : ∀ ch' : Nat → Int32, post (nI (pu_g K e)) (nI n, nI m, nI (e - 1), rw', cl, ps, cs, ch')) : ∃ f, wY_height_8 post (nI n) (nI m) (nI (e - 1)) f 0 0 rw' cl ps cs ch := by
  obtain ⟨f, hf⟩ := cx_lp (fun f k => ∀ ch : Nat → Int32, (∀ j, j < k → ch j = nI (pu_h K k j)) → wY_height_8 post (nI n) (nI m) (nI (e - 1)) f (nI (pu_g K k)) (nI k) rw' cl ps cs ch) e 0 (Nat.zero_le _) (fun f ch hc => br_t (nI_lt (by omega) (by omega)) (h ch)) (fun f k _ hk ih ch hc => by
    have hi : vp_in (nI k) 128 := vp_in_nI (by omega) (by omega)
    refine br_f (nI_nlt (by omega) (by omega)) (br_f (nI_ge (b := 128) (by omega) (by decide)) ⟨hi, pu_br' (cx_ra (by omega) (hp k hk)) (fun hb => ⟨hi, nm_e ?_⟩) (fun hb => ⟨hi, nm_e ?_⟩)⟩)
    · have hu := cy_up3 (T := pu_h K k) (d := k) (by omega) (pu_r_0f hb) hc
      exact cy_height45 he hp k hk ih hu.1 hu.2
    · have hu := cy_up3 (T := pu_h K k) (d := k) (by omega) (pu_r_0t hb) hc
      exact cy_height45 he hp k hk ih hu.1 hu.2)
  exact ⟨f, hf ch (fun j hj => absurd hj (by omega))⟩
theorem cy_size {post : Int32 → Prop} {u : SY} (s : Nat) (hs : s < 2 ^ 31) (h : post (nI (pu_z7 s))) : wpY_size post u (nI s) := by
  obtain ⟨u1, u2, u3, u4, u5, u6, u7, u8⟩ := u
  unfold wpY_size
  dsimp only
  refine cx_lp (fun f k => wY_size_4 post (nI s) u1 u2 u3 u4 u5 u6 u7 u8 f (nI (pu_z s k)) (nI k)) 7 0 (Nat.zero_le _) (fun f => ?_) (fun f k _ hk ih => ?_)
  · exact br_t (show (7 : Int32) ≤ nI 7 by decide) h
  · refine br_f (nI_ge (b := 7) hk (by decide)) (nm_r (e' := nI (pu_z s (k + 1))) ?_ (nm_r (nI_1 k) ih))
    rw [pu_bitv hs (by omega), nI_add, pu_z_s]
theorem cy_gen19 {post : Int32 → SY → Prop} (H : cx_ok n e R) (hp : ∀ j, j < e → cs j = nI (pu_c R n (e - 1) j)) (s : Nat) (hs : s < e) (h : post (nI (pu_i (pu_te R n (e - 1) (pu_c R n (e - 1) s)) pu_z7 7 e)) (nI n, nI m, nI (e - 1), rw', cl, ps, cs, ch)) : ∃ f, wY_generatorSize_19 post (nI s) (nI n) (nI m) (nI (e - 1)) rw' cl ps cs ch f 7 0 := by
  obtain ⟨h1, h2, h3, h4⟩ := id H
  refine cx_lp (fun f k => wY_generatorSize_19 post (nI s) (nI n) (nI m) (nI (e - 1)) rw' cl ps cs ch f (nI (pu_i (pu_te R n (e - 1) (pu_c R n (e - 1) s)) pu_z7 7 k)) (nI k)) e 0 (Nat.zero_le _) (fun f => ?_) (fun f k _ hk ih => ?_)
  · exact br_t (nI_lt (by omega) (by omega)) h
  · try dsimp only at ih
    have hi : vp_in (nI k) 128 := vp_in_nI (by omega) (by omega)
    have his : vp_in (nI s) 128 := vp_in_nI (by omega) (by omega)
    have hz := pu_z7_le k
    have hb := pu_i_le (pu_te R n (e - 1) (pu_c R n (e - 1) s)) pu_z7 7 k
    refine br_f (nI_nlt (by omega) (by omega)) ⟨hi, his, pk_eq (pu_c R n (e - 1) k) (pu_c R n (e - 1) s) (fun hq => cy_size k (by omega) ?_) (fun hq => nm_r (nI_1 k) ?_) (cx_ra (by omega) (hp k hk)) (cx_ra (by omega) (hp s hs)) (cx_k_lt H k) (cx_k_lt H s)⟩
    · refine pk_le (pu_i (pu_te R n (e - 1) (pu_c R n (e - 1) s)) pu_z7 7 k) (pu_z7 k) (fun hl => nm_r (nI_1 k) ?_) (fun hl => cy_size k (by omega) (nm_r (nI_1 k) ?_)) rfl rfl (by omega) (by omega)
      · rw [pu_i_l hl] at ih
        exact ih
      · rw [pu_i_t hl (pu_tet hq)] at ih
        exact ih
    · rw [pu_i_f (pu_tef hq)] at ih
      exact ih
theorem pu_dy_1 {K : Nat → Bool} {a s : Nat} (h : K s = false) : pu_dy K a s = false := by
  unfold pu_dy
  rw [h]
  rfl
theorem pu_dy_2 {K : Nat → Bool} {a s : Nat} (h : K (s ^^^ 2 ^ a) = false) : pu_dy K a s = false := by
  unfold pu_dy
  rw [h]
  cases K s <;> rfl
theorem pu_dy_3 {K : Nat → Bool} {a s : Nat} (h1 : K s = true) (h2 : K (s ^^^ 2 ^ a) = true) : pu_dy K a s = true := by
  unfold pu_dy
  rw [h1, h2]
  rfl
theorem cy_disp16 {post : Int32 → SY → Prop} {K : Nat → Bool} (hm : m ≤ 7) (hp : ∀ j, j < 2 ^ m → cl j = pu_b (K j)) (a : Nat) (ha : a < m) (h : post (pu_b (!pu_y (pu_dy K a) (2 ^ m) 0)) (nI n, nI m, nI (2 ^ m - 1), rw', cl, ps, cs, ch)) : ∃ f, wY_dispensable_16 post (nI a) (nI n) (nI m) (nI (2 ^ m - 1)) rw' cl ps cs ch f 0 := by
  have he : 2 ^ m ≤ 128 := pu_ple (k := 7) hm
  have h2 : 1 ≤ 2 ^ m := Nat.one_le_two_pow
  have hpa : 2 ^ a < 2 ^ m := pu_pw ha
  obtain ⟨f, hf⟩ := cx_lp (fun f k => post (pu_b (!pu_y (pu_dy K a) (2 ^ m - k) k)) (nI n, nI m, nI (2 ^ m - 1), rw', cl, ps, cs, ch) → wY_dispensable_16 post (nI a) (nI n) (nI m) (nI (2 ^ m - 1)) rw' cl ps cs ch f (nI k)) (2 ^ m) 0 (Nat.zero_le _) (fun f h => by
    rw [Nat.sub_self] at h
    exact br_t (nI_lt (by omega) (by omega)) h) (fun f k _ hk ih h => by
    try dsimp only at ih
    rw [show 2 ^ m - k = (2 ^ m - (k + 1)) + 1 from by omega] at h
    have hi : vp_in (nI k) 128 := vp_in_nI (by omega) (by omega)
    have hx : k ^^^ 2 ^ a < 2 ^ m := Nat.xor_lt_two_pow hk hpa
    have hxe : nI k ^^^ ((1 : Int32) <<< (nI a &&& 31)) = nI (k ^^^ 2 ^ a) := by rw [pu_1sh (by omega), nx_xor]
    have hr : cl (nI k ^^^ ((1 : Int32) <<< (nI a &&& 31))).toNatClampNeg = pu_b (K (k ^^^ 2 ^ a)) := by
      rw [hxe]
      exact cx_ra (by omega) (hp _ hx)
    refine br_f (nI_nlt (by omega) (by omega)) ⟨hi, pu_br' (cx_ra (by omega) (hp k hk)) (fun hb => nm_r (nI_1 k) ?_) (fun hb => ⟨pk_in (k ^^^ 2 ^ a) 128 (by omega) hxe (by omega), pu_br' hr (fun hc => nm_r (nI_1 k) ?_) (fun hc => ?_)⟩)⟩
    · rw [pu_y_f (pu_dy_1 hb)] at h
      exact ih h
    · rw [pu_y_f (pu_dy_2 hc)] at h
      exact ih h
    · rw [pu_y_t (pu_dy_3 hb hc)] at h
      exact h)
  exact ⟨f, hf h⟩
end
