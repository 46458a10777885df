/-- the same held simplices on both sides, with every simplex all its faces; the worksheets are free -/
def i_Rel (_ : Nat) (u : SX) (v : SY) : Prop := ∃ a b m, u = (a, b) ∧ v = (a, m) ∧ cd_Cl a
theorem i_up {k : Nat} {u : SX} {v : SY} (h : i_Rel k u v) : i_Rel (k + 3) u v := h
theorem i_vc0 : wpX_init (fun u => wpY_init (fun v => i_Rel 0 u v)) := ⟨_, _, _, rfl, rfl, fun s t _ _ _ h => absurd rfl h⟩
theorem co_rel {k : Nat} {a b m : Nat → Int32} (C : cd_Cl a) : i_Rel k (a, b) (a, m) := ⟨a, b, m, rfl, rfl, C⟩
theorem i_vc_add {k : Nat} {u : SX} {v : SY} (I : i_Rel k u v) (hk : k + 3 ≤ 1536) (v1 : Int32) : wpX_add (fun r u' => wpY_add (fun r' v' => r' = r ∧ i_Rel (k + 3) u' v') v v1) u v1 := by
  obtain ⟨a, b, m, rfl, rfl, C⟩ := I
  unfold wpX_add
  dsimp only
  by_cases h0 : v1 < 0
  · have h1 : v1 < 1 := Int32.lt_trans h0 (by decide)
    refine br_t h1 (br_t rfl ?_)
    unfold wpY_add
    dsimp only
    exact br_t h1 ⟨rfl, co_rel C⟩
  · obtain ⟨S, hS, rfl⟩ := nI_of h0
    refine pk_lt S 1 (fun z => br_t rfl ?_) (fun z => pk_le 32 S (fun w => br_t rfl ?_) (fun w => br_f cw_10 ?_))
    · unfold wpY_add
      dsimp only
      exact pk_lt S 1 (fun _ => ⟨rfl, co_rel C⟩) (fun q => by omega)
    · unfold wpY_add
      dsimp only
      exact pk_lt S 1 (fun q => by omega) (fun _ => pk_le S 31 (fun q => by omega) (fun _ => ⟨rfl, co_rel C⟩))
    · obtain ⟨r', a', C', hX, hY⟩ := co_add b m (S := S) a C 31 1 a 0 (by omega) (by omega) (fun s => ⟨fun z => Or.inl z, fun z => z.elim id (fun w => by omega)⟩)
      refine ⟨32, hX _ ?_⟩
      unfold wpY_add
      dsimp only
      exact pk_lt S 1 (fun q => by omega) (fun _ => pk_le S 31 (fun _ => ⟨32, hY _ ⟨rfl, co_rel C'⟩⟩) (fun q => by omega))
theorem i_vc_remove {k : Nat} {u : SX} {v : SY} (I : i_Rel k u v) (hk : k + 3 ≤ 1536) (v1 : Int32) : wpX_remove (fun r u' => wpY_remove (fun r' v' => r' = r ∧ i_Rel (k + 3) u' v') v v1) u v1 := by
  obtain ⟨a, b, m, rfl, rfl, C⟩ := I
  unfold wpX_remove
  dsimp only
  by_cases h0 : v1 < 0
  · have h1 : v1 < 1 := Int32.lt_trans h0 (by decide)
    refine br_t h1 (br_t rfl ?_)
    unfold wpY_remove
    dsimp only
    exact br_t h1 ⟨rfl, co_rel C⟩
  · obtain ⟨S, hS, rfl⟩ := nI_of h0
    refine pk_lt S 1 (fun z => br_t rfl ?_) (fun z => pk_le 32 S (fun w => br_t rfl ?_) (fun w => br_f cw_10 ?_))
    · unfold wpY_remove
      dsimp only
      exact pk_lt S 1 (fun _ => ⟨rfl, co_rel C⟩) (fun q => by omega)
    · unfold wpY_remove
      dsimp only
      exact pk_lt S 1 (fun q => by omega) (fun _ => pk_le S 31 (fun q => by omega) (fun _ => ⟨rfl, co_rel C⟩))
    · obtain ⟨r', a', C', hX, hY⟩ := co_rem b m (S := S) w a C 31 1 a 0 (by omega) (by omega) (fun s => ⟨fun z => ⟨z, fun w => by omega⟩, fun z => z.1⟩)
      refine ⟨32, hX _ ?_⟩
      unfold wpY_remove
      dsimp only
      exact pk_lt S 1 (fun q => by omega) (fun _ => pk_le S 31 (fun _ => ⟨32, hY _ ⟨rfl, co_rel C'⟩⟩) (fun q => by omega))
theorem i_vc_count {k : Nat} {u : SX} {v : SY} (I : i_Rel k u v) (hk : k + 3 ≤ 1536) (v1 : Int32) : wpX_count (fun r => wpY_count (fun r' => r' = r ∧ i_Rel (k + 3) u v) v v1) u v1 := by
  obtain ⟨a, b, m, rfl, rfl, C⟩ := I
  unfold wpX_count
  dsimp only
  rcases cw_dim v1 with hv | ⟨j, hj, rfl⟩
  · refine cw_xd_f hv (br_t rfl ?_)
    unfold wpY_count
    dsimp only
    exact cy_bad_f hv (br_f cw_10 ⟨rfl, co_rel C⟩)
  · exact cw_xd_t hj (br_f cw_10 (cw_hod a b (by omega) (cy_ct a m hj ⟨rfl, co_rel C⟩)))
theorem i_vc_simplex {k : Nat} {u : SX} {v : SY} (I : i_Rel k u v) (hk : k + 3 ≤ 1536) (v1 : Int32) (v2 : Int32) : wpX_simplex (fun r => wpY_simplex (fun r' => r' = r ∧ i_Rel (k + 3) u v) v v1 v2) u v1 v2 := by
  obtain ⟨a, b, m, rfl, rfl, C⟩ := I
  unfold wpX_simplex
  dsimp only
  rcases cw_dim v1 with hv | ⟨j, hj, rfl⟩
  · refine cw_xd_f hv (br_t rfl ?_)
    unfold wpY_simplex
    dsimp only
    exact cy_bad_f hv (br_f cw_10 ⟨rfl, co_rel C⟩)
  · refine cw_xd_t hj (br_f cw_10 ?_)
    by_cases h2 : v2 < 0
    · have z := cw_xsn (post := fun r => wpY_simplex (fun r' => r' = r ∧ i_Rel (k + 3) (a, b) (a, m)) (a, m) (nI j) v2) a b hj h2 (by
        unfold wpY_simplex
        dsimp only
        exact cy_bad_t hj (br_t rfl (br_f (Int32.not_le.mpr h2) ⟨rfl, co_rel C⟩))) 32 1 (by omega) (by omega)
      rw [cd_nb_1] at z
      exact ⟨32, z⟩
    · obtain ⟨i, hi, rfl⟩ := nI_of h2
      have z := cw_xsi (post := fun r => wpY_simplex (fun r' => r' = r ∧ i_Rel (k + 3) (a, b) (a, m)) (a, m) (nI j) (nI i)) a b hj hi (fun q => cy_si a m hj hi (fun _ => ⟨rfl, co_rel C⟩) (fun w => by omega)) (fun q => cy_si a m hj hi (fun w => by omega) (fun _ => ⟨rfl, co_rel C⟩)) 32 1 (by omega) (by omega) (by rw [cd_nb_1]; omega)
      rw [cd_nb_1] at z
      exact ⟨32, z⟩
theorem i_vc_boundary {k : Nat} {u : SX} {v : SY} (I : i_Rel k u v) (hk : k + 3 ≤ 1536) (v1 : Int32) (v2 : Int32) : wpX_boundary (fun r u' => wpY_boundary (fun r' => r' = r ∧ i_Rel (k + 3) u' v) v v1 v2) u v1 v2 := by
  obtain ⟨a, b, m, rfl, rfl, C⟩ := I
  unfold wpX_boundary
  dsimp only
  rcases cw_chain a b m v1 v2 with ⟨j, c, hj, hc, rfl, rfl⟩ | ⟨hX, hY⟩
  · have hp := cd_p10 a (by omega : j < 6)
    refine cw_xch a b hj hc (br_f cw_10 ?_)
    refine cw_lb a b (by omega) (fun b' hb => ?_)
    dsimp only
    refine pk_le (2 ^ cd_nb a j 32) c (fun z => by omega) (fun _ => ⟨vp_in_nI (by omega) (by omega), ?_⟩)
    rw [nI_clamp (by omega : c < 2 ^ 31), hb c hc]
    unfold wpY_boundary
    dsimp only
    exact cy_nc a m hj hc (br_t rfl (cy_bo a m C (by omega) (by omega) ⟨rfl, co_rel C⟩))
  · refine hX _ (br_t rfl ?_)
    unfold wpY_boundary
    dsimp only
    exact hY _ (br_f cw_10 ⟨rfl, co_rel C⟩)
theorem i_vc_holes {k : Nat} {u : SX} {v : SY} (I : i_Rel k u v) (hk : k + 3 ≤ 1536) (v1 : Int32) : wpX_holes (fun r u' => wpY_holes (fun r' v' => r' = r ∧ i_Rel (k + 3) u' v') v v1) u v1 := by
  obtain ⟨a, b, m, rfl, rfl, C⟩ := I
  rcases cw_dim v1 with hv | ⟨j, hj, rfl⟩
  · unfold wpX_holes
    dsimp only
    refine cw_xd_f hv (br_t rfl ?_)
    unfold wpY_holes
    dsimp only
    exact cy_bad_f hv (br_f cw_10 ⟨rfl, co_rel C⟩)
  · obtain ⟨z, z', g1, g2, g3, g4, g5, g6⟩ := cd_holes C j
    exact cw_xholes a b C hj g1 g2 g3 g4 g6 (fun b' => cy_ho a m C hj g1 g3 g5 g6 (fun m' => ⟨rfl, co_rel C⟩))
theorem i_vc_filled {k : Nat} {u : SX} {v : SY} (I : i_Rel k u v) (hk : k + 3 ≤ 1536) (v1 : Int32) (v2 : Int32) : wpX_filled (fun r u' => wpY_filled (fun r' v' => r' = r ∧ i_Rel (k + 3) u' v') v v1 v2) u v1 v2 := by
  obtain ⟨a, b, m, rfl, rfl, C⟩ := I
  unfold wpX_filled
  dsimp only
  rcases cw_chain a b m v1 v2 with ⟨j, c, hj, hc, rfl, rfl⟩ | ⟨hX, hY⟩
  · have hp := cd_p10 a (by omega : j < 6)
    refine cw_xch a b hj hc (br_f cw_10 ?_)
    rcases cd_find (cd_Bd a (j + 1) 32) c (2 ^ cd_nb a (j + 1) 32) with ⟨e, he, h1, h2⟩ | hn
    · refine cw_lf_t a b C hj (by omega) he h1 h2 (fun b' => ?_)
      have hp2 := cd_p10 a (by omega : j + 1 < 6)
      dsimp only
      refine br_f (nI_pos (by omega)) ?_
      unfold wpY_filled
      dsimp only
      refine cy_nc a m hj hc (br_t rfl ?_)
      refine cy_mk a m C hj (fun m' hm => ?_)
      dsimp only
      refine ⟨vp_in_nI (by omega) (by omega), ?_⟩
      rw [nI_clamp (by omega : c < 2 ^ 31)]
      have hh := (cd_hs_iff (cd_Bd a (j + 1) 32) c (2 ^ cd_nb a (j + 1) 32)).mpr ⟨e, he, h1⟩
      refine br_f (fun z => ?_) ⟨rfl, co_rel C⟩
      have := (hm c hc).mp z
      rw [hh] at this
      exact absurd this (by decide)
    · refine cw_lf_f a b C hj (by omega) hn (fun b' => ?_)
      dsimp only
      refine br_t (by decide) ?_
      unfold wpY_filled
      dsimp only
      refine cy_nc a m hj hc (br_t rfl ?_)
      refine cy_mk a m C hj (fun m' hm => ?_)
      dsimp only
      refine ⟨vp_in_nI (by omega) (by omega), ?_⟩
      rw [nI_clamp (by omega : c < 2 ^ 31)]
      refine br_t ((hm c hc).mpr ?_) ⟨rfl, co_rel C⟩
      cases w : cd_hs (cd_Bd a (j + 1) 32) c (2 ^ cd_nb a (j + 1) 32)
      · rfl
      · rw [cd_hs_iff] at w
        obtain ⟨d, hd, q⟩ := w
        exact absurd q (hn d hd)
  · refine hX _ (br_t rfl ?_)
    unfold wpY_filled
    dsimp only
    exact hY _ (br_f cw_10 ⟨rfl, co_rel C⟩)
theorem i_vc_filling {k : Nat} {u : SX} {v : SY} (I : i_Rel k u v) (hk : k + 3 ≤ 1536) (v1 : Int32) (v2 : Int32) : wpX_filling (fun r u' => wpY_filling (fun r' => r' = r ∧ i_Rel (k + 3) u' v) v v1 v2) u v1 v2 := by
  obtain ⟨a, b, m, rfl, rfl, C⟩ := I
  unfold wpX_filling
  dsimp only
  rcases cw_chain a b m v1 v2 with ⟨j, c, hj, hc, rfl, rfl⟩ | ⟨hX, hY⟩
  · have hp := cd_p10 a (by omega : j < 6)
    refine cw_xch a b hj hc (br_f cw_10 ?_)
    rcases cd_find (cd_Bd a (j + 1) 32) c (2 ^ cd_nb a (j + 1) 32) with ⟨e, he, h1, h2⟩ | hn
    · refine cw_lf_t a b C hj (by omega) he h1 h2 (fun b' => ?_)
      dsimp only
      unfold wpY_filling
      dsimp only
      refine cy_nc a m hj hc (br_t rfl ?_)
      rw [nI_1 j]
      refine cy_ch a m (by omega) ?_
      exact ⟨2 ^ cd_nb a (j + 1) 32 + 1, cy_fi_t a m C hj (by omega) he h1 h2 ⟨rfl, co_rel C⟩ _ 0 (by omega) (Nat.zero_le _)⟩
    · refine cw_lf_f a b C hj (by omega) hn (fun b' => ?_)
      dsimp only
      unfold wpY_filling
      dsimp only
      refine cy_nc a m hj hc (br_t rfl ?_)
      rw [nI_1 j]
      refine cy_ch a m (by omega) ?_
      exact ⟨2 ^ cd_nb a (j + 1) 32 + 1, cy_fi_f a m C hj (by omega) hn ⟨rfl, co_rel C⟩ _ 0 (by omega) (Nat.zero_le _)⟩
  · refine hX _ (br_t rfl ?_)
    unfold wpY_filling
    dsimp only
    exact hY _ (br_f cw_10 ⟨rfl, co_rel C⟩)
theorem i_vc_least {k : Nat} {u : SX} {v : SY} (I : i_Rel k u v) (hk : k + 3 ≤ 1536) (v1 : Int32) (v2 : Int32) : wpX_least (fun r u' => wpY_least (fun r' v' => r' = r ∧ i_Rel (k + 3) u' v') v v1 v2) u v1 v2 := by
  obtain ⟨a, b, m, rfl, rfl, C⟩ := I
  rcases cw_chain a b m v1 v2 with ⟨j, c, hj, hc, rfl, rfl⟩ | ⟨hX, hY⟩
  · have hp := cd_p10 a (by omega : j < 6)
    refine cw_xle a b C hj hc (fun b' => ?_)
    have hl := (cd_lv_le (cd_Bd a (j + 1) 32) c (2 ^ cd_nb a (j + 1) 32)).1
    have hs := cd_lv_spec (cd_Bd a (j + 1) 32) c (2 ^ cd_nb a (j + 1) 32) (Nat.two_pow_pos _) (cd_Bd_z a (j + 1) 32)
    generalize cd_lv (cd_Bd a (j + 1) 32) c (2 ^ cd_nb a (j + 1) 32) = L at hl hs ⊢
    unfold wpY_least
    dsimp only
    refine cy_nc a m hj hc (br_t rfl ?_)
    refine cy_mk a m C hj (fun m' hm => ?_)
    dsimp only
    refine cy_ch a m' (by omega) ?_
    refine ⟨2 ^ cd_nb a j 32 + 1, cy_le26 a m' hp (by omega) (by omega) (fun z => ?_) (fun d hd => ?_) ⟨rfl, co_rel C⟩ _ 0 (by omega) (Nat.zero_le _)⟩
    · have := (hm _ (Nat.xor_lt_two_pow (by omega) hc)).mp z
      rw [hs.1] at this
      exact absurd this (by decide)
    · exact (hm _ (Nat.xor_lt_two_pow (by omega) hc)).mpr (hs.2 d hd)
  · unfold wpX_least
    dsimp only
    refine hX _ (br_t rfl ?_)
    unfold wpY_least
    dsimp only
    exact hY _ (br_f cw_10 ⟨rfl, co_rel C⟩)
theorem i_vc_alternating {k : Nat} {u : SX} {v : SY} (I : i_Rel k u v) (hk : k + 3 ≤ 1536) : wpX_alternating (fun r => wpY_alternating (fun r' => r' = r ∧ i_Rel (k + 3) u v) v) u := by
  obtain ⟨a, b, m, rfl, rfl, C⟩ := I
  refine ⟨6, cx_al a b ?_⟩
  have z := cy_al (post := fun r' => r' = cd_al a 32 ∧ i_Rel (k + 3) (a, b) (a, m)) a m ⟨rfl, co_rel C⟩ 32 1 (by omega) (by omega) (by omega)
  have e : cd_al a 1 = 0 := by
    unfold cd_al
    rw [cd_nb_1, cd_nb_1, cd_nb_1, cd_nb_1, cd_nb_1]
    decide
  rw [e] at z
  exact ⟨32, z⟩
