/-! the reference's walks -/
theorem cy_bad_t {post : Int32 → Prop} {k : Nat} (hk : k ≤ 4) (h : post 0) : wpY_bad post (nI k) := pk_lt k 0 (fun z => by omega) (fun _ => pk_le k 4 (fun _ => h) (fun z => by omega))
theorem cy_bad_f {post : Int32 → Prop} {v : Int32} (hv : v < 0 ∨ (¬ v < 0 ∧ 4 < v)) (h : post 1) : wpY_bad post v := by
  rcases hv with hv | ⟨h1, h2⟩
  · exact br_t hv h
  · exact br_f h1 (br_f (Int32.not_le.mpr h2) h)
theorem cy_pt4 {post : Int32 → Prop} {s : Nat} (hs : s < 32) (h : post (nI (cd_dm s))) : ∀ n x, 5 < n + x → x ≤ 5 → wY_points_4 post (nI s) n (nI (cd_ds s x)) (nI x) := by
  intro n
  induction n with
  | zero => intro x h1 h2; omega
  | succ n ih =>
    intro x h1 h2
    refine pk_le 5 x (fun h5 => ?_) (fun h5 => ?_)
    · have hx : x = 5 := by omega
      subst hx
      rw [cd_ds5]
      exact h
    · refine nm_r (e' := nI (cd_ds s (x + 1))) ?_ (nm_r (nI_1 x) (ih (x + 1) (by omega) (by omega)))
      rw [ca_bit (by omega : s < 2 ^ 31) (by omega : x < 31), nI_add]
      rfl
theorem cy_pt {post : Int32 → Prop} {s : Nat} (hs : s < 32) (h : post (nI (cd_dm s))) : wpY_points post (nI s) := ⟨6, cy_pt4 hs h 6 0 (by omega) (by omega)⟩
theorem cy_ct13 {post : Int32 → Prop} (a m : Nat → Int32) {k : Nat} (hk : k < 6) (h : post (nI (cd_nb a k 32))) : ∀ n t, 32 < n + t → 1 ≤ t → t ≤ 32 → wY_count_13 post (nI k) a m n (nI (cd_nb a k t)) (nI t) := by
  intro n
  induction n with
  | zero => intro t h1 h2 h3; omega
  | succ n ih =>
    intro t h1 h2 h3
    refine pk_le 32 t (fun q => ?_) (fun q => ?_)
    · have e : t = 32 := by omega
      subst e
      exact h
    · refine ⟨vp_in_nI q (by omega), ?_⟩
      rw [nI_clamp (by omega : t < 2 ^ 31)]
      have hd5 := cd_dm5 t
      refine br_c (fun e => nm_r (nI_1 t) ?_) (fun e => ?_)
      · rw [← cd_nb_f (cd_hd_no e)]
        exact ih (t + 1) (by omega) (by omega) (by omega)
      · refine cy_pt q ?_
        refine pk_eq (cd_dm t) (k + 1) (fun z => ?_) (fun z => ?_) rfl (nI_1 k) (by omega) (by omega)
        · have e2 : cd_hd a k t = true := cd_hd_iff.mpr ⟨h2, q, e, z⟩
          exact nm_r (e' := nI (cd_nb a k (t + 1))) (by rw [nI_1, cd_nb_t e2]) (nm_r (nI_1 t) (ih (t + 1) (by omega) (by omega) (by omega)))
        · refine nm_r (nI_1 t) ?_
          rw [← cd_nb_f (cd_hd_nk rfl z)]
          exact ih (t + 1) (by omega) (by omega) (by omega)
theorem cy_ct {post : Int32 → Prop} (a m : Nat → Int32) {k : Nat} (hk : k ≤ 4) (h : post (nI (cd_nb a k 32))) : wpY_count post (a, m) (nI k) := by
  have z := cy_ct13 a m (by omega : k < 6) h 32 1 (by omega) (by omega) (by omega)
  rw [cd_nb_1] at z
  unfold wpY_count
  dsimp only
  exact cy_bad_t hk (br_t rfl ⟨32, z⟩)
theorem cy_si18 {post : Int32 → Prop} (a m : Nat → Int32) {k i : Nat} (hk : k ≤ 4) (hi : i < 2 ^ 31) (ht : i < cd_nb a k 32 → post (nI (cd_sx a k i 32))) (hf : cd_nb a k 32 ≤ i → post (-1)) : ∀ n t, 32 < n + t → 1 ≤ t → t ≤ 32 → cd_nb a k t ≤ i → wY_simplex_18 post (nI k) (nI i) a m n (nI (cd_nb a k t)) (nI t) := by
  intro n
  induction n with
  | zero => intro t h1 h2 h3; omega
  | succ n ih =>
    intro t h1 h2 h3 h4
    refine pk_le 32 t (fun q => ?_) (fun q => ?_)
    · have e : t = 32 := by omega
      subst e
      exact hf h4
    · refine ⟨vp_in_nI q (by omega), ?_⟩
      rw [nI_clamp (by omega : t < 2 ^ 31)]
      have hd5 := cd_dm5 t
      refine br_c (fun e => nm_r (nI_1 t) ?_) (fun e => ?_)
      · rw [← cd_nb_f (cd_hd_no e)]
        exact ih (t + 1) (by omega) (by omega) (by omega) (by rw [cd_nb_f (cd_hd_no e)]; exact h4)
      · refine cy_pt q ?_
        refine pk_eq (cd_dm t) (k + 1) (fun z => ?_) (fun z => ?_) rfl (nI_1 k) (by omega) (by omega)
        · have e2 : cd_hd a k t = true := cd_hd_iff.mpr ⟨h2, q, e, z⟩
          refine pk_eq (cd_nb a k t) i (fun w => ?_) (fun w => ?_) rfl rfl (by omega) hi
          · have h5 := cd_nb_lt e2 q
            have h6 := ht (by omega)
            rw [← w, cd_sx_eq e2 q] at h6
            exact h6
          · refine nm_r (e' := nI (cd_nb a k (t + 1))) (by rw [nI_1, cd_nb_t e2]) (nm_r (nI_1 t) (ih (t + 1) (by omega) (by omega) (by omega) ?_))
            rw [cd_nb_t e2]
            omega
        · refine nm_r (nI_1 t) ?_
          rw [← cd_nb_f (cd_hd_nk rfl z)]
          exact ih (t + 1) (by omega) (by omega) (by omega) (by rw [cd_nb_f (cd_hd_nk rfl z)]; exact h4)
theorem cy_si {post : Int32 → Prop} (a m : Nat → Int32) {k i : Nat} (hk : k ≤ 4) (hi : i < 2 ^ 31) (ht : i < cd_nb a k 32 → post (nI (cd_sx a k i 32))) (hf : cd_nb a k 32 ≤ i → post (-1)) : wpY_simplex post (a, m) (nI k) (nI i) := by
  have z := cy_si18 a m hk hi ht hf 32 1 (by omega) (by omega) (by omega) (by rw [cd_nb_1]; omega)
  rw [cd_nb_1] at z
  unfold wpY_simplex
  dsimp only
  exact cy_bad_t hk (br_t rfl (br_t (nI_pos' hi) ⟨32, z⟩))
theorem cy_ch {post : Int32 → Prop} (a m : Nat → Int32) {k : Nat} (hk : k < 6) (h : post (nI (2 ^ cd_nb a k 32))) : wpY_chains post (a, m) (nI k) := by
  unfold wpY_chains
  dsimp only
  rcases Nat.lt_or_ge k 5 with q | q
  · have h10 := cd_nb_10 a hk
    refine cy_bad_t (by omega) (br_t rfl ?_)
    refine cy_ct a m (by omega) ?_
    rw [ca_1shl (by omega : cd_nb a k 32 < 31)]
    exact h
  · have e : k = 5 := by omega
    subst e
    refine cy_bad_f (Or.inr ⟨by decide, by decide⟩) (br_f cw_10 ?_)
    rw [cd_nb_5] at h
    exact h
theorem cy_nc {post : Int32 → Prop} (a m : Nat → Int32) {k c : Nat} (hk : k ≤ 4) (hc : c < 2 ^ cd_nb a k 32) (h : post 0) : wpY_noChain post (a, m) (nI k) (nI c) := by
  have hp := cd_p10 a (by omega : k < 6)
  unfold wpY_noChain
  dsimp only
  refine cy_bad_t hk (br_t rfl ?_)
  refine pk_lt c 0 (fun z => by omega) (fun _ => ?_)
  refine cy_ch a m (by omega) ?_
  exact pk_lt c (2 ^ cd_nb a k 32) (fun _ => h) (fun z => by omega)
/-- either both calls name a chain, or both sides refuse -/
theorem cw_chain (a b m : Nat → Int32) (v1 v2 : Int32) : (∃ k c, k ≤ 4 ∧ c < 2 ^ cd_nb a k 32 ∧ v1 = nI k ∧ v2 = nI c) ∨ ((∀ post : Int32 → Prop, post 0 → wpX_isChain post (a, b) v1 v2) ∧ (∀ post : Int32 → Prop, post 1 → wpY_noChain post (a, m) v1 v2)) := by
  rcases cw_dim v1 with hv | ⟨k, hk, rfl⟩
  · refine Or.inr ⟨fun post h => ?_, fun post h => ?_⟩
    · unfold wpX_isChain
      dsimp only
      exact cw_xd_f hv (br_t rfl h)
    · unfold wpY_noChain
      dsimp only
      exact cy_bad_f hv (br_f cw_10 h)
  · by_cases h2 : v2 < 0
    · refine Or.inr ⟨fun post h => ?_, fun post h => ?_⟩
      · unfold wpX_isChain
        dsimp only
        exact cw_xd_t hk (br_f cw_10 (br_t h2 h))
      · unfold wpY_noChain
        dsimp only
        exact cy_bad_t hk (br_t rfl (br_t h2 h))
    · obtain ⟨c, hc, rfl⟩ := nI_of h2
      have h10 := cd_nb_10 a (by omega : k < 6)
      have hp := cd_p10 a (by omega : k < 6)
      rcases Nat.lt_or_ge c (2 ^ cd_nb a k 32) with q | q
      · exact Or.inl ⟨k, c, hk, q, rfl, rfl⟩
      · refine Or.inr ⟨fun post h => ?_, fun post h => ?_⟩
        · unfold wpX_isChain
          dsimp only
          refine cw_xd_t hk (br_f cw_10 (br_f h2 ?_))
          refine cw_hod a b (by omega) ?_
          rw [ca_1shl (by omega : cd_nb a k 32 < 31)]
          exact pk_le (2 ^ cd_nb a k 32) c (fun _ => h) (fun z => by omega)
        · unfold wpY_noChain
          dsimp only
          refine cy_bad_t hk (br_t rfl (br_f h2 ?_))
          refine cy_ch a m (by omega) ?_
          exact pk_lt c (2 ^ cd_nb a k 32) (fun z => by omega) (fun _ => h)
theorem cy_od13 {post : Int32 → Prop} (a m : Nat → Int32) {k c f : Nat} (hk : k ≤ 4) (hc : c < 2 ^ 31) (hf : f < 2 ^ 31) (ht : cd_cn (cd_op a k c f) (cd_nb a k 32) % 2 = 1 → post 1) (hn : ¬ cd_cn (cd_op a k c f) (cd_nb a k 32) % 2 = 1 → post 0) : ∀ n i, cd_nb a k 32 < n + i → i ≤ cd_nb a k 32 → wY_odd_13 post (nI k) (nI c) (nI f) (nI (cd_nb a k 32)) a m n (nI (cd_cn (cd_op a k c f) i)) (nI i) := by
  have h10 := cd_nb_10 a (by omega : k < 6)
  intro n
  induction n with
  | zero => intro i h1 h2; omega
  | succ n ih =>
    intro i h1 h2
    have hcn := cd_cn_n (cd_op a k c f) i
    refine pk_le (cd_nb a k 32) i (fun q => ?_) (fun q => ?_)
    · have e : i = cd_nb a k 32 := by omega
      rw [e] at hcn ⊢
      refine ⟨by decide, ?_⟩
      exact pk_eq (cd_cn (cd_op a k c f) (cd_nb a k 32) % 2) 1 ht hn (pk_rem (d := 2) (by omega) (by omega) (by omega)) rfl (by omega) (by omega)
    · refine cy_si a m hk (by omega) (fun _ => ?_) (fun z => by omega)
      have hskip : cd_op a k c f i = false → cd_cn (cd_op a k c f) i = cd_cn (cd_op a k c f) (i + 1) := by
        intro z
        rw [cd_cn_s, z, if_neg (by decide), Nat.add_zero]
      refine br_c (fun z => ?_) (fun z => ?_)
      · rw [ca_tb hc (by omega : i < 31)] at z
        refine br_c (fun w => ?_) (fun w => ?_)
        · rw [ca_and _ _ hf] at w
          refine nm_r (e' := nI (cd_cn (cd_op a k c f) (i + 1))) ?_ (nm_r (nI_1 i) (ih (i + 1) (by omega) (by omega)))
          have e : cd_op a k c f i = true := by
            unfold cd_op
            rw [z, decide_eq_true w]
            rfl
          rw [nI_1, cd_cn_s, e, if_pos rfl]
        · rw [ca_and _ _ hf] at w
          refine nm_r (nI_1 i) ?_
          rw [hskip (by unfold cd_op; rw [decide_eq_false w, Bool.and_false])]
          exact ih (i + 1) (by omega) (by omega)
      · rw [ca_tb hc (by omega : i < 31)] at z
        refine nm_r (nI_1 i) ?_
        rw [hskip (by unfold cd_op; rw [eq_false_of_ne_true z, Bool.false_and])]
        exact ih (i + 1) (by omega) (by omega)
theorem cy_od {post : Int32 → Prop} (a m : Nat → Int32) {k c f : Nat} (hk : k ≤ 4) (hc : c < 2 ^ 31) (hf : f < 2 ^ 31) (ht : cd_cn (cd_op a k c f) (cd_nb a k 32) % 2 = 1 → post 1) (hn : ¬ cd_cn (cd_op a k c f) (cd_nb a k 32) % 2 = 1 → post 0) : wpY_odd post (a, m) (nI k) (nI c) (nI f) := by
  unfold wpY_odd
  dsimp only
  refine cy_ct a m hk ?_
  exact ⟨cd_nb a k 32 + 1, cy_od13 a m hk hc hf ht hn _ 0 (by omega) (Nat.zero_le _)⟩
theorem cy_bo26 {post : Int32 → Prop} (a m : Nat → Int32) {k c : Nat} (C : cd_Cl a) (hk : k + 1 ≤ 4) (hc : c < 2 ^ 31) (h : post (nI (cd_Bd a (k + 1) 32 c))) : ∀ n i, cd_nb a k 32 < n + i → i ≤ cd_nb a k 32 → wY_boundaryOf_26 post (nI (k + 1)) (nI c) (nI (cd_nb a k 32)) a m n (nI (cd_Bd a (k + 1) 32 c % 2 ^ i)) (nI i) := by
  have h10 := cd_nb_10 a (by omega : k < 6)
  intro n
  induction n with
  | zero => intro i h1 h2; omega
  | succ n ih =>
    intro i h1 h2
    refine pk_le (cd_nb a k 32) i (fun q => ?_) (fun q => ?_)
    · have e : i = cd_nb a k 32 := by omega
      rw [e, Nat.mod_eq_of_lt (cd_Bd_lt C c 32)]
      exact h
    · rw [nI_pred]
      refine cy_si a m (by omega) (by omega) (fun _ => ?_) (fun z => by omega)
      have hsx := cd_sx_spec a k i 32 q
      have ho := cd_odd C c q 32 (by omega)
      refine cy_od a m hk hc (by omega) (fun z => br_f cw_10 ?_) (fun z => br_t rfl (nm_r (nI_1 i) ?_))
      · rw [decide_eq_true z] at ho
        refine nm_r (e' := nI (cd_Bd a (k + 1) 32 c % 2 ^ (i + 1))) ?_ (nm_r (nI_1 i) (ih (i + 1) (by omega) (by omega)))
        rw [ca_1shl (by omega : i < 31), ca_or, cd_mod_t ho]
      · rw [decide_eq_false z] at ho
        rw [← cd_mod_f ho]
        exact ih (i + 1) (by omega) (by omega)
theorem cy_bo {post : Int32 → Prop} (a m : Nat → Int32) {k c : Nat} (C : cd_Cl a) (hk : k < 6) (hc : c < 2 ^ 31) (h : post (nI (cd_Bd a k 32 c))) : wpY_boundaryOf post (a, m) (nI k) (nI c) := by
  unfold wpY_boundaryOf
  dsimp only
  refine pk_lt k 1 (fun q => ?_) (fun q => ?_)
  · have e : k = 0 := by omega
    subst e
    rw [cd_Bd_0] at h
    exact h
  · refine pk_le k 4 (fun q2 => ?_) (fun q2 => ?_)
    · obtain ⟨j, rfl⟩ : ∃ j, k = j + 1 := ⟨k - 1, by omega⟩
      rw [nI_pred]
      refine cy_ct a m (by omega) ?_
      have z := cy_bo26 a m C q2 hc h (cd_nb a j 32 + 1) 0 (by omega) (Nat.zero_le _)
      rw [Nat.pow_zero, Nat.mod_one] at z
      exact ⟨_, z⟩
    · have e : k = 5 := by omega
      subst e
      rw [cd_Bd_5] at h
      exact h
