/-! the reference: marks, holes, fillings, least -/
def cd_Mk (T : Nat → Nat) (M c : Nat) (m : Nat → Int32) : Prop := ∀ v, v < M → (m v = 0 ↔ cd_hs T v c = false)
theorem cd_Mk_u {T : Nat → Nat} {M c : Nat} {m : Nat → Int32} (h : cd_Mk T M c m) : cd_Mk T M (c + 1) (upd m (T c) 1) := by
  intro v hv
  have e : cd_hs T v (c + 1) = (cd_hs T v c || (T c == v)) := rfl
  by_cases q : v = T c
  · subst q
    rw [pk_us, e, beq_self_eq_true, Bool.or_true]
    exact ⟨fun z => absurd z cw_10, fun z => absurd z (by decide)⟩
  · have e2 : (T c == v) = false := by
      rw [beq_eq_false_iff_ne]
      exact fun z => q z.symm
    rw [pk_un q, e, e2, Bool.or_false]
    exact h v hv
theorem cy_mk43 {post : Int32 → SY → Prop} (a : Nat → Int32) {k : Nat} (C : cd_Cl a) (hk : k ≤ 4) (h : ∀ m, cd_Mk (cd_Bd a (k + 1) 32) (2 ^ cd_nb a k 32) (2 ^ cd_nb a (k + 1) 32) m → post (nI (cd_fr (cd_Bd a (k + 1) 32) (2 ^ cd_nb a (k + 1) 32))) (a, m)) : ∀ n c m, 2 ^ cd_nb a (k + 1) 32 < n + c → c ≤ 2 ^ cd_nb a (k + 1) 32 → cd_Mk (cd_Bd a (k + 1) 32) (2 ^ cd_nb a k 32) c m → wY_mark_43 post (nI k) (nI (2 ^ cd_nb a (k + 1) 32)) n (nI (cd_fr (cd_Bd a (k + 1) 32) c)) (nI c) a m := by
  have hp := cd_p10 a (by omega : k + 1 < 6)
  have hp2 := cd_p10 a (by omega : k < 6)
  intro n
  induction n with
  | zero => intro c m h1 h2; omega
  | succ n ih =>
    intro c m h1 h2 h3
    refine pk_le (2 ^ cd_nb a (k + 1) 32) c (fun q => ?_) (fun q => ?_)
    · have e : c = 2 ^ cd_nb a (k + 1) 32 := by omega
      rw [e] at h3 ⊢
      exact h m h3
    · rw [nI_1 k]
      refine cy_bo a m C (by omega) (by omega) ?_
      have hT := cd_Bd_31 C (by omega : k + 1 < 6) c
      have hT2 := cd_Bd_lt (k := k) C c 32
      have hb := h3 _ hT2
      refine ⟨vp_in_nI hT (by omega), ?_⟩
      rw [nI_clamp (by omega : cd_Bd a (k + 1) 32 c < 2 ^ 31), cw_nb1]
      have hs : cd_fr (cd_Bd a (k + 1) 32) (c + 1) = cd_fr (cd_Bd a (k + 1) 32) c + (if (!(cd_hs (cd_Bd a (k + 1) 32) (cd_Bd a (k + 1) 32 c) c)) = true then 1 else 0) := rfl
      have hs0 : cd_hs (cd_Bd a (k + 1) 32) (cd_Bd a (k + 1) 32 c) c = false → cd_fr (cd_Bd a (k + 1) 32) (c + 1) = cd_fr (cd_Bd a (k + 1) 32) c + 1 := fun w => by
        rw [hs, w]
        rfl
      have hs1 : cd_hs (cd_Bd a (k + 1) 32) (cd_Bd a (k + 1) 32 c) c = true → cd_fr (cd_Bd a (k + 1) 32) (c + 1) = cd_fr (cd_Bd a (k + 1) 32) c := fun w => by
        rw [hs, w]
        rfl
      refine br_c (fun z => ?_) (fun z => ?_)
      · have hs := hs0 (hb.mp z)
        refine nm_r (e' := nI (cd_fr (cd_Bd a (k + 1) 32) (c + 1))) (by rw [nI_1, hs]) ⟨vp_in_nI hT (by omega), nm_e (nm_r (nI_1 c) (ih (c + 1) _ (by omega) (by omega) (cd_Mk_u h3)))⟩
      · have hh : cd_hs (cd_Bd a (k + 1) 32) (cd_Bd a (k + 1) 32 c) c = true := by
          cases w : cd_hs (cd_Bd a (k + 1) 32) (cd_Bd a (k + 1) 32 c) c
          · exact absurd (hb.mpr w) z
          · rfl
        rw [← hs1 hh]
        exact ⟨vp_in_nI hT (by omega), nm_e (nm_r (nI_1 c) (ih (c + 1) _ (by omega) (by omega) (cd_Mk_u h3)))⟩
theorem cy_mk20 {post : Int32 → SY → Prop} (a : Nat → Int32) {k : Nat} (C : cd_Cl a) (hk : k ≤ 4) (h : ∀ m, cd_Mk (cd_Bd a (k + 1) 32) (2 ^ cd_nb a k 32) (2 ^ cd_nb a (k + 1) 32) m → post (nI (cd_fr (cd_Bd a (k + 1) 32) (2 ^ cd_nb a (k + 1) 32))) (a, m)) : ∀ n c m, 2 ^ cd_nb a k 32 < n + c → c ≤ 2 ^ cd_nb a k 32 → (∀ v, v < c → m v = 0) → wY_mark_20 post (nI k) 0 (nI (2 ^ cd_nb a k 32)) (nI (2 ^ cd_nb a (k + 1) 32)) n (nI c) a m := by
  have hp2 := cd_p10 a (by omega : k < 6)
  intro n
  induction n with
  | zero => intro c m h1 h2; omega
  | succ n ih =>
    intro c m h1 h2 h3
    refine pk_le (2 ^ cd_nb a k 32) c (fun q => ?_) (fun q => ?_)
    · refine ⟨2 ^ cd_nb a (k + 1) 32 + 1, cy_mk43 a C hk h _ 0 m (by omega) (Nat.zero_le _) (fun v hv => ?_)⟩
      exact ⟨fun _ => rfl, fun _ => h3 v (by omega)⟩
    · refine ⟨vp_in_nI (by omega) (by omega), ?_⟩
      rw [nI_clamp (by omega : c < 2 ^ 31), cw_nb0]
      refine nm_e (nm_r (nI_1 c) (ih (c + 1) _ (by omega) (by omega) (fun v hv => ?_)))
      rcases Nat.lt_or_ge v c with w | w
      · rw [pk_un (by omega)]
        exact h3 v w
      · rw [show v = c by omega, pk_us]
theorem cy_mk {post : Int32 → SY → Prop} (a m : Nat → Int32) {k : Nat} (C : cd_Cl a) (hk : k ≤ 4) (h : ∀ m, cd_Mk (cd_Bd a (k + 1) 32) (2 ^ cd_nb a k 32) (2 ^ cd_nb a (k + 1) 32) m → post (nI (cd_fr (cd_Bd a (k + 1) 32) (2 ^ cd_nb a (k + 1) 32))) (a, m)) : wpY_mark post (a, m) (nI k) := by
  unfold wpY_mark
  dsimp only
  refine cy_ch a m (by omega) ?_
  rw [nI_1 k]
  refine cy_ch a m (by omega) ?_
  exact ⟨2 ^ cd_nb a k 32 + 1, cy_mk20 a C hk h _ 0 m (by omega) (Nat.zero_le _) (fun v hv => by omega)⟩
theorem cy_ho56 {post : Int32 → SY → Prop} (a m : Nat → Int32) {f z : Nat} (hz : z ≤ 10) (hf : f ≤ z) (h : post (nI (z - f)) (a, m)) : ∀ n b, 10 < n + b → b ≤ z - f → wY_holes_56 post (nI (2 ^ f)) (nI (2 ^ z)) a m n (nI b) := by
  intro n
  induction n with
  | zero => intro b h1 h2; omega
  | succ n ih =>
    intro b h1 h2
    refine pk_le 10 b (fun q => ?_) (fun q => ?_)
    · rw [show b = z - f by omega]
      exact h
    · have e : 2 ^ f * 2 ^ b = 2 ^ (f + b) := (Nat.pow_add 2 f b).symm
      have h20 : 2 ^ (f + b) ≤ 1024 := Nat.pow_le_pow_right (n := 2) (j := 10) (by omega) (by omega)
      have h21 : 2 ^ z ≤ 1024 := Nat.pow_le_pow_right (n := 2) (j := 10) (by omega) (by omega)
      rw [ca_shl (by omega : b < 31) (by rw [e]; omega), e]
      refine pk_le (2 ^ z) (2 ^ (f + b)) (fun w => ?_) (fun w => ?_) rfl rfl (by omega) (by omega)
      · have := (Nat.pow_le_pow_iff_right (a := 2) (by omega)).mp w
        rw [show b = z - f by omega]
        exact h
      · have := (Nat.pow_lt_pow_iff_right (a := 2) (by omega)).mp w
        exact nm_r (nI_1 b) (ih (b + 1) (by omega) (by omega))
theorem cy_ho27 {post : Int32 → SY → Prop} (a m : Nat → Int32) {k f z : Nat} (C : cd_Cl a) (hk : k ≤ 4) (hz : z ≤ 10) (hf : f ≤ z) (hZ : cd_zr (cd_Bd a k 32) (2 ^ cd_nb a k 32) = 2 ^ z) (h : post (nI (z - f)) (a, m)) : ∀ n c, 2 ^ cd_nb a k 32 < n + c → c ≤ 2 ^ cd_nb a k 32 → wY_holes_27 post (nI k) (nI (2 ^ f)) (nI (2 ^ cd_nb a k 32)) a m n (nI (cd_zr (cd_Bd a k 32) c)) (nI c) := by
  have hp := cd_p10 a (by omega : k < 6)
  intro n
  induction n with
  | zero => intro c h1 h2; omega
  | succ n ih =>
    intro c h1 h2
    refine pk_le (2 ^ cd_nb a k 32) c (fun q => ?_) (fun q => ?_)
    · rw [show c = 2 ^ cd_nb a k 32 by omega, hZ]
      exact ⟨11, cy_ho56 a m hz hf h 11 0 (by omega) (Nat.zero_le _)⟩
    · refine cy_bo a m C (by omega) (by omega) ?_
      have hT := cd_Bd_31 C (by omega : k < 6) c
      refine pk_eq (cd_Bd a k 32 c) 0 (fun e => ?_) (fun e => ?_)
      · refine nm_r (e' := nI (cd_zr (cd_Bd a k 32) (c + 1))) ?_ (nm_r (nI_1 c) (ih (c + 1) (by omega) (by omega)))
        rw [nI_1, cd_zr, cd_zr, cd_cn_s, if_pos (by rw [beq_iff_eq]; exact e)]
      · have e2 : cd_zr (cd_Bd a k 32) c = cd_zr (cd_Bd a k 32) (c + 1) := by
          rw [cd_zr, cd_zr, cd_cn_s, if_neg (by rw [beq_iff_eq]; exact e), Nat.add_zero]
        refine nm_r (nI_1 c) ?_
        rw [e2]
        exact ih (c + 1) (by omega) (by omega)
theorem cy_ho {post : Int32 → SY → Prop} (a m : Nat → Int32) {k z z' : Nat} (C : cd_Cl a) (hk : k ≤ 4) (h1 : z ≤ cd_nb a k 32) (h2 : cd_zr (cd_Bd a k 32) (2 ^ cd_nb a k 32) = 2 ^ z) (h3 : cd_fr (cd_Bd a (k + 1) 32) (2 ^ cd_nb a (k + 1) 32) = 2 ^ (cd_nb a (k + 1) 32 - z')) (h4 : cd_nb a (k + 1) 32 - z' ≤ z) (h : ∀ m, post (nI (z - (cd_nb a (k + 1) 32 - z'))) (a, m)) : wpY_holes post (a, m) (nI k) := by
  have h10 := cd_nb_10 a (by omega : k < 6)
  unfold wpY_holes
  dsimp only
  refine cy_bad_t hk (br_t rfl ?_)
  refine cy_mk a m C hk (fun m' hm => ?_)
  rw [h3]
  dsimp only
  refine cy_ch a m' (by omega) ?_
  exact ⟨2 ^ cd_nb a k 32 + 1, cy_ho27 a m' C hk (by omega) h4 h2 (h m') _ 0 (by omega) (Nat.zero_le _)⟩
theorem cy_fi_t {post : Int32 → Prop} (a m : Nat → Int32) {k ch e : Nat} (C : cd_Cl a) (hk : k ≤ 4) (hc : ch < 2 ^ 31) (he : e < 2 ^ cd_nb a (k + 1) 32) (hq : cd_Bd a (k + 1) 32 e = ch) (hn : ∀ d, d < e → ¬ cd_Bd a (k + 1) 32 d = ch) (h : post (nI e)) : ∀ n c, 2 ^ cd_nb a (k + 1) 32 < n + c → c ≤ e → wY_filling_22 post (nI k) (nI ch) (nI (2 ^ cd_nb a (k + 1) 32)) a m n (nI c) := by
  have hp := cd_p10 a (by omega : k + 1 < 6)
  intro n
  induction n with
  | zero => intro c h1 h2; omega
  | succ n ih =>
    intro c h1 h2
    refine pk_le (2 ^ cd_nb a (k + 1) 32) c (fun q => by omega) (fun q => ?_)
    rw [nI_1 k]
    refine cy_bo a m C (by omega) (by omega) ?_
    have hT := cd_Bd_31 C (by omega : k + 1 < 6) c
    refine pk_eq (cd_Bd a (k + 1) 32 c) ch (fun z => ?_) (fun z => ?_)
    · have e2 : c = e := by
        rcases Nat.lt_or_ge c e with w | w
        · exact absurd z (hn c w)
        · omega
      rw [e2]
      exact h
    · refine nm_r (nI_1 c) (ih (c + 1) (by omega) ?_)
      rcases Nat.lt_or_ge c e with w | w
      · omega
      · exact absurd (by rw [show c = e by omega]; exact hq) z
theorem cy_fi_f {post : Int32 → Prop} (a m : Nat → Int32) {k ch : Nat} (C : cd_Cl a) (hk : k ≤ 4) (hc : ch < 2 ^ 31) (hn : ∀ d, d < 2 ^ cd_nb a (k + 1) 32 → ¬ cd_Bd a (k + 1) 32 d = ch) (h : post (-2)) : ∀ n c, 2 ^ cd_nb a (k + 1) 32 < n + c → c ≤ 2 ^ cd_nb a (k + 1) 32 → wY_filling_22 post (nI k) (nI ch) (nI (2 ^ cd_nb a (k + 1) 32)) a m n (nI c) := by
  have hp := cd_p10 a (by omega : k + 1 < 6)
  intro n
  induction n with
  | zero => intro c h1 h2; omega
  | succ n ih =>
    intro c h1 h2
    refine pk_le (2 ^ cd_nb a (k + 1) 32) c (fun q => h) (fun q => ?_)
    rw [nI_1 k]
    refine cy_bo a m C (by omega) (by omega) ?_
    have hT := cd_Bd_31 C (by omega : k + 1 < 6) c
    exact pk_eq (cd_Bd a (k + 1) 32 c) ch (fun z => absurd z (hn c q)) (fun z => nm_r (nI_1 c) (ih (c + 1) (by omega) (by omega)))
theorem cy_le26 {post : Int32 → SY → Prop} (a m : Nat → Int32) {M ch L : Nat} (hM : M ≤ 1024) (hc : ch < 2 ^ 10) (hL : L < M) (h1 : ¬ m (L ^^^ ch) = 0) (h2 : ∀ c, c < L → m (c ^^^ ch) = 0) (h : post (nI L) (a, m)) : ∀ n c, M < n + c → c ≤ L → wY_least_26 post (nI ch) (nI M) a m n (nI c) := by
  intro n
  induction n with
  | zero => intro c g1 g2; omega
  | succ n ih =>
    intro c g1 g2
    refine pk_le M c (fun q => by omega) (fun q => ?_)
    have hx := Nat.xor_lt_two_pow (n := 10) (by omega : c < 2 ^ 10) hc
    rw [nx_xor]
    refine ⟨vp_in_nI (by omega) (by omega), ?_⟩
    rw [nI_clamp (by omega : c ^^^ ch < 2 ^ 31)]
    rcases Nat.lt_or_ge c L with w | w
    · exact br_t (h2 c w) (nm_r (nI_1 c) (ih (c + 1) (by omega) (by omega)))
    · have e : c = L := by omega
      subst e
      exact br_f h1 h
theorem cy_al {post : Int32 → Prop} (a m : Nat → Int32) (h : post (cd_al a 32)) : ∀ n t, 32 < n + t → 1 ≤ t → t ≤ 32 → wY_alternating_4 post a m n (cd_al a t) (nI t) := by
  intro n
  induction n with
  | zero => intro t h1 h2 h3; omega
  | succ n ih =>
    intro t h1 h2 h3
    refine pk_le 32 t (fun q => ?_) (fun q => ?_)
    · rw [show t = 32 by omega]
      exact h
    · refine ⟨vp_in_nI q (by omega), ?_⟩
      rw [nI_clamp (by omega : t < 2 ^ 31)]
      have hd5 := cd_dm5 t
      refine br_c (fun e => nm_r (nI_1 t) ?_) (fun e => ?_)
      · rw [← cd_al_z e]
        exact ih (t + 1) (by omega) (by omega) (by omega)
      · have ha := cd_al_n e h2 q
        refine cy_pt q ⟨by decide, ?_⟩
        refine pk_eq (cd_dm t % 2) 1 (fun z => ?_) (fun z => ?_) (pk_rem (d := 2) (by omega) (by omega) (by omega)) rfl (by omega) (by omega)
        · rw [if_pos z] at ha
          exact nm_r ha.symm (nm_r (nI_1 t) (ih (t + 1) (by omega) (by omega) (by omega)))
        · rw [if_neg z] at ha
          exact nm_r ha.symm (nm_r (nI_1 t) (ih (t + 1) (by omega) (by omega) (by omega)))
/-- the class's sum by dimensions -/
theorem cx_al {post : Int32 → Prop} (a b : Nat → Int32) (h : post (cd_al a 32)) : wX_alternating_4 post a b 6 0 0 := by
  refine br_f (by decide) (cw_hod a b (k := 0) (by omega) ⟨by decide, br_t (by decide) (nm_e (nm_e ?_))⟩)
  refine br_f (by decide) (cw_hod a b (k := 1) (by omega) ⟨by decide, br_f (by decide) (nm_e (nm_e ?_))⟩)
  refine br_f (by decide) (cw_hod a b (k := 2) (by omega) ⟨by decide, br_t (by decide) (nm_e (nm_e ?_))⟩)
  refine br_f (by decide) (cw_hod a b (k := 3) (by omega) ⟨by decide, br_f (by decide) (nm_e (nm_e ?_))⟩)
  refine br_f (by decide) (cw_hod a b (k := 4) (by omega) ⟨by decide, br_t (by decide) (nm_e (nm_e ?_))⟩)
  refine br_t (by decide) ?_
  rw [Int32.zero_add]
  exact h
