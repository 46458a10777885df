/-! the class's walks: each private method against the pure picture -/
theorem cw_10 : ¬ (1 : Int32) = 0 := by decide
theorem cw_nb1 : vp_nar .boolean 1 = 1 := rfl
theorem cw_nb0 : vp_nar .boolean 0 = 0 := rfl
def cd_ds (s : Nat) : Nat → Nat
  | 0 => 0
  | x + 1 => cd_ds s x + s / 2 ^ x % 2
theorem cd_ds5 (s : Nat) : cd_ds s 5 = cd_dm s := by simp [cd_ds, cd_dm]
theorem cd_nb_1 (a : Nat → Int32) (k : Nat) : cd_nb a k 1 = 0 := by
  rw [show (1 : Nat) = 0 + 1 from rfl, cd_nb_f (fun z => by have := (cd_hd_iff.mp z).1; omega)]
  rfl
theorem cd_p10 (a : Nat → Int32) {k : Nat} (hk : k < 6) : 2 ^ cd_nb a k 32 ≤ 1024 := Nat.pow_le_pow_right (n := 2) (j := 10) (by omega) (cd_nb_10 a hk)
theorem cw_ihd27 {post : Int32 → Prop} (a b : Nat → Int32) {s k : Nat} (hs : s < 32) (hk : k < 6) (ht : cd_dm s = k + 1 → post 1) (hf : ¬ cd_dm s = k + 1 → post 0) : ∀ n x, 5 < n + x → x ≤ 5 → wX_isHeldOfDimension_27 post (nI s) (nI k) a b n (nI (cd_ds s x)) (nI x) := by
  intro n
  induction n with
  | zero => intro x h1 h2; omega
  | succ n ih =>
    intro x h1 h2
    refine pk_le 5 x (fun h5 => ?_) (fun h5 => ?_)
    · have hx : x = 5 := by omega
      subst hx
      rw [cd_ds5]
      exact pk_eq (cd_dm s) (k + 1) ht hf rfl (nI_1 k) (by have := cd_dm5 s; omega) (by omega)
    · refine nm_r (e' := nI (cd_ds s (x + 1))) ?_ (nm_r (nI_1 x) (ih (x + 1) (by omega) (by omega)))
      rw [ca_bit (by omega : s < 2 ^ 31) (by omega : x < 31), nI_add]
      rfl
theorem cw_ihd {post : Int32 → Prop} (a b : Nat → Int32) {s k : Nat} (hs : s < 32) (hk : k < 6) (ht : cd_hd a k s = true → post 1) (hf : ¬ cd_hd a k s = true → post 0) : wpX_isHeldOfDimension post (a, b) (nI s) (nI k) := by
  refine pk_lt s 1 (fun h1 => ?_) (fun h1 => ?_)
  · exact hf (fun z => by have := (cd_hd_iff.mp z).1; omega)
  · refine pk_le 32 s (fun h2 => by omega) (fun h2 => ?_)
    refine ⟨vp_in_nI hs (by omega), ?_⟩
    rw [nI_clamp (by omega : s < 2 ^ 31)]
    refine br_c (fun h3 => ?_) (fun h3 => ?_)
    · exact hf (cd_hd_no h3)
    · exact ⟨6, cw_ihd27 a b hs hk (fun z => ht (cd_hd_iff.mpr ⟨h1, hs, h3, z⟩)) (fun z => hf (fun q => z (cd_hd_iff.mp q).2.2.2)) 6 0 (by omega) (by omega)⟩
theorem cw_hb5 {post : Int32 → Prop} (a b : Nat → Int32) {S k : Nat} (hS : S ≤ 32) (hk : k < 6) (h : post (nI (cd_nb a k S))) : ∀ n t, 32 < n + t → t ≤ S → wX_heldBelow_5 post (nI S) (nI k) a b n (nI (cd_nb a k t)) (nI t) := by
  intro n
  induction n with
  | zero => intro t h1 h2; omega
  | succ n ih =>
    intro t h1 h2
    refine pk_le S t (fun q => ?_) (fun q => ?_)
    · have e : t = S := by omega
      rw [e]
      exact h
    · refine pk_le 32 t (fun z => by omega) (fun z => ?_)
      refine cw_ihd a b (by omega) hk (fun e => br_f cw_10 ?_) (fun e => br_t rfl ?_)
      · exact nm_r (e' := nI (cd_nb a k (t + 1))) (by rw [nI_1, cd_nb_t e]) (nm_r (nI_1 t) (ih (t + 1) (by omega) (by omega)))
      · refine nm_r (nI_1 t) ?_
        rw [← cd_nb_f e]
        exact ih (t + 1) (by omega) (by omega)
theorem cw_hb {post : Int32 → Prop} (a b : Nat → Int32) {S k : Nat} (h1 : 1 ≤ S) (hS : S ≤ 32) (hk : k < 6) (h : post (nI (cd_nb a k S))) : wpX_heldBelow post (a, b) (nI S) (nI k) := by
  have z := cw_hb5 a b hS hk h 32 1 (by omega) h1
  rw [cd_nb_1] at z
  exact ⟨32, z⟩
theorem cw_hod {post : Int32 → Prop} (a b : Nat → Int32) {k : Nat} (hk : k < 6) (h : post (nI (cd_nb a k 32))) : wpX_heldOfDimension post (a, b) (nI k) := by
  unfold wpX_heldOfDimension
  dsimp only
  exact cw_hb a b (S := 32) (by omega) (by omega) hk h
theorem cw_dim (v : Int32) : (v < 0 ∨ (¬ v < 0 ∧ 4 < v)) ∨ ∃ k, k ≤ 4 ∧ v = nI k := by
  by_cases h : v < 0
  · exact Or.inl (Or.inl h)
  · obtain ⟨j, hj, rfl⟩ := nI_of h
    by_cases h2 : j ≤ 4
    · exact Or.inr ⟨j, h2, rfl⟩
    · exact Or.inl (Or.inr ⟨h, nI_lt (a := 4) (by omega) hj⟩)
theorem cw_xd_t {post : Int32 → Prop} {k : Nat} (hk : k ≤ 4) (h : post 1) : wpX_isDimension post (nI k) := pk_lt k 0 (fun z => by omega) (fun _ => pk_lt 4 k (fun z => by omega) (fun _ => h))
theorem cw_xd_f {post : Int32 → Prop} {v : Int32} (hv : v < 0 ∨ (¬ v < 0 ∧ 4 < v)) (h : post 0) : wpX_isDimension post v := by
  rcases hv with hv | ⟨h1, h2⟩
  · exact br_t hv h
  · exact br_f h1 (br_t h2 h)
theorem cw_fc : ∀ s, s < 32 → ∀ x, x < 5 → nI s &&& (((1 : Int32) <<< (nI x &&& 31)) ^^^ (-1)) = nI (cd_fc s x) := by decide +kernel
theorem cd_e_0 {a : Nat → Int32} {j s x : Nat} (h : cd_fc s x = s ∨ cd_fc s x = 0) : cd_br a j s (x + 1) = cd_br a j s x := by
  show cd_br a j s x ^^^ cd_e a j s x = _
  unfold cd_e
  rw [if_pos h, Nat.xor_zero]
theorem cd_e_1 {a : Nat → Int32} {j s x : Nat} (h : ¬ (cd_fc s x = s ∨ cd_fc s x = 0)) : cd_br a j s (x + 1) = cd_br a j s x ^^^ 2 ^ cd_nb a j (cd_fc s x) := by
  show cd_br a j s x ^^^ cd_e a j s x = _
  unfold cd_e
  rw [if_neg h]
theorem cw_bs5 {post : Int32 → Prop} (a b : Nat → Int32) {s k : Nat} (hs : cd_hd a k s = true) (hk : k < 6) (h : post (nI (cd_bS a (k - 1) s))) : ∀ n x, 5 < n + x → x ≤ 5 → wX_boundaryOfSimplex_5 post (nI s) (nI k) a b n (nI (cd_br a (k - 1) s x)) (nI x) := by
  have hs2 := cd_hd_iff.mp hs
  intro n
  induction n with
  | zero => intro x h1 h2; omega
  | succ n ih =>
    intro x h1 h2
    refine pk_le 5 x (fun h5 => ?_) (fun h5 => ?_)
    · have hx : x = 5 := by omega
      subst hx
      exact h
    · have hf : cd_fc s x ≤ s := by
        unfold cd_fc
        by_cases q : s.testBit x = true
        · rw [if_pos q]
          exact Nat.sub_le _ _
        · rw [if_neg q]
          exact Nat.le_refl _
      refine nm_r (cw_fc s hs2.2.1 x h5) ?_
      refine pk_eq (cd_fc s x) s (fun e => nm_r (nI_1 x) ?_) (fun e => ?_) rfl rfl (by omega) (by omega)
      · rw [← cd_e_0 (a := a) (j := k - 1) (Or.inl e)]
        exact ih (x + 1) (by omega) (by omega)
      · refine pk_eq (cd_fc s x) 0 (fun e2 => nm_r (nI_1 x) ?_) (fun e2 => ?_) rfl rfl (by omega) (by omega)
        · rw [← cd_e_0 (a := a) (j := k - 1) (Or.inr e2)]
          exact ih (x + 1) (by omega) (by omega)
        · have hk0 : k ≠ 0 := by
            intro q
            subst q
            exact (cd_fc_1 s hs2.2.1 hs2.2.2.2 x h5).elim e e2
          obtain ⟨j, rfl⟩ : ∃ j, k = j + 1 := ⟨k - 1, by omega⟩
          rw [nI_pred]
          refine cw_hb a b (by omega) (by omega) (by omega) ?_
          have hn : cd_nb a j (cd_fc s x) ≤ 10 := Nat.le_trans (cd_nb_le a j (by omega)) (cd_nb_10 a (by omega))
          refine nm_r (e' := nI (cd_br a (j + 1 - 1) s (x + 1))) ?_ (nm_r (nI_1 x) (ih (x + 1) (by omega) (by omega)))
          rw [ca_1shl (by omega), nx_xor, cd_e_1 (fun z => z.elim e e2)]
          rfl
theorem cw_bs {post : Int32 → Prop} (a b : Nat → Int32) {s k : Nat} (hs : cd_hd a k s = true) (hk : k < 6) (h : post (nI (cd_bS a (k - 1) s))) : wpX_boundaryOfSimplex post (a, b) (nI s) (nI k) := ⟨6, cw_bs5 a b hs hk h 6 0 (by omega) (by omega)⟩
theorem cw_lb46 {post : Int32 → SX → Prop} {J : Int32 → Int32 → (Nat → Int32) → (Nat → Int32) → Prop} (x1 : Int32) (a : Nat → Int32) {M s own : Nat} (T : Nat → Nat) (hM : M ≤ 512) (hJ : ∀ b : Nat → Int32, (∀ i, i < M → b i = nI (T i)) → (∀ i, i < M → b (M + i) = nI (T i ^^^ own)) → J (nI (M * 2)) (nI (s + 1)) a b) : ∀ n c (b : Nat → Int32), M < n + c → c ≤ M → (∀ i, i < M → b i = nI (T i)) → (∀ i, i < c → b (M + i) = nI (T i ^^^ own)) → wX_listBoundaries_46 post J x1 (nI M) (nI s) (nI own) n (nI c) a b := by
  intro n
  induction n with
  | zero => intro c b h1 h2; omega
  | succ n ih =>
    intro c b h1 h2 h3 h4
    refine pk_le M c (fun q => ?_) (fun q => ?_)
    · have e : c = M := by omega
      subst e
      exact nm_r (pk_mul c 2) (nm_r (nI_1 s) (hJ b h3 h4))
    · refine ⟨vp_in_nI (by omega) (by omega), ?_⟩
      rw [nI_add]
      refine ⟨vp_in_nI (by omega) (by omega), ?_⟩
      rw [nI_clamp (by omega : M + c < 2 ^ 31), nI_clamp (by omega : c < 2 ^ 31), h3 c q, nx_xor]
      refine nm_e (nm_r (nI_1 c) (ih (c + 1) _ (by omega) (by omega) (fun i hi => ?_) (fun i hi => ?_)))
      · rw [pk_un (by omega), h3 i hi]
      · rcases Nat.lt_or_ge i c with z | z
        · rw [pk_un (by omega), h4 i z]
        · rw [show i = c by omega, pk_us]
theorem cw_lb11 {post : Int32 → SX → Prop} (a : Nat → Int32) {k : Nat} (hk : k < 6) (h : ∀ b : Nat → Int32, (∀ c, c < 2 ^ cd_nb a k 32 → b c = nI (cd_Bd a k 32 c)) → post (nI (2 ^ cd_nb a k 32)) (a, b)) : ∀ n s (b : Nat → Int32), 32 < n + s → s ≤ 32 → (∀ c, c < 2 ^ cd_nb a k s → b c = nI (cd_Bd a k s c)) → wX_listBoundaries_11 post (nI k) n (nI (2 ^ cd_nb a k s)) (nI s) a b := by
  intro n
  induction n with
  | zero => intro s b h1 h2; omega
  | succ n ih =>
    intro s b h1 h2 h3
    refine pk_le 32 s (fun q => ?_) (fun q => ?_)
    · have e : s = 32 := by omega
      subst e
      exact h b h3
    · refine cw_ihd a b q hk (fun e => br_f cw_10 ?_) (fun e => br_t rfl (nm_r (nI_1 s) ?_))
      · have h4 := cd_nb_lt e q
        have h5 := cd_nb_10 a hk
        have hM : 2 ^ cd_nb a k s ≤ 512 := Nat.pow_le_pow_right (n := 2) (j := 9) (by omega) (by omega)
        refine pk_lt 1024 (2 * 2 ^ cd_nb a k s) (fun z => by omega) (fun z => ?_) rfl (pk_mul 2 _) (by omega) (by omega)
        refine cw_bs a b e hk ?_
        refine ⟨2 ^ cd_nb a k s + 1, cw_lb46 (nI k) a (cd_Bd a k s) hM (fun b' g1 g2 => ?_) _ 0 b (by omega) (by omega) h3 (fun i hi => by omega)⟩
        have e2 : 2 ^ cd_nb a k s * 2 = 2 ^ cd_nb a k (s + 1) := by rw [cd_nb_t e, Nat.pow_succ]
        rw [e2]
        refine ih (s + 1) b' (by omega) (by omega) (fun c hc => ?_)
        rw [← e2] at hc
        rcases Nat.lt_or_ge c (2 ^ cd_nb a k s) with z | z
        · rw [g1 c z, cd_Bd_lo z]
        · obtain ⟨d, rfl⟩ : ∃ d, c = 2 ^ cd_nb a k s + d := ⟨c - 2 ^ cd_nb a k s, by omega⟩
          rw [g2 d (by omega), cd_Bd_up e (by omega)]
      · have e2 : 2 ^ cd_nb a k s = 2 ^ cd_nb a k (s + 1) := by rw [cd_nb_f e]
        rw [e2]
        refine ih (s + 1) b (by omega) (by omega) (fun c hc => ?_)
        rw [← e2] at hc
        rw [h3 c hc, cd_Bd_lo hc]
theorem cw_lb {post : Int32 → SX → Prop} (a b : Nat → Int32) {k : Nat} (hk : k < 6) (h : ∀ b : Nat → Int32, (∀ c, c < 2 ^ cd_nb a k 32 → b c = nI (cd_Bd a k 32 c)) → post (nI (2 ^ cd_nb a k 32)) (a, b)) : wpX_listBoundaries post (a, b) (nI k) := by
  have z := cw_lb11 a hk h 32 1 (upd b 0 0) (by omega) (by omega) (fun c hc => by
    rw [cd_nb_1] at hc
    have e : c = 0 := by omega
    subst e
    rw [cd_Bd_z]
    rfl)
  rw [cd_nb_1] at z
  exact nm_e ⟨32, z⟩
