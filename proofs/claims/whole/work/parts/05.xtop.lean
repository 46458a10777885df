/-! the class: numbers of cycles, least fillings, chains -/
theorem cd_cn_n (p : Nat → Bool) : ∀ c, cd_cn p c ≤ c := by
  intro c
  induction c with
  | zero => exact Nat.le_refl _
  | succ c ih =>
    rw [cd_cn_s]
    by_cases h : p c = true
    · rw [if_pos h]
      omega
    · rw [if_neg h]
      omega
theorem cw_cb42 {post : Int32 → SX → Prop} (a b : Nat → Int32) {z : Nat} (hz : z ≤ 10) (h : post (nI z) (a, b)) : ∀ n t, z < n + t → t ≤ z → wX_cycleBits_42 post (nI (2 ^ z)) a b n (nI t) (nI (2 ^ (t + 1))) := by
  intro n
  induction n with
  | zero => intro t h1 h2; omega
  | succ n ih =>
    intro t h1 h2
    have hp : 2 ^ z ≤ 1024 := Nat.pow_le_pow_right (n := 2) (j := 10) (by omega) hz
    have hq : 2 ^ (t + 1) ≤ 2048 := Nat.pow_le_pow_right (n := 2) (j := 11) (by omega) (by omega)
    refine pk_lt (2 ^ z) (2 ^ (t + 1)) (fun q => ?_) (fun q => ?_) rfl rfl (by omega) (by omega)
    · have e : t = z := by
        have := (Nat.pow_lt_pow_iff_right (a := 2) (by omega)).mp q
        omega
      rw [e]
      exact h
    · refine pk_lt 1024 (2 ^ (t + 1)) (fun q2 => by omega) (fun q2 => ?_) rfl rfl (by omega) (by omega)
      have h3 := (Nat.pow_le_pow_iff_right (a := 2) (by omega)).mp q
      refine nm_r (nI_1 t) (nm_r (e' := nI (2 ^ (t + 1 + 1))) ?_ (ih (t + 1) (by omega) (by omega)))
      rw [Nat.pow_succ 2 (t + 1)]
      exact pk_mul _ 2
theorem cw_cb11 {post : Int32 → SX → Prop} (a b : Nat → Int32) (T : Nat → Nat) {C z : Nat} (hC : C ≤ 1024) (hz : z ≤ 10) (hT : ∀ c, c < C → T c < 2 ^ 31) (hb : ∀ c, c < C → b c = nI (T c)) (hZ : cd_zr T C = 2 ^ z) (h : post (nI z) (a, b)) : ∀ n c, C < n + c → c ≤ C → wX_cycleBits_11 post (nI C) a b n (nI (cd_zr T c)) (nI c) := by
  intro n
  induction n with
  | zero => intro c h1 h2; omega
  | succ n ih =>
    intro c h1 h2
    refine pk_le C c (fun q => ?_) (fun q => ?_)
    · have e : c = C := by omega
      rw [e, hZ]
      exact ⟨z + 1, cw_cb42 a b hz h (z + 1) 0 (by omega) (by omega)⟩
    · refine ⟨vp_in_nI (by omega) (by omega), ?_⟩
      rw [nI_clamp (by omega : c < 2 ^ 31), hb c q]
      refine pk_eq (T c) 0 (fun e => ?_) (fun e => ?_) rfl rfl (hT c q) (by omega)
      · refine nm_r (e' := nI (cd_zr T (c + 1))) ?_ (nm_r (nI_1 c) (ih (c + 1) (by omega) (by omega)))
        rw [nI_1, cd_zr, cd_zr, cd_cn_s, if_pos (by rw [beq_iff_eq]; exact e)]
      · have e2 : cd_zr T c = cd_zr T (c + 1) := by
          rw [cd_zr, cd_zr, cd_cn_s, if_neg (by rw [beq_iff_eq]; exact e), Nat.add_zero]
        refine nm_r (nI_1 c) ?_
        rw [e2]
        exact ih (c + 1) (by omega) (by omega)
theorem cd_Bd_31 {a : Nat → Int32} {k : Nat} (C : cd_Cl a) (hk : k < 6) (c : Nat) : cd_Bd a k 32 c < 1024 := by
  cases k with
  | zero => rw [cd_Bd_0]; omega
  | succ j => exact Nat.lt_of_lt_of_le (cd_Bd_lt C c 32) (cd_p10 a (by omega))
theorem cw_cb {post : Int32 → SX → Prop} (a b : Nat → Int32) {k z : Nat} (C : cd_Cl a) (hk : k < 6) (hz : z ≤ cd_nb a k 32) (hZ : cd_zr (cd_Bd a k 32) (2 ^ cd_nb a k 32) = 2 ^ z) (h : ∀ b, post (nI z) (a, b)) : wpX_cycleBits post (a, b) (nI k) := by
  have h10 := cd_nb_10 a hk
  unfold wpX_cycleBits
  dsimp only
  refine cw_lb a b hk (fun b' hb => ?_)
  exact ⟨2 ^ cd_nb a k 32 + 1, cw_cb11 a b' (cd_Bd a k 32) (cd_p10 a hk) (by omega) (fun c _ => by have := cd_Bd_31 C hk c; omega) hb hZ (h b') _ 0 (by omega) (Nat.zero_le _)⟩
theorem cw_xholes {post : Int32 → SX → Prop} (a b : Nat → Int32) {k z z' : Nat} (C : cd_Cl a) (hk : k ≤ 4) (h1 : z ≤ cd_nb a k 32) (h1' : z' ≤ cd_nb a (k + 1) 32) (h2 : cd_zr (cd_Bd a k 32) (2 ^ cd_nb a k 32) = 2 ^ z) (h2' : cd_zr (cd_Bd a (k + 1) 32) (2 ^ cd_nb a (k + 1) 32) = 2 ^ z') (h4 : cd_nb a (k + 1) 32 - z' ≤ z) (h : ∀ b, post (nI (z - (cd_nb a (k + 1) 32 - z'))) (a, b)) : wpX_holes post (a, b) (nI k) := by
  unfold wpX_holes
  dsimp only
  refine cw_xd_t hk (br_f cw_10 ?_)
  rw [nI_1]
  refine cw_hod a b (by omega) ?_
  refine cw_cb a b C (by omega) h1' h2' (fun b1 => ?_)
  dsimp only
  refine nm_r (pk_sub h1') ?_
  refine cw_cb a b1 C (by omega) h1 h2 (fun b2 => ?_)
  dsimp only
  rw [pk_sub h4]
  exact h b2
theorem cw_lf11_t {post : Int32 → SX → Prop} (a b : Nat → Int32) (T : Nat → Nat) {C ch e : Nat} (hC : C ≤ 1024) (hc : ch < 2 ^ 31) (hT : ∀ c, c < C → T c < 2 ^ 31) (hb : ∀ c, c < C → b c = nI (T c)) (he : e < C) (hq : T e = ch) (hn : ∀ d, d < e → ¬ T d = ch) (h : post (nI e) (a, b)) : ∀ n c, C < n + c → c ≤ e → wX_leastFilling_11 post (nI ch) (nI C) a b n (nI c) := by
  intro n
  induction n with
  | zero => intro c h1 h2; omega
  | succ n ih =>
    intro c h1 h2
    refine pk_le C c (fun q => by omega) (fun q => ?_)
    refine ⟨vp_in_nI (by omega) (by omega), ?_⟩
    rw [nI_clamp (by omega : c < 2 ^ 31), hb c q]
    refine pk_eq (T c) ch (fun z => ?_) (fun z => ?_) rfl rfl (hT c q) hc
    · have e2 : c = e := by
        rcases Nat.lt_or_ge c e with w | w
        · exact absurd z (hn c w)
        · omega
      rw [e2]
      exact h
    · refine nm_r (nI_1 c) (ih (c + 1) (by omega) ?_)
      rcases Nat.lt_or_ge c e with w | w
      · omega
      · exact absurd (by rw [show c = e by omega]; exact hq) z
theorem cw_lf11_f {post : Int32 → SX → Prop} (a b : Nat → Int32) (T : Nat → Nat) {C ch : Nat} (hC : C ≤ 1024) (hc : ch < 2 ^ 31) (hT : ∀ c, c < C → T c < 2 ^ 31) (hb : ∀ c, c < C → b c = nI (T c)) (hn : ∀ d, d < C → ¬ T d = ch) (h : post (-2) (a, b)) : ∀ n c, C < n + c → c ≤ C → wX_leastFilling_11 post (nI ch) (nI C) a b n (nI c) := by
  intro n
  induction n with
  | zero => intro c h1 h2; omega
  | succ n ih =>
    intro c h1 h2
    refine pk_le C c (fun q => h) (fun q => ?_)
    refine ⟨vp_in_nI (by omega) (by omega), ?_⟩
    rw [nI_clamp (by omega : c < 2 ^ 31), hb c q]
    refine pk_eq (T c) ch (fun z => absurd z (hn c q)) (fun z => ?_) rfl rfl (hT c q) hc
    exact nm_r (nI_1 c) (ih (c + 1) (by omega) (by omega))
theorem cw_lf_t {post : Int32 → SX → Prop} (a b : Nat → Int32) {k ch e : Nat} (C : cd_Cl a) (hk : k ≤ 4) (hc : ch < 2 ^ 31) (he : e < 2 ^ cd_nb a (k + 1) 32) (hq : cd_Bd a (k + 1) 32 e = ch) (hn : ∀ d, d < e → ¬ cd_Bd a (k + 1) 32 d = ch) (h : ∀ b, post (nI e) (a, b)) : wpX_leastFilling post (a, b) (nI k) (nI ch) := by
  unfold wpX_leastFilling
  dsimp only
  rw [nI_1]
  refine cw_lb a b (by omega) (fun b' hb => ?_)
  exact ⟨2 ^ cd_nb a (k + 1) 32 + 1, cw_lf11_t a b' (cd_Bd a (k + 1) 32) (cd_p10 a (by omega)) hc (fun c _ => by have := cd_Bd_31 C (by omega : k + 1 < 6) c; omega) hb he hq hn (h b') _ 0 (by omega) (Nat.zero_le _)⟩
theorem cw_lf_f {post : Int32 → SX → Prop} (a b : Nat → Int32) {k ch : Nat} (C : cd_Cl a) (hk : k ≤ 4) (hc : ch < 2 ^ 31) (hn : ∀ d, d < 2 ^ cd_nb a (k + 1) 32 → ¬ cd_Bd a (k + 1) 32 d = ch) (h : ∀ b, post (-2) (a, b)) : wpX_leastFilling post (a, b) (nI k) (nI ch) := by
  unfold wpX_leastFilling
  dsimp only
  rw [nI_1]
  refine cw_lb a b (by omega) (fun b' hb => ?_)
  exact ⟨2 ^ cd_nb a (k + 1) 32 + 1, cw_lf11_f a b' (cd_Bd a (k + 1) 32) (cd_p10 a (by omega)) hc (fun c _ => by have := cd_Bd_31 C (by omega : k + 1 < 6) c; omega) hb hn (h b') _ 0 (by omega) (Nat.zero_le _)⟩
theorem cw_le25 {post : Int32 → SX → Prop} (a b : Nat → Int32) (T : Nat → Nat) {C ch : Nat} (hC : C ≤ 1024) (hc : ch < 2 ^ 10) (hT : ∀ c, c < C → T c < 2 ^ 10) (hb : ∀ c, c < C → b c = nI (T c)) (h : post (nI (cd_lv T ch C)) (a, b)) : ∀ n c, C < n + c → c ≤ C → wX_least_25 post (nI ch) (nI C) a b n (nI (cd_lv T ch c)) (nI c) := by
  intro n
  induction n with
  | zero => intro c h1 h2; omega
  | succ n ih =>
    intro c h1 h2
    refine pk_le C c (fun q => ?_) (fun q => ?_)
    · rw [show c = C by omega]
      exact h
    · refine ⟨vp_in_nI (by omega) (by omega), ?_⟩
      rw [nI_clamp (by omega : c < 2 ^ 31), hb c q]
      have hx := Nat.xor_lt_two_pow hc (hT c q)
      have hl := (cd_lv_le T ch c).1
      refine nm_r (nx_xor ch (T c)) ?_
      refine pk_le (cd_lv T ch c) (ch ^^^ T c) (fun z => ?_) (fun z => ?_) rfl rfl (by omega) (by omega)
      · refine nm_r (nI_1 c) ?_
        have e : cd_lv T ch c = cd_lv T ch (c + 1) := by rw [cd_lv_s, if_neg (by omega)]
        rw [e]
        exact ih (c + 1) (by omega) (by omega)
      · refine nm_r (nI_1 c) ?_
        have e : ch ^^^ T c = cd_lv T ch (c + 1) := by rw [cd_lv_s, if_pos z]
        rw [e]
        exact ih (c + 1) (by omega) (by omega)
theorem cw_xch {post : Int32 → Prop} (a b : Nat → Int32) {k c : Nat} (hk : k ≤ 4) (hc : c < 2 ^ cd_nb a k 32) (h : post 1) : wpX_isChain post (a, b) (nI k) (nI c) := by
  have h10 := cd_nb_10 a (by omega : k < 6)
  have hp := cd_p10 a (by omega : k < 6)
  unfold wpX_isChain
  dsimp only
  refine cw_xd_t hk (br_f cw_10 ?_)
  refine pk_lt c 0 (fun z => by omega) (fun _ => ?_)
  refine cw_hod a b (by omega) ?_
  rw [ca_1shl (by omega : cd_nb a k 32 < 31)]
  exact pk_le (2 ^ cd_nb a k 32) c (fun z => by omega) (fun _ => h)
theorem cw_xle {post : Int32 → SX → Prop} (a b : Nat → Int32) {k ch : Nat} (C : cd_Cl a) (hk : k ≤ 4) (hc : ch < 2 ^ cd_nb a k 32) (h : ∀ b, post (nI (cd_lv (cd_Bd a (k + 1) 32) ch (2 ^ cd_nb a (k + 1) 32))) (a, b)) : wpX_least post (a, b) (nI k) (nI ch) := by
  have hp := cd_p10 a (by omega : k < 6)
  unfold wpX_least
  dsimp only
  refine cw_xch a b hk hc (br_f cw_10 ?_)
  rw [nI_1]
  refine cw_lb a b (by omega) (fun b' hb => ?_)
  exact ⟨2 ^ cd_nb a (k + 1) 32 + 1, cw_le25 a b' (cd_Bd a (k + 1) 32) (cd_p10 a (by omega)) (by omega) (fun c _ => cd_Bd_31 C (by omega) c) hb (h b') _ 0 (by omega) (Nat.zero_le _)⟩
theorem cw_xsi {post : Int32 → Prop} (a b : Nat → Int32) {k i : Nat} (hk : k ≤ 4) (hi : i < 2 ^ 31) (ht : i < cd_nb a k 32 → post (nI (cd_sx a k i 32))) (hf : cd_nb a k 32 ≤ i → post (-1)) : ∀ n t, 32 < n + t → t ≤ 32 → cd_nb a k t ≤ i → wX_simplex_14 post (nI k) (nI i) a b n (nI (cd_nb a k t)) (nI t) := by
  intro n
  induction n with
  | zero => intro t h1 h2; omega
  | succ n ih =>
    intro t h1 h2 h3
    refine pk_le 32 t (fun q => ?_) (fun q => ?_)
    · have e : t = 32 := by omega
      subst e
      exact hf h3
    · refine cw_ihd a b q (by omega) (fun e => br_f cw_10 ?_) (fun e => br_t rfl (nm_r (nI_1 t) ?_))
      · refine pk_eq (cd_nb a k t) i (fun z => ?_) (fun z => ?_) rfl rfl (by omega) hi
        · have h4 := cd_nb_lt e q
          have h5 := ht (by omega)
          rw [← z, cd_sx_eq e q] at h5
          exact h5
        · refine nm_r (e' := nI (cd_nb a k (t + 1))) (by rw [nI_1, cd_nb_t e]) (nm_r (nI_1 t) (ih (t + 1) (by omega) (by omega) ?_))
          rw [cd_nb_t e]
          omega
      · rw [← cd_nb_f e]
        exact ih (t + 1) (by omega) (by omega) (by rw [cd_nb_f e]; exact h3)
theorem cw_xsn {post : Int32 → Prop} (a b : Nat → Int32) {k : Nat} {v : Int32} (hk : k ≤ 4) (hv : v < 0) (hf : post (-1)) : ∀ n t, 32 < n + t → t ≤ 32 → wX_simplex_14 post (nI k) v a b n (nI (cd_nb a k t)) (nI t) := by
  intro n
  induction n with
  | zero => intro t h1 h2; omega
  | succ n ih =>
    intro t h1 h2
    refine pk_le 32 t (fun q => hf) (fun q => ?_)
    refine cw_ihd a b q (by omega) (fun e => br_f cw_10 ?_) (fun e => br_t rfl (nm_r (nI_1 t) ?_))
    · have h4 : cd_nb a k t < 2 ^ 31 := by
        have h5 := cd_nb_lt e q
        have h6 := cd_nb_10 a (by omega : k < 6)
        omega
      have hne : ¬ nI (cd_nb a k t) = v := fun z => nI_pos h4 (by rw [z]; exact hv)
      refine br_f hne ?_
      exact nm_r (e' := nI (cd_nb a k (t + 1))) (by rw [nI_1, cd_nb_t e]) (nm_r (nI_1 t) (ih (t + 1) (by omega) (by omega)))
    · rw [← cd_nb_f e]
      exact ih (t + 1) (by omega) (by omega)
