/-! the complex: held simplices by dimension, their numbers, boundaries -/
def cd_dm (s : Nat) : Nat := s % 2 + s / 2 % 2 + s / 4 % 2 + s / 8 % 2 + s / 16 % 2
def cd_hd (a : Nat → Int32) (k s : Nat) : Bool := decide (1 ≤ s ∧ s < 32 ∧ ¬ a s = 0 ∧ cd_dm s = k + 1)
def cd_nb (a : Nat → Int32) (k s : Nat) : Nat := cd_cn (cd_hd a k) s
def cd_sx (a : Nat → Int32) (k i : Nat) : Nat → Nat
  | 0 => 0
  | s + 1 => if cd_hd a k s = true ∧ cd_nb a k s = i then s else cd_sx a k i s
def cd_fc (s x : Nat) : Nat := if s.testBit x = true then s - 2 ^ x else s
def cd_e (a : Nat → Int32) (j s x : Nat) : Nat := if cd_fc s x = s ∨ cd_fc s x = 0 then 0 else 2 ^ cd_nb a j (cd_fc s x)
def cd_br (a : Nat → Int32) (j s : Nat) : Nat → Nat
  | 0 => 0
  | x + 1 => cd_br a j s x ^^^ cd_e a j s x
def cd_bS (a : Nat → Int32) (j s : Nat) : Nat := cd_br a j s 5
def cd_tm (a : Nat → Int32) (k s c : Nat) : Nat := if cd_hd a k s = true ∧ c.testBit (cd_nb a k s) = true then cd_bS a (k - 1) s else 0
def cd_Bd (a : Nat → Int32) (k : Nat) : Nat → Nat → Nat
  | 0, _ => 0
  | s + 1, c => cd_Bd a k s c ^^^ cd_tm a k s c
def cd_Cl (a : Nat → Int32) : Prop := ∀ s t, s < 32 → 1 ≤ t → t &&& s = t → ¬ a s = 0 → ¬ a t = 0
def cd_op (a : Nat → Int32) (k c f i : Nat) : Bool := c.testBit i && decide (cd_sx a k i 32 &&& f = f)
theorem cd_hd_iff {a : Nat → Int32} {k s : Nat} : cd_hd a k s = true ↔ (1 ≤ s ∧ s < 32 ∧ ¬ a s = 0 ∧ cd_dm s = k + 1) := decide_eq_true_iff
theorem cd_dm5 (s : Nat) : cd_dm s ≤ 5 := by
  unfold cd_dm
  omega
theorem cd_nb_s (a : Nat → Int32) (k s : Nat) : cd_nb a k (s + 1) = cd_nb a k s + (if cd_hd a k s = true then 1 else 0) := rfl
theorem cd_nb_t {a : Nat → Int32} {k s : Nat} (h : cd_hd a k s = true) : cd_nb a k (s + 1) = cd_nb a k s + 1 := by rw [cd_nb_s, if_pos h]
theorem cd_nb_f {a : Nat → Int32} {k s : Nat} (h : ¬ cd_hd a k s = true) : cd_nb a k (s + 1) = cd_nb a k s := by rw [cd_nb_s, if_neg h, Nat.add_zero]
theorem cd_nb_le (a : Nat → Int32) (k : Nat) {s t : Nat} (h : s ≤ t) : cd_nb a k s ≤ cd_nb a k t := by
  obtain ⟨d, rfl⟩ : ∃ d, t = s + d := ⟨t - s, by omega⟩
  unfold cd_nb
  rw [cd_cn_add]
  omega
theorem cd_nb_lt {a : Nat → Int32} {k s t : Nat} (h : cd_hd a k s = true) (hst : s < t) : cd_nb a k s < cd_nb a k t := by
  have h1 := cd_nb_le a k (s := s + 1) (t := t) (by omega)
  rw [cd_nb_t h] at h1
  omega
theorem cd_nb_inj {a : Nat → Int32} {k s t : Nat} (hs : cd_hd a k s = true) (ht : cd_hd a k t = true) (h : cd_nb a k s = cd_nb a k t) : s = t := by
  rcases Nat.lt_trichotomy s t with q | q | q
  · have := cd_nb_lt hs q
    omega
  · exact q
  · have := cd_nb_lt ht q
    omega
theorem cd_nb_10t : ∀ k, k < 6 → cd_cn (fun s => decide (cd_dm s = k + 1)) 32 ≤ 10 := by decide +kernel
theorem cd_nb_10 (a : Nat → Int32) {k : Nat} (hk : k < 6) : cd_nb a k 32 ≤ 10 := by
  refine Nat.le_trans (cd_cn_le (q := fun s => decide (cd_dm s = k + 1)) 32 (fun i _ h => ?_)) (cd_nb_10t k hk)
  rw [cd_hd_iff] at h
  exact decide_eq_true h.2.2.2
theorem cd_nb_5 (a : Nat → Int32) (s : Nat) : cd_nb a 5 s = 0 := by
  refine cd_cn_false s (fun i _ => ?_)
  refine decide_eq_false (fun z => ?_)
  have := cd_dm5 i
  omega
theorem cd_sx_spec (a : Nat → Int32) (k i : Nat) : ∀ S, i < cd_nb a k S → cd_hd a k (cd_sx a k i S) = true ∧ cd_nb a k (cd_sx a k i S) = i ∧ cd_sx a k i S < S := by
  intro S
  induction S with
  | zero =>
    intro h
    exact absurd h (Nat.not_lt_zero _)
  | succ S ih =>
    intro h
    unfold cd_sx
    by_cases hc : cd_hd a k S = true ∧ cd_nb a k S = i
    · rw [if_pos hc]
      exact ⟨hc.1, hc.2, by omega⟩
    · rw [if_neg hc]
      have hi : i < cd_nb a k S := by
        by_cases hh : cd_hd a k S = true
        · rw [cd_nb_t hh] at h
          have : ¬ cd_nb a k S = i := fun z => hc ⟨hh, z⟩
          omega
        · rw [cd_nb_f hh] at h
          exact h
      obtain ⟨h1, h2, h3⟩ := ih hi
      exact ⟨h1, h2, by omega⟩
theorem cd_sx_eq {a : Nat → Int32} {k s S : Nat} (h : cd_hd a k s = true) (hs : s < S) : cd_sx a k (cd_nb a k s) S = s := by
  obtain ⟨h1, h2, _⟩ := cd_sx_spec a k (cd_nb a k s) S (cd_nb_lt h hs)
  exact cd_nb_inj h1 h h2
theorem cd_fc_tt : ∀ s, s < 32 → ∀ x, x < 5 → (cd_fc s x = s ∨ cd_fc s x = 0 ∨ (1 ≤ cd_fc s x ∧ cd_fc s x < 32 ∧ (cd_fc s x &&& s) = cd_fc s x ∧ cd_dm (cd_fc s x) + 1 = cd_dm s)) := by decide +kernel
theorem cd_fc_t (s : Nat) (hs : s < 32) (x : Nat) (hx : x < 5) (h1 : ¬ cd_fc s x = s) (h2 : ¬ cd_fc s x = 0) : 1 ≤ cd_fc s x ∧ cd_fc s x < 32 ∧ (cd_fc s x &&& s) = cd_fc s x ∧ cd_dm (cd_fc s x) + 1 = cd_dm s := by
  rcases cd_fc_tt s hs x hx with h | h | h
  · exact absurd h h1
  · exact absurd h h2
  · exact h
theorem cd_fc_1 : ∀ s, s < 32 → cd_dm s = 1 → ∀ x, x < 5 → (cd_fc s x = s ∨ cd_fc s x = 0) := by decide +kernel
theorem cd_fc_x : ∀ s, s < 32 → ∀ f, f < 32 → 1 ≤ f → cd_dm f + 1 = cd_dm s → (((((false ^^ decide (cd_fc s 0 = f)) ^^ decide (cd_fc s 1 = f)) ^^ decide (cd_fc s 2 = f)) ^^ decide (cd_fc s 3 = f)) ^^ decide (cd_fc s 4 = f)) = decide (s &&& f = f) := by decide +kernel
theorem cd_hd_fc {a : Nat → Int32} {k s x : Nat} (C : cd_Cl a) (h : cd_hd a (k + 1) s = true) (hx : x < 5) (h1 : ¬ cd_fc s x = s) (h2 : ¬ cd_fc s x = 0) : cd_hd a k (cd_fc s x) = true := by
  rw [cd_hd_iff] at h
  obtain ⟨g1, g2, g3, g4⟩ := cd_fc_t s h.2.1 x hx h1 h2
  rw [cd_hd_iff]
  exact ⟨g1, g2, C s _ h.2.1 g1 g3 h.2.2.1, by omega⟩
theorem cd_e_bit {a : Nat → Int32} {k s x j : Nat} (C : cd_Cl a) (h : cd_hd a (k + 1) s = true) (hj : j < cd_nb a k 32) (hx : x < 5) : (cd_e a k s x).testBit j = decide (cd_fc s x = cd_sx a k j 32) := by
  obtain ⟨h1, h2, h3⟩ := cd_sx_spec a k j 32 hj
  generalize hf : cd_sx a k j 32 = f at h1 h2 h3
  unfold cd_e
  have hs := cd_hd_iff.mp h
  have hg := cd_hd_iff.mp h1
  by_cases hc : cd_fc s x = s ∨ cd_fc s x = 0
  · rw [if_pos hc, Nat.zero_testBit]
    refine (decide_eq_false (fun q => ?_)).symm
    rw [q] at hc
    rcases hc with r | r
    · rw [r] at hg
      omega
    · omega
  · rw [if_neg hc, Nat.testBit_two_pow]
    have hfc := cd_hd_fc C h hx (fun z => hc (Or.inl z)) (fun z => hc (Or.inr z))
    refine decide_eq_decide.mpr ⟨fun q => cd_nb_inj hfc h1 (by rw [q, h2]), fun q => by rw [q, h2]⟩
theorem cd_bS_bit {a : Nat → Int32} {k s j : Nat} (C : cd_Cl a) (h : cd_hd a (k + 1) s = true) (hj : j < cd_nb a k 32) : (cd_bS a k s).testBit j = decide (s &&& cd_sx a k j 32 = cd_sx a k j 32) := by
  obtain ⟨h1, h2, h3⟩ := cd_sx_spec a k j 32 hj
  have hs := cd_hd_iff.mp h
  have hg := cd_hd_iff.mp h1
  rw [← cd_fc_x s hs.2.1 _ hg.2.1 hg.1 (by omega)]
  rw [← cd_e_bit C h hj (by omega : 0 < 5), ← cd_e_bit C h hj (by omega : 1 < 5), ← cd_e_bit C h hj (by omega : 2 < 5), ← cd_e_bit C h hj (by omega : 3 < 5), ← cd_e_bit C h hj (by omega : 4 < 5)]
  simp only [cd_bS, cd_br, Nat.testBit_xor, Nat.zero_testBit]
theorem cd_br_lt {a : Nat → Int32} {k s : Nat} (C : cd_Cl a) (h : cd_hd a (k + 1) s = true) : ∀ x, x ≤ 5 → cd_br a k s x < 2 ^ cd_nb a k 32 := by
  intro x
  induction x with
  | zero => intro _; exact Nat.two_pow_pos _
  | succ x ih =>
    intro hx
    refine Nat.xor_lt_two_pow (ih (by omega)) ?_
    unfold cd_e
    by_cases hc : cd_fc s x = s ∨ cd_fc s x = 0
    · rw [if_pos hc]
      exact Nat.two_pow_pos _
    · rw [if_neg hc]
      have hfc := cd_hd_fc C h (by omega) (fun z => hc (Or.inl z)) (fun z => hc (Or.inr z))
      exact Nat.pow_lt_pow_right (by omega) (cd_nb_lt hfc (cd_hd_iff.mp hfc).2.1)
theorem cd_br_0 {a : Nat → Int32} {s : Nat} (h : cd_hd a 0 s = true) (j : Nat) : ∀ x, x ≤ 5 → cd_br a j s x = 0 := by
  intro x
  have hs := cd_hd_iff.mp h
  induction x with
  | zero => intro _; rfl
  | succ x ih =>
    intro hx
    have hc := cd_fc_1 s hs.2.1 hs.2.2.2 x (by omega)
    unfold cd_br cd_e
    rw [ih (by omega), if_pos hc]
    rfl
theorem cd_tm_t {a : Nat → Int32} {k s c : Nat} (h : cd_hd a k s = true) (hc : c.testBit (cd_nb a k s) = true) : cd_tm a k s c = cd_bS a (k - 1) s := if_pos ⟨h, hc⟩
theorem cd_tm_f {a : Nat → Int32} {k s c : Nat} (h : ¬ cd_hd a k s = true) : cd_tm a k s c = 0 := if_neg (fun z => h z.1)
theorem cd_tm_c {a : Nat → Int32} {k s c : Nat} (hc : c.testBit (cd_nb a k s) = false) : cd_tm a k s c = 0 := if_neg (fun z => by rw [hc] at z; exact absurd z.2 (by decide))
theorem cd_tm_xor (a : Nat → Int32) (k s c d : Nat) : cd_tm a k s (c ^^^ d) = cd_tm a k s c ^^^ cd_tm a k s d := by
  by_cases h : cd_hd a k s = true
  · cases hc : c.testBit (cd_nb a k s) <;> cases hd : d.testBit (cd_nb a k s)
    · rw [cd_tm_c (c := c ^^^ d) (by rw [Nat.testBit_xor, hc, hd]; rfl), cd_tm_c hc, cd_tm_c hd, Nat.xor_zero]
    · rw [cd_tm_t (c := c ^^^ d) h (by rw [Nat.testBit_xor, hc, hd]; rfl), cd_tm_c hc, cd_tm_t h hd, Nat.zero_xor]
    · rw [cd_tm_t (c := c ^^^ d) h (by rw [Nat.testBit_xor, hc, hd]; rfl), cd_tm_t h hc, cd_tm_c hd, Nat.xor_zero]
    · rw [cd_tm_c (c := c ^^^ d) (by rw [Nat.testBit_xor, hc, hd]; rfl), cd_tm_t h hc, cd_tm_t h hd, Nat.xor_self]
  · rw [cd_tm_f h, cd_tm_f h, cd_tm_f h, Nat.xor_zero]
theorem cd_x4 (a b c d : Nat) : (a ^^^ b) ^^^ (c ^^^ d) = (a ^^^ c) ^^^ (b ^^^ d) := by rw [Nat.xor_assoc, Nat.xor_assoc, cd_xl b c d]
theorem cd_Bd_s (a : Nat → Int32) (k s c : Nat) : cd_Bd a k (s + 1) c = cd_Bd a k s c ^^^ cd_tm a k s c := rfl
theorem cd_Bd_xor (a : Nat → Int32) (k S c d : Nat) : cd_Bd a k S (c ^^^ d) = cd_Bd a k S c ^^^ cd_Bd a k S d := by
  induction S with
  | zero => exact (Nat.xor_self 0).symm
  | succ S ih => rw [cd_Bd_s, cd_Bd_s, cd_Bd_s, ih, cd_tm_xor, cd_x4]
theorem cd_Bd_z (a : Nat → Int32) (k S : Nat) : cd_Bd a k S 0 = 0 := by
  induction S with
  | zero => rfl
  | succ S ih => rw [cd_Bd_s, ih, cd_tm_c (Nat.zero_testBit _), Nat.xor_zero]
theorem cd_Bd_hi (a : Nat → Int32) (k n c : Nat) : ∀ S, cd_nb a k S ≤ n → cd_Bd a k S (2 ^ n + c) = cd_Bd a k S c := by
  intro S
  induction S with
  | zero => intro _; rfl
  | succ S ih =>
    intro h
    have h1 := cd_nb_le a k (s := S) (t := S + 1) (by omega)
    rw [cd_Bd_s, cd_Bd_s, ih (by omega)]
    by_cases hd : cd_hd a k S = true
    · rw [cd_nb_t hd] at h
      have e := Nat.testBit_two_pow_add_gt (i := n) (j := cd_nb a k S) (by omega) c
      cases hc : c.testBit (cd_nb a k S)
      · rw [cd_tm_c hc, cd_tm_c (e.trans hc)]
      · rw [cd_tm_t hd hc, cd_tm_t hd (e.trans hc)]
    · rw [cd_tm_f hd, cd_tm_f hd]
theorem cd_Bd_lo {a : Nat → Int32} {k S c : Nat} (h : c < 2 ^ cd_nb a k S) : cd_Bd a k (S + 1) c = cd_Bd a k S c := by
  rw [cd_Bd_s, cd_tm_c (Nat.testBit_lt_two_pow h), Nat.xor_zero]
theorem cd_Bd_up {a : Nat → Int32} {k S c : Nat} (hd : cd_hd a k S = true) (h : c < 2 ^ cd_nb a k S) : cd_Bd a k (S + 1) (2 ^ cd_nb a k S + c) = cd_Bd a k S c ^^^ cd_bS a (k - 1) S := by
  rw [cd_Bd_s, cd_Bd_hi a k _ c S (Nat.le_refl _), cd_tm_t hd (by rw [Nat.testBit_two_pow_add_eq, Nat.testBit_lt_two_pow h]; rfl)]
theorem cd_Bd_two {a : Nat → Int32} {k g : Nat} (h : cd_hd a k g = true) : ∀ S, g < S → cd_Bd a k S (2 ^ cd_nb a k g) = cd_bS a (k - 1) g := by
  intro S
  induction S with
  | zero => intro q; omega
  | succ S ih =>
    intro q
    by_cases e : g = S
    · subst e
      have := cd_Bd_up h (c := 0) (Nat.two_pow_pos _)
      rw [Nat.add_zero, cd_Bd_z, Nat.zero_xor] at this
      exact this
    · rw [cd_Bd_s, ih (by omega)]
      have : cd_tm a k S (2 ^ cd_nb a k g) = 0 := by
        by_cases hd : cd_hd a k S = true
        · refine cd_tm_c ?_
          rw [Nat.testBit_two_pow]
          exact decide_eq_false (fun z => e (cd_nb_inj h hd z))
        · exact cd_tm_f hd
      rw [this, Nat.xor_zero]
theorem cd_Bd_lt {a : Nat → Int32} {k : Nat} (C : cd_Cl a) (c : Nat) : ∀ S, cd_Bd a (k + 1) S c < 2 ^ cd_nb a k 32 := by
  intro S
  induction S with
  | zero => exact Nat.two_pow_pos _
  | succ S ih =>
    rw [cd_Bd_s]
    refine Nat.xor_lt_two_pow ih ?_
    unfold cd_tm
    by_cases h : cd_hd a (k + 1) S = true ∧ c.testBit (cd_nb a (k + 1) S) = true
    · rw [if_pos h]
      exact cd_br_lt C h.1 5 (by omega)
    · rw [if_neg h]
      exact Nat.two_pow_pos _
theorem cd_Bd_0 (a : Nat → Int32) (c : Nat) : ∀ S, cd_Bd a 0 S c = 0 := by
  intro S
  induction S with
  | zero => rfl
  | succ S ih =>
    rw [cd_Bd_s, ih, Nat.zero_xor]
    unfold cd_tm
    by_cases h : cd_hd a 0 S = true ∧ c.testBit (cd_nb a 0 S) = true
    · rw [if_pos h]
      exact cd_br_0 h.1 _ 5 (by omega)
    · rw [if_neg h]
theorem cd_Bd_5 (a : Nat → Int32) (c : Nat) : ∀ S, cd_Bd a 5 S c = 0 := by
  intro S
  induction S with
  | zero => rfl
  | succ S ih =>
    rw [cd_Bd_s, ih, Nat.zero_xor]
    refine cd_tm_f (fun z => ?_)
    have h1 := cd_hd_iff.mp z
    have h2 := cd_dm5 S
    omega
/-- zeros and values of the boundary map: 2^z, 2^(n - z) -/
theorem cd_zf (a : Nat → Int32) (k : Nat) : ∀ S, ∃ z, z ≤ cd_nb a k S ∧ cd_zr (cd_Bd a k S) (2 ^ cd_nb a k S) = 2 ^ z ∧ cd_fr (cd_Bd a k S) (2 ^ cd_nb a k S) = 2 ^ (cd_nb a k S - z) := by
  intro S
  induction S with
  | zero => exact ⟨0, Nat.le_refl _, rfl, rfl⟩
  | succ S ih =>
    obtain ⟨z, h1, h2, h3⟩ := ih
    by_cases hd : cd_hd a k S = true
    · rw [cd_nb_t hd]
      exact cd_rank (v := cd_bS a (k - 1) S) (fun c d => cd_Bd_xor a k S c d) (fun c hc => cd_Bd_lo hc) (fun c hc => cd_Bd_up hd hc) h1 h2 h3
    · have e : cd_Bd a k (S + 1) = cd_Bd a k S := funext (fun c => by rw [cd_Bd_s, cd_tm_f hd, Nat.xor_zero])
      rw [cd_nb_f hd, e]
      exact ⟨z, h1, h2, h3⟩
/-! the boundary of a boundary is empty -/
def cd_G (s x y : Nat) : Nat := if cd_fc s x = s ∨ cd_fc s x = 0 then 0 else if cd_fc (cd_fc s x) y = cd_fc s x then 0 else cd_fc (cd_fc s x) y
def cd_W (a : Nat → Int32) (j s x y : Nat) : Nat := if cd_G s x y = 0 then 0 else 2 ^ cd_nb a j (cd_G s x y)
theorem cd_G_c : ∀ s, s < 32 → ∀ x, x < 5 → ∀ y, y < 5 → cd_G s x y = cd_G s y x := by decide +kernel
theorem cd_G_d : ∀ s, s < 32 → ∀ x, x < 5 → cd_G s x x = 0 := by decide +kernel
theorem cd_b10 : ∀ p q r s t u v w x y : Bool, (((((false ^^ (((((false ^^ false) ^^ p) ^^ q) ^^ r) ^^ s)) ^^ (((((false ^^ p) ^^ false) ^^ t) ^^ u) ^^ v)) ^^ (((((false ^^ q) ^^ t) ^^ false) ^^ w) ^^ x)) ^^ (((((false ^^ r) ^^ u) ^^ w) ^^ false) ^^ y)) ^^ (((((false ^^ s) ^^ v) ^^ x) ^^ y) ^^ false)) = false := by decide +kernel
def cd_R (W : Nat → Nat → Nat) (x : Nat) : Nat := ((((0 ^^^ W x 0) ^^^ W x 1) ^^^ W x 2) ^^^ W x 3) ^^^ W x 4
theorem cd_x25 (W : Nat → Nat → Nat) (hc : ∀ x, x < 5 → ∀ y, y < 5 → W x y = W y x) (hd : ∀ x, x < 5 → W x x = 0) : ((((0 ^^^ cd_R W 0) ^^^ cd_R W 1) ^^^ cd_R W 2) ^^^ cd_R W 3) ^^^ cd_R W 4 = 0 := by
  apply Nat.eq_of_testBit_eq
  intro i
  simp only [cd_R, hd 0 (by omega), hd 1 (by omega), hd 2 (by omega), hd 3 (by omega), hd 4 (by omega), hc 1 (by omega) 0 (by omega), hc 2 (by omega) 0 (by omega), hc 3 (by omega) 0 (by omega), hc 4 (by omega) 0 (by omega), hc 2 (by omega) 1 (by omega), hc 3 (by omega) 1 (by omega), hc 4 (by omega) 1 (by omega), hc 3 (by omega) 2 (by omega), hc 4 (by omega) 2 (by omega), hc 4 (by omega) 3 (by omega), Nat.testBit_xor, Nat.zero_testBit]
  exact cd_b10 _ _ _ _ _ _ _ _ _ _
theorem cd_dd0 {a : Nat → Int32} {j s x : Nat} (C : cd_Cl a) (h : cd_hd a (j + 2) s = true) (hx : x < 5) : cd_Bd a (j + 1) 32 (cd_e a (j + 1) s x) = cd_R (cd_W a j s) x := by
  by_cases hc : cd_fc s x = s ∨ cd_fc s x = 0
  · have hG : ∀ y, cd_W a j s x y = 0 := by
      intro y
      unfold cd_W cd_G
      rw [if_pos hc, if_pos rfl]
    unfold cd_e cd_R
    rw [if_pos hc, cd_Bd_z, hG, hG, hG, hG, hG]
    rfl
  · have hfc := cd_hd_fc C h hx (fun z => hc (Or.inl z)) (fun z => hc (Or.inr z))
    have hW : ∀ y, cd_e a j (cd_fc s x) y = cd_W a j s x y := by
      intro y
      unfold cd_W cd_G cd_e
      rw [if_neg hc]
      by_cases h1 : cd_fc (cd_fc s x) y = cd_fc s x
      · rw [if_pos (Or.inl h1), if_pos h1, if_pos rfl]
      · rw [if_neg h1]
        by_cases h2 : cd_fc (cd_fc s x) y = 0
        · rw [if_pos (Or.inr h2), if_pos h2]
        · rw [if_neg h2, if_neg (fun z => z.elim h1 h2)]
    have e : cd_e a (j + 1) s x = 2 ^ cd_nb a (j + 1) (cd_fc s x) := if_neg hc
    rw [e, cd_Bd_two hfc 32 (cd_hd_iff.mp hfc).2.1]
    show cd_br a j (cd_fc s x) 5 = _
    simp only [cd_br, cd_R, hW]
theorem cd_dd1 {a : Nat → Int32} {k s : Nat} (C : cd_Cl a) (h : cd_hd a (k + 1) s = true) : cd_Bd a k 32 (cd_bS a k s) = 0 := by
  cases k with
  | zero => exact cd_Bd_0 a _ 32
  | succ j =>
    have hs := (cd_hd_iff.mp h).2.1
    simp only [cd_bS, cd_br, cd_Bd_xor, cd_Bd_z, cd_dd0 C h (by omega : 0 < 5), cd_dd0 C h (by omega : 1 < 5), cd_dd0 C h (by omega : 2 < 5), cd_dd0 C h (by omega : 3 < 5), cd_dd0 C h (by omega : 4 < 5)]
    refine cd_x25 (cd_W a j s) (fun x hx y hy => ?_) (fun x hx => ?_)
    · unfold cd_W
      rw [cd_G_c s hs x hx y hy]
    · unfold cd_W
      rw [cd_G_d s hs x hx, if_pos rfl]
theorem cd_dd {a : Nat → Int32} (C : cd_Cl a) (k c : Nat) : ∀ S, cd_Bd a k 32 (cd_Bd a (k + 1) S c) = 0 := by
  intro S
  induction S with
  | zero => exact cd_Bd_z a k 32
  | succ S ih =>
    rw [cd_Bd_s a (k + 1) S c, cd_Bd_xor, ih, Nat.zero_xor]
    unfold cd_tm
    by_cases h : cd_hd a (k + 1) S = true ∧ c.testBit (cd_nb a (k + 1) S) = true
    · rw [if_pos h]
      exact cd_dd1 C h.1
    · rw [if_neg h]
      exact cd_Bd_z a k 32
/-- the numbers that holes needs: z cycles' bits of dimension k, z' one up, n' chains' bits one up -/
theorem cd_holes {a : Nat → Int32} (C : cd_Cl a) (k : Nat) : ∃ z z', z ≤ cd_nb a k 32 ∧ z' ≤ cd_nb a (k + 1) 32 ∧ cd_zr (cd_Bd a k 32) (2 ^ cd_nb a k 32) = 2 ^ z ∧ cd_zr (cd_Bd a (k + 1) 32) (2 ^ cd_nb a (k + 1) 32) = 2 ^ z' ∧ cd_fr (cd_Bd a (k + 1) 32) (2 ^ cd_nb a (k + 1) 32) = 2 ^ (cd_nb a (k + 1) 32 - z') ∧ cd_nb a (k + 1) 32 - z' ≤ z := by
  obtain ⟨z, h1, h2, _⟩ := cd_zf a k 32
  obtain ⟨z', h1', h2', h3'⟩ := cd_zf a (k + 1) 32
  refine ⟨z, z', h1, h1', h2, h2', h3', ?_⟩
  have hle := cd_fr_le (T := cd_Bd a (k + 1) 32) (q := fun i => cd_Bd a k 32 i == 0) (C := 2 ^ cd_nb a (k + 1) 32) (M := 2 ^ cd_nb a k 32) (fun d _ => cd_Bd_lt C d 32) (fun d _ => by
    rw [beq_iff_eq]
    exact cd_dd C k d 32)
  rw [h3'] at hle
  have h4 : cd_cn (fun i => cd_Bd a k 32 i == 0) (2 ^ cd_nb a k 32) = 2 ^ z := h2
  rw [h4] at hle
  exact (Nat.pow_le_pow_iff_right (by omega)).mp hle
/-! the reference's parity and its sum of bits -/
theorem cd_odd {a : Nat → Int32} {k j : Nat} (C : cd_Cl a) (c : Nat) (hj : j < cd_nb a k 32) : ∀ S, S ≤ 32 → (cd_Bd a (k + 1) S c).testBit j = decide (cd_cn (cd_op a (k + 1) c (cd_sx a k j 32)) (cd_nb a (k + 1) S) % 2 = 1) := by
  intro S
  induction S with
  | zero => intro _; exact Nat.zero_testBit j
  | succ S ih =>
    intro hS
    rw [cd_Bd_s, Nat.testBit_xor, ih (by omega)]
    by_cases hd : cd_hd a (k + 1) S = true
    · rw [cd_nb_t hd, cd_cn_s]
      have e : cd_op a (k + 1) c (cd_sx a k j 32) (cd_nb a (k + 1) S) = (c.testBit (cd_nb a (k + 1) S) && decide (S &&& cd_sx a k j 32 = cd_sx a k j 32)) := by
        unfold cd_op
        rw [cd_sx_eq hd (by omega : S < 32)]
      rw [e]
      generalize cd_cn (cd_op a (k + 1) c (cd_sx a k j 32)) (cd_nb a (k + 1) S) = m
      cases hc : c.testBit (cd_nb a (k + 1) S)
      · rw [cd_tm_c hc, Nat.zero_testBit, Bool.xor_false, Bool.false_and, if_neg (by decide), Nat.add_zero]
      · rw [cd_tm_t hd hc]
        have e2 : cd_bS a (k + 1 - 1) S = cd_bS a k S := rfl
        rw [e2, cd_bS_bit C hd hj, Bool.true_and]
        by_cases hf : S &&& cd_sx a k j 32 = cd_sx a k j 32
        · rw [decide_eq_true hf, if_pos rfl, Bool.xor_true]
          by_cases hm : m % 2 = 1
          · rw [decide_eq_true hm, decide_eq_false (by omega)]
            rfl
          · rw [decide_eq_false hm, decide_eq_true (by omega)]
            rfl
        · rw [decide_eq_false hf, if_neg (by decide), Bool.xor_false, Nat.add_zero]
    · rw [cd_tm_f hd, Nat.zero_testBit, Bool.xor_false, cd_nb_f hd]
theorem cd_mod_t {x i : Nat} (h : x.testBit i = true) : x % 2 ^ (i + 1) = x % 2 ^ i ||| 2 ^ i := by
  rw [Nat.or_two_pow_eq_add_of_lt (Nat.mod_lt _ (Nat.two_pow_pos _)), Nat.mod_pow_succ]
  rw [Nat.testBit_eq_decide_div_mod_eq] at h
  rw [of_decide_eq_true h, Nat.mul_one]
theorem cd_mod_f {x i : Nat} (h : x.testBit i = false) : x % 2 ^ (i + 1) = x % 2 ^ i := by
  rw [Nat.mod_pow_succ]
  rw [Nat.testBit_eq_decide_div_mod_eq] at h
  have h2 := of_decide_eq_false h
  rw [show x / 2 ^ i % 2 = 0 by omega, Nat.mul_zero, Nat.add_zero]
