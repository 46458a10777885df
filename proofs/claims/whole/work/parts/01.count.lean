/-! counting below a bound, first occurrences, linear maps over the exclusive-or -/
def cd_cn (p : Nat → Bool) : Nat → Nat
  | 0 => 0
  | c + 1 => cd_cn p c + (if p c = true then 1 else 0)
def cd_hs (T : Nat → Nat) (v : Nat) : Nat → Bool
  | 0 => false
  | c + 1 => cd_hs T v c || (T c == v)
def cd_zr (T : Nat → Nat) (c : Nat) : Nat := cd_cn (fun i => T i == 0) c
def cd_fr (T : Nat → Nat) (c : Nat) : Nat := cd_cn (fun i => !(cd_hs T (T i) i)) c
theorem cd_hs_iff (T : Nat → Nat) (v : Nat) : ∀ c, cd_hs T v c = true ↔ ∃ d, d < c ∧ T d = v := by
  intro c
  induction c with
  | zero =>
    constructor
    · intro h
      exact absurd h (by simp [cd_hs])
    · intro h
      obtain ⟨d, hd, _⟩ := h
      omega
  | succ c ih =>
    rw [cd_hs, Bool.or_eq_true, ih, beq_iff_eq]
    constructor
    · intro h
      rcases h with ⟨d, hd, e⟩ | e
      · exact ⟨d, by omega, e⟩
      · exact ⟨c, by omega, e⟩
    · intro h
      obtain ⟨d, hd, e⟩ := h
      rcases Nat.lt_or_ge d c with h | h
      · exact Or.inl ⟨d, h, e⟩
      · have hc : d = c := by omega
        subst hc
        exact Or.inr e
theorem cd_cn_s (p : Nat → Bool) (c : Nat) : cd_cn p (c + 1) = cd_cn p c + (if p c = true then 1 else 0) := rfl
theorem cd_cn_congr {p q : Nat → Bool} : ∀ c, (∀ i, i < c → p i = q i) → cd_cn p c = cd_cn q c := by
  intro c
  induction c with
  | zero => intro _; rfl
  | succ c ih =>
    intro h
    rw [cd_cn_s, cd_cn_s, ih (fun i hi => h i (by omega)), h c (by omega)]
theorem cd_cn_add (p : Nat → Bool) (m : Nat) : ∀ c, cd_cn p (m + c) = cd_cn p m + cd_cn (fun i => p (m + i)) c := by
  intro c
  induction c with
  | zero => rfl
  | succ c ih =>
    rw [← Nat.add_assoc, cd_cn_s, cd_cn_s, ih, Nat.add_assoc]
theorem cd_cn_false {p : Nat → Bool} : ∀ c, (∀ i, i < c → p i = false) → cd_cn p c = 0 := by
  intro c
  induction c with
  | zero => intro _; rfl
  | succ c ih =>
    intro h
    rw [cd_cn_s, ih (fun i hi => h i (by omega)), h c (by omega)]
    rfl
theorem cd_cn_le {p q : Nat → Bool} : ∀ c, (∀ i, i < c → p i = true → q i = true) → cd_cn p c ≤ cd_cn q c := by
  intro c
  induction c with
  | zero => intro _; exact Nat.le_refl _
  | succ c ih =>
    intro h
    rw [cd_cn_s, cd_cn_s]
    have h1 := ih (fun i hi => h i (by omega))
    by_cases hp : p c = true
    · rw [if_pos hp, if_pos (h c (by omega) hp)]
      omega
    · rw [if_neg hp]
      omega
theorem cd_cn_or (p : Nat → Bool) (w : Nat) : ∀ M, cd_cn (fun v => p v || (w == v)) M = cd_cn p M + (if w < M ∧ p w = false then 1 else 0) := by
  intro M
  induction M with
  | zero => rw [if_neg (by omega)]; rfl
  | succ M ih =>
    rw [cd_cn_s, cd_cn_s, ih]
    by_cases hw : w = M
    · subst hw
      rw [if_neg (by omega : ¬ (w < w ∧ p w = false))]
      cases hp : p w
      · rw [if_pos (by simp), if_neg (by simp), if_pos ⟨by omega, rfl⟩]
      · rw [if_pos (by simp), if_pos rfl, if_neg (by simp)]
    · have e : (p M || (w == M)) = p M := by
        have : (w == M) = false := by simpa using hw
        rw [this, Bool.or_false]
      rw [e]
      by_cases hp : w < M ∧ p w = false
      · have hp2 : w < M + 1 ∧ p w = false := ⟨by omega, hp.2⟩
        rw [if_pos hp, if_pos hp2]
        omega
      · have hp2 : ¬ (w < M + 1 ∧ p w = false) := fun z => hp ⟨by omega, z.2⟩
        rw [if_neg hp, if_neg hp2]
        omega
theorem cd_xl (a b c : Nat) : a ^^^ (b ^^^ c) = b ^^^ (a ^^^ c) := by rw [← Nat.xor_assoc, Nat.xor_comm a b, Nat.xor_assoc]
theorem cd_xc (a b c : Nat) : (a ^^^ b) ^^^ (a ^^^ c) = b ^^^ c := by rw [Nat.xor_assoc, cd_xl b a c, ← Nat.xor_assoc, Nat.xor_self, Nat.zero_xor]
theorem cd_xk (a b : Nat) : (a ^^^ b) ^^^ b = a := by rw [Nat.xor_assoc, Nat.xor_self, Nat.xor_zero]
theorem cd_x0 {a b : Nat} : a ^^^ b = 0 ↔ a = b := by
  constructor
  · intro h
    have e := cd_xk a b
    rw [h, Nat.zero_xor] at e
    exact e.symm
  · intro h
    rw [h, Nat.xor_self]
theorem cd_hi {n c : Nat} (h : c < 2 ^ n) : 2 ^ n + c = 2 ^ n ^^^ c := by
  apply Nat.eq_of_testBit_eq
  intro j
  have e := Nat.testBit_two_pow_mul_add 1 h j
  rw [Nat.mul_one] at e
  rw [e, Nat.testBit_xor, Nat.testBit_two_pow]
  rcases Nat.lt_or_ge j n with hj | hj
  · rw [if_pos hj, decide_eq_false (by omega)]
    simp
  · rw [if_neg (by omega)]
    have hc : c.testBit j = false := Nat.testBit_lt_two_pow (Nat.lt_of_lt_of_le h (Nat.pow_le_pow_right (by omega) hj))
    rw [hc, Bool.xor_false]
    rcases Nat.eq_or_lt_of_le hj with hh | hh
    · subst hh
      simp
    · rw [decide_eq_false (by omega), show j - n = (j - n - 1) + 1 by omega, Nat.testBit_add_one]
      simp
theorem cd_cn_xor : ∀ (n : Nat) (p : Nat → Bool) (e : Nat), e < 2 ^ n → cd_cn (fun c => p (c ^^^ e)) (2 ^ n) = cd_cn p (2 ^ n) := by
  intro n
  induction n with
  | zero =>
    intro p e he
    have h0 : e = 0 := by
      have : (2 : Nat) ^ 0 = 1 := rfl
      omega
    subst h0
    exact cd_cn_congr _ (fun i _ => by rw [Nat.xor_zero])
  | succ n ih =>
    intro p e he
    rw [Nat.two_pow_succ, cd_cn_add, cd_cn_add]
    rw [Nat.two_pow_succ] at he
    rcases Nat.lt_or_ge e (2 ^ n) with h | h
    · have g : cd_cn (fun i => p ((2 ^ n + i) ^^^ e)) (2 ^ n) = cd_cn (fun i => (fun j => p (2 ^ n + j)) (i ^^^ e)) (2 ^ n) := cd_cn_congr (2 ^ n) (fun i hi => by
        show p ((2 ^ n + i) ^^^ e) = p (2 ^ n + (i ^^^ e))
        rw [cd_hi hi, cd_hi (Nat.xor_lt_two_pow hi h), Nat.xor_assoc])
      rw [ih p e h, g, ih (fun j => p (2 ^ n + j)) e h]
    · obtain ⟨f, rfl⟩ : ∃ f, e = 2 ^ n + f := ⟨e - 2 ^ n, by omega⟩
      have hf : f < 2 ^ n := by omega
      rw [cd_cn_congr (q := fun i => (fun j => p (2 ^ n + j)) (i ^^^ f)) (2 ^ n) (fun i hi => by
        show p (i ^^^ (2 ^ n + f)) = p (2 ^ n + (i ^^^ f))
        rw [cd_hi hf, cd_hi (Nat.xor_lt_two_pow hi hf), cd_xl]), ih (fun j => p (2 ^ n + j)) f hf]
      rw [cd_cn_congr (p := fun i => p ((2 ^ n + i) ^^^ (2 ^ n + f))) (q := fun i => p (i ^^^ f)) (2 ^ n) (fun i hi => by
        show p ((2 ^ n + i) ^^^ (2 ^ n + f)) = p (i ^^^ f)
        rw [cd_hi hf, cd_hi hi, cd_xc]), ih p f hf, Nat.add_comm]
/-- a value new to a linear map doubles its values; an old one doubles its zeros -/
theorem cd_rank {T T' : Nat → Nat} {n z v : Nat} (hl : ∀ c d, T (c ^^^ d) = T c ^^^ T d) (h1 : ∀ c, c < 2 ^ n → T' c = T c) (h2 : ∀ c, c < 2 ^ n → T' (2 ^ n + c) = T c ^^^ v) (hz : z ≤ n) (hZ : cd_zr T (2 ^ n) = 2 ^ z) (hF : cd_fr T (2 ^ n) = 2 ^ (n - z)) : ∃ z', z' ≤ n + 1 ∧ cd_zr T' (2 ^ (n + 1)) = 2 ^ z' ∧ cd_fr T' (2 ^ (n + 1)) = 2 ^ (n + 1 - z') := by
  have hh : ∀ (w c : Nat), c ≤ 2 ^ n → (cd_hs T' w c = true ↔ ∃ d, d < c ∧ T d = w) := by
    intro w c hc
    rw [cd_hs_iff]
    constructor
    · intro h
      obtain ⟨d, hd, e⟩ := h
      exact ⟨d, hd, by rw [← h1 d (by omega)]; exact e⟩
    · intro h
      obtain ⟨d, hd, e⟩ := h
      exact ⟨d, hd, by rw [h1 d (by omega)]; exact e⟩
  have hZ1 : cd_cn (fun i => T' i == 0) (2 ^ n) = 2 ^ z := by
    rw [← hZ]
    exact cd_cn_congr _ (fun i hi => by rw [h1 i hi])
  have hF1 : cd_cn (fun i => !(cd_hs T' (T' i) i)) (2 ^ n) = 2 ^ (n - z) := by
    rw [← hF]
    refine cd_cn_congr _ (fun i hi => ?_)
    have : cd_hs T' (T' i) i = cd_hs T (T i) i := by
      rw [Bool.eq_iff_iff, hh _ _ (by omega), cd_hs_iff, h1 i hi]
    rw [this]
  by_cases hv : ∃ e, e < 2 ^ n ∧ T e = v
  · obtain ⟨e, he, ev⟩ := hv
    refine ⟨z + 1, by omega, ?_, ?_⟩
    · rw [cd_zr, Nat.two_pow_succ, cd_cn_add, hZ1, cd_cn_congr (q := fun i => (fun c => T c == 0) (i ^^^ e)) (2 ^ n) (fun i hi => by
        show (T' (2 ^ n + i) == 0) = (T (i ^^^ e) == 0)
        rw [h2 i hi, hl, ev]), cd_cn_xor n (fun c => T c == 0) e he, Nat.two_pow_succ]
      rw [cd_zr] at hZ
      rw [hZ]
    · rw [cd_fr, Nat.two_pow_succ, cd_cn_add, hF1, cd_cn_false (2 ^ n) (fun i hi => by
        have : cd_hs T' (T' (2 ^ n + i)) (2 ^ n + i) = true := by
          rw [cd_hs_iff]
          have hx := Nat.xor_lt_two_pow hi he
          exact ⟨i ^^^ e, by omega, by rw [h1 _ hx, h2 i hi, hl, ev]⟩
        rw [this]
        rfl), Nat.add_zero]
      rw [show n + 1 - (z + 1) = n - z by omega]
  · refine ⟨z, by omega, ?_, ?_⟩
    · rw [cd_zr, Nat.two_pow_succ, cd_cn_add, hZ1, cd_cn_false (2 ^ n) (fun i hi => by
        have : ¬ T' (2 ^ n + i) = 0 := by
          rw [h2 i hi, cd_x0]
          exact fun q => hv ⟨i, hi, q⟩
        simpa using this), Nat.add_zero]
    · rw [cd_fr, Nat.two_pow_succ, cd_cn_add, hF1, cd_cn_congr (q := fun i => !(cd_hs T (T i) i)) (2 ^ n) (fun i hi => by
        have : cd_hs T' (T' (2 ^ n + i)) (2 ^ n + i) = cd_hs T (T i) i := by
          rw [Bool.eq_iff_iff, cd_hs_iff, cd_hs_iff, h2 i hi]
          constructor
          · intro h
            obtain ⟨d, hd, q⟩ := h
            rcases Nat.lt_or_ge d (2 ^ n) with hdn | hdn
            · rw [h1 d hdn] at q
              refine absurd ⟨d ^^^ i, Nat.xor_lt_two_pow hdn hi, ?_⟩ hv
              rw [hl, q, Nat.xor_comm, ← Nat.xor_assoc, Nat.xor_self, Nat.zero_xor]
            · obtain ⟨f, rfl⟩ : ∃ f, d = 2 ^ n + f := ⟨d - 2 ^ n, by omega⟩
              rw [h2 f (by omega)] at q
              refine ⟨f, by omega, ?_⟩
              have q2 := congrArg (fun y => y ^^^ v) q
              simpa only [cd_xk] using q2
          · intro h
            obtain ⟨d, hd, q⟩ := h
            exact ⟨2 ^ n + d, by omega, by rw [h2 d (by omega), q]⟩
        show (!(cd_hs T' (T' (2 ^ n + i)) (2 ^ n + i))) = _
        rw [this])]
      rw [cd_fr] at hF
      rw [hF, show n + 1 - z = (n - z) + 1 by omega, Nat.two_pow_succ]
/-- the first occurrences are as many as the values -/
theorem cd_fr_cn (T : Nat → Nat) (M : Nat) : ∀ C, (∀ d, d < C → T d < M) → cd_fr T C = cd_cn (fun v => cd_hs T v C) M := by
  intro C
  induction C with
  | zero =>
    intro _
    exact (cd_cn_false (p := fun v => cd_hs T v 0) M (fun i _ => rfl)).symm
  | succ C ih =>
    intro h
    have e : cd_cn (fun v => cd_hs T v (C + 1)) M = cd_cn (fun v => (fun w => cd_hs T w C) v || (T C == v)) M := rfl
    rw [e, cd_cn_or (fun w => cd_hs T w C) (T C) M, ← ih (fun d hd => h d (by omega)), cd_fr, cd_cn_s, cd_fr]
    have hC := h C (by omega)
    cases hs : cd_hs T (T C) C
    · rw [if_pos (by simp), if_pos ⟨hC, by simpa using hs⟩]
    · rw [if_neg (by simp), if_neg (by simp [hs])]
theorem cd_fr_le {T : Nat → Nat} {q : Nat → Bool} {C M : Nat} (h : ∀ d, d < C → T d < M) (hq : ∀ d, d < C → q (T d) = true) : cd_fr T C ≤ cd_cn q M := by
  rw [cd_fr_cn T M C h]
  refine cd_cn_le _ (fun i _ hi => ?_)
  rw [cd_hs_iff] at hi
  obtain ⟨d, hd, e⟩ := hi
  rw [← e]
  exact hq d hd
