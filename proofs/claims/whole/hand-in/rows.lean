section
/-! rows pasted from the kit -/
theorem pk_us {f : Nat → Int32} {k : Nat} {x : Int32} : upd f k x k = x := if_pos rfl
theorem pk_un {f : Nat → Int32} {k j : Nat} {x : Int32} (h : j ≠ k) : upd f k x j = f j := if_neg h
theorem pk_sub {a b : Nat} (h : b ≤ a) : nI a - nI b = nI (a - b) := by
  obtain ⟨c, rfl⟩ : ∃ c, a = c + b := ⟨a - b, by omega⟩
  rw [← nI_add, Int32.add_sub_cancel, Nat.add_sub_cancel]
theorem pk_m1 (n : Nat) : nI (n + 1) + (-1) = nI n := by
  rw [← nI_1, Int32.add_assoc, show (1 : Int32) + (-1) = 0 from rfl, Int32.add_zero]
theorem pk_mul (a b : Nat) : nI a * nI b = nI (a * b) := (Int32.ofNat_mul a b).symm
theorem pk_div {a d : Nat} (ha : a < 2 ^ 31) (h0 : 0 < d) (hd : d < 2 ^ 31) : nI a / nI d = nI (a / d) := by
  apply Int32.toInt_inj.mp
  rw [lg_idiv_nonneg (by rw [nI_toInt ha]; omega) (by rw [nI_toInt hd]; omega), nI_toInt ha, nI_toInt hd, nI_toInt (Nat.lt_of_le_of_lt (Nat.div_le_self a d) ha)]
  first | rfl | exact (Int.natCast_ediv _ _).symm
theorem pk_rem {a d : Nat} (ha : a < 2 ^ 31) (h0 : 0 < d) (hd : d < 2 ^ 31) : nI a - nI a / nI d * nI d = nI (a % d) := by
  rw [pk_div ha h0 hd, pk_mul, pk_sub (Nat.div_mul_le_self a d)]
  exact congrArg nI (by have := Nat.div_add_mod' a d; omega)
theorem pk_sub_toInt {a b : Nat} (ha : a < 2 ^ 30) (hb : b < 2 ^ 30) : (nI a - nI b).toInt = (a : Int) - b := by
  rw [Int32.toInt_sub, nI_toInt (by omega), nI_toInt (by omega)]
  exact Int.bmod_eq_of_le (by omega) (by omega)
theorem pk_le {x y : Int32} {A B : Prop} (a b : Nat) (f : a ≤ b → A) (g : b < a → B) (hx : x = nI a := by rfl) (hy : y = nI b := by rfl) (ha : a < 2 ^ 31 := by omega) (hb : b < 2 ^ 31 := by omega) : (x ≤ y → A) ∧ (¬ x ≤ y → B) := by
  subst hx hy
  rw [nI_leI ha hb]
  exact ⟨f, fun z => g (by omega)⟩
theorem pk_lt {x y : Int32} {A B : Prop} (a b : Nat) (f : a < b → A) (g : b ≤ a → B) (hx : x = nI a := by rfl) (hy : y = nI b := by rfl) (ha : a < 2 ^ 31 := by omega) (hb : b < 2 ^ 31 := by omega) : (x < y → A) ∧ (¬ x < y → B) := by
  subst hx hy
  rw [nI_ltI ha hb]
  exact ⟨f, fun z => g (by omega)⟩
theorem pk_eq {x y : Int32} {A B : Prop} (a b : Nat) (f : a = b → A) (g : a ≠ b → B) (hx : x = nI a := by rfl) (hy : y = nI b := by rfl) (ha : a < 2 ^ 31 := by omega) (hb : b < 2 ^ 31 := by omega) : (x = y → A) ∧ (¬ x = y → B) := by
  subst hx hy
  rw [nI_eq ha hb]
  exact ⟨f, g⟩
theorem pk_in {x : Int32} (n N : Nat) (h : n < N) (hx : x = nI n := by rfl) (hN : N < 2 ^ 31 := by omega) : vp_in x N := by
  subst hx
  exact vp_in_nI h hN
theorem pk_cl {x : Int32} (n : Nat) (hx : x = nI n := by rfl) (h : n < 2 ^ 31 := by omega) : x.toNatClampNeg = n := by
  subst hx
  exact nI_clamp h
theorem pk_tn {n : Nat} (h : n < 2 ^ 32) : (nI n).toBitVec.toNat = n := Nat.mod_eq_of_lt h
theorem pk_and (x : Int32) {m : Int32} (k : Nat) (hm : m.toBitVec.toNat = 2 ^ k - 1) : x &&& m = nI (x.toBitVec.toNat % 2 ^ k) := by
  apply Int32.toBitVec_inj.mp
  apply BitVec.eq_of_toNat_eq
  rw [Int32.toBitVec_and, BitVec.toNat_and, hm, Nat.and_two_pow_sub_one_eq_mod]
  show _ = (BitVec.ofNat 32 _).toNat
  rw [BitVec.toNat_ofNat]
  exact (Nat.mod_eq_of_lt (Nat.lt_of_le_of_lt (Nat.mod_le _ _) x.toBitVec.isLt)).symm
theorem pk_andN {n : Nat} (h : n < 2 ^ 32) {m : Int32} (k : Nat) (hm : m.toBitVec.toNat = 2 ^ k - 1) : nI n &&& m = nI (n % 2 ^ k) := by
  rw [pk_and _ k hm, pk_tn h]
theorem pk_shl (a s : Int32) (k : Nat) (hs : (s.toBitVec.smod 32).toNat = k) : (a <<< s).toBitVec.toNat = a.toBitVec.toNat * 2 ^ k % 2 ^ 32 := by
  show (a.toBitVec <<< (s.toBitVec.smod 32).toNat).toNat = _
  rw [hs, BitVec.toNat_shiftLeft, Nat.shiftLeft_eq]
theorem pk_shlN {n : Nat} (s : Int32) (k : Nat) (hs : (s.toBitVec.smod 32).toNat = k) (h : n * 2 ^ k < 2 ^ 32) : nI n <<< s = nI (n * 2 ^ k) := by
  apply Int32.toBitVec_inj.mp
  apply BitVec.eq_of_toNat_eq
  have hn : n < 2 ^ 32 := Nat.lt_of_le_of_lt (Nat.le_mul_of_pos_right n (Nat.two_pow_pos k)) h
  rw [pk_shl _ _ k hs, pk_tn hn, pk_tn h, Nat.mod_eq_of_lt h]
theorem pk_shr (a s : Int32) (k : Nat) (hs : (s.toBitVec.smod 32).toNat = k) : (a >>> s).toInt = a.toInt >>> k := by
  show (a.toBitVec.sshiftRight (s.toBitVec.smod 32).toNat).toInt = _
  rw [hs, BitVec.toInt_sshiftRight]
  rfl
theorem pk_shrN {n : Nat} (h : n < 2 ^ 31) (s : Int32) (k : Nat) (hs : (s.toBitVec.smod 32).toNat = k) : nI n >>> s = nI (n / 2 ^ k) := by
  apply Int32.toInt_inj.mp
  have h2 : n / 2 ^ k ≤ n := Nat.div_le_self _ _
  rw [pk_shr _ _ k hs, nI_toInt h, nI_toInt (by omega), Int.shiftRight_eq_div_pow]
  rfl
theorem pk_loop {σ : Type} (W : Nat → Nat → σ → Prop) (I : Nat → σ → Prop) (e i0 : Nat) (s : σ) (hi : i0 ≤ e) (h0 : I i0 s) (hx : ∀ n s, I e s → W (n + 1) e s)
    (hs : ∀ n i s, i < e → I i s → (∀ s', I (i + 1) s' → W n (i + 1) s') → W (n + 1) i s) : ∃ n, W n i0 s :=
  ⟨e + 1, loop_i W I e hx hs (e + 1) i0 s hi (by omega) h0⟩
theorem s_l : ∀ n, n < 32 → ((nI n &&& 31).toBitVec.smod 32).toNat = n := by decide +kernel
theorem nx_and (a b : Nat) : nI a &&& nI b = nI (a &&& b) := by
  apply Int32.toBitVec_inj.1
  show BitVec.ofNat 32 a &&& BitVec.ofNat 32 b = BitVec.ofNat 32 (a &&& b)
  apply BitVec.eq_of_getLsbD_eq
  intro i hi
  simp [hi]
theorem nx_xor (a b : Nat) : nI a ^^^ nI b = nI (a ^^^ b) := by
  apply Int32.toBitVec_inj.1
  show BitVec.ofNat 32 a ^^^ BitVec.ofNat 32 b = BitVec.ofNat 32 (a ^^^ b)
  apply BitVec.eq_of_getLsbD_eq
  intro i hi
  simp [hi]
/-! more arithmetic -/
theorem ca_or (a b : Nat) : nI a ||| nI b = nI (a ||| b) := by
  apply Int32.toBitVec_inj.1
  show BitVec.ofNat 32 a ||| BitVec.ofNat 32 b = BitVec.ofNat 32 (a ||| b)
  apply BitVec.eq_of_getLsbD_eq
  intro i hi
  simp [hi]
theorem ca_p31 {n : Nat} (h : n < 31) : 2 ^ n < 2 ^ 31 := Nat.pow_lt_pow_right (by omega) h
theorem ca_shl {m n : Nat} (hn : n < 31) (h : m * 2 ^ n < 2 ^ 31) : nI m <<< (nI n &&& 31) = nI (m * 2 ^ n) := pk_shlN (nI n &&& 31) n (s_l n (by omega)) (by omega)
theorem ca_1shl {n : Nat} (hn : n < 31) : (1 : Int32) <<< (nI n &&& 31) = nI (2 ^ n) := by
  have h := ca_shl (m := 1) hn (by rw [Nat.one_mul]; exact ca_p31 hn)
  rw [Nat.one_mul] at h
  exact h
theorem ca_bit {c i : Nat} (hc : c < 2 ^ 31) (hi : i < 31) : (nI c >>> (nI i &&& 31)) &&& 1 = nI (c / 2 ^ i % 2) := by
  have h2 : c / 2 ^ i ≤ c := Nat.div_le_self _ _
  rw [pk_shrN hc (nI i &&& 31) i (s_l i (by omega)), pk_andN (by omega) 1 (by decide), Nat.pow_one]
theorem ca_tb {c i : Nat} (hc : c < 2 ^ 31) (hi : i < 31) : ((nI c >>> (nI i &&& 31)) &&& 1) = 1 ↔ c.testBit i = true := by
  rw [ca_bit hc hi, Nat.testBit_eq_decide_div_mod_eq, decide_eq_true_iff]
  show nI _ = nI 1 ↔ _
  rw [nI_eq (by omega) (by omega)]
theorem ca_and (s f : Nat) (hf : f < 2 ^ 31) : nI s &&& nI f = nI f ↔ s &&& f = f := by
  have h : s &&& f ≤ f := Nat.and_le_right
  rw [nx_and, nI_eq (by omega) hf]
end
section
/-! counting below a bound, first occurrences, linear maps over the exclusive-or -/
def cd_cn (p : Nat → Bool) : Nat → Nat
  | 0 => 0
  | c + 1 => cd_cn p c + (if p c = true then 1 else 0)
def cd_hs (T : Nat → Nat) (v : Nat) : Nat → Bool
  | 0 => false
  | c + 1 => cd_hs T v c || (T c == v)
def cd_zr (T : Nat → Nat) (c : Nat) : Nat := cd_cn (fun i => T i == 0) c
def cd_fr (T : Nat → Nat) (c : Nat) : Nat := cd_cn (fun i => !(cd_hs T (T i) i)) c
theorem cd_hs_iff (T : Nat → Nat) (v : Nat) : ∀ c, cd_hs T v c = true ↔ ∃ d, d < c ∧ T d = v := by
  intro c
  induction c with
  | zero =>
    constructor
    · intro h
      exact absurd h (by simp [cd_hs])
    · intro h
      obtain ⟨d, hd, _⟩ := h
      omega
  | succ c ih =>
    rw [cd_hs, Bool.or_eq_true, ih, beq_iff_eq]
    constructor
    · intro h
      rcases h with ⟨d, hd, e⟩ | e
      · exact ⟨d, by omega, e⟩
      · exact ⟨c, by omega, e⟩
    · intro h
      obtain ⟨d, hd, e⟩ := h
      rcases Nat.lt_or_ge d c with h | h
      · exact Or.inl ⟨d, h, e⟩
      · have hc : d = c := by omega
        subst hc
        exact Or.inr e
theorem cd_cn_s (p : Nat → Bool) (c : Nat) : cd_cn p (c + 1) = cd_cn p c + (if p c = true then 1 else 0) := rfl
theorem cd_cn_congr {p q : Nat → Bool} : ∀ c, (∀ i, i < c → p i = q i) → cd_cn p c = cd_cn q c := by
  intro c
  induction c with
  | zero => intro _; rfl
  | succ c ih =>
    intro h
    rw [cd_cn_s, cd_cn_s, ih (fun i hi => h i (by omega)), h c (by omega)]
theorem cd_cn_add (p : Nat → Bool) (m : Nat) : ∀ c, cd_cn p (m + c) = cd_cn p m + cd_cn (fun i => p (m + i)) c := by
  intro c
  induction c with
  | zero => rfl
  | succ c ih =>
    rw [← Nat.add_assoc, cd_cn_s, cd_cn_s, ih, Nat.add_assoc]
theorem cd_cn_false {p : Nat → Bool} : ∀ c, (∀ i, i < c → p i = false) → cd_cn p c = 0 := by
  intro c
  induction c with
  | zero => intro _; rfl
  | succ c ih =>
    intro h
    rw [cd_cn_s, ih (fun i hi => h i (by omega)), h c (by omega)]
    rfl
theorem cd_cn_le {p q : Nat → Bool} : ∀ c, (∀ i, i < c → p i = true → q i = true) → cd_cn p c ≤ cd_cn q c := by
  intro c
  induction c with
  | zero => intro _; exact Nat.le_refl _
  | succ c ih =>
    intro h
    rw [cd_cn_s, cd_cn_s]
    have h1 := ih (fun i hi => h i (by omega))
    by_cases hp : p c = true
    · rw [if_pos hp, if_pos (h c (by omega) hp)]
      omega
    · rw [if_neg hp]
      omega
theorem cd_cn_or (p : Nat → Bool) (w : Nat) : ∀ M, cd_cn (fun v => p v || (w == v)) M = cd_cn p M + (if w < M ∧ p w = false then 1 else 0) := by
  intro M
  induction M with
  | zero => rw [if_neg (by omega)]; rfl
  | succ M ih =>
    rw [cd_cn_s, cd_cn_s, ih]
    by_cases hw : w = M
    · subst hw
      rw [if_neg (by omega : ¬ (w < w ∧ p w = false))]
      cases hp : p w
      · rw [if_pos (by simp), if_neg (by simp), if_pos ⟨by omega, rfl⟩]
      · rw [if_pos (by simp), if_pos rfl, if_neg (by simp)]
    · have e : (p M || (w == M)) = p M := by
        have : (w == M) = false := by simpa using hw
        rw [this, Bool.or_false]
      rw [e]
      by_cases hp : w < M ∧ p w = false
      · have hp2 : w < M + 1 ∧ p w = false := ⟨by omega, hp.2⟩
        rw [if_pos hp, if_pos hp2]
        omega
      · have hp2 : ¬ (w < M + 1 ∧ p w = false) := fun z => hp ⟨by omega, z.2⟩
        rw [if_neg hp, if_neg hp2]
        omega
theorem cd_xl (a b c : Nat) : a ^^^ (b ^^^ c) = b ^^^ (a ^^^ c) := by rw [← Nat.xor_assoc, Nat.xor_comm a b, Nat.xor_assoc]
theorem cd_xc (a b c : Nat) : (a ^^^ b) ^^^ (a ^^^ c) = b ^^^ c := by rw [Nat.xor_assoc, cd_xl b a c, ← Nat.xor_assoc, Nat.xor_self, Nat.zero_xor]
theorem cd_xk (a b : Nat) : (a ^^^ b) ^^^ b = a := by rw [Nat.xor_assoc, Nat.xor_self, Nat.xor_zero]
theorem cd_x0 {a b : Nat} : a ^^^ b = 0 ↔ a = b := by
  constructor
  · intro h
    have e := cd_xk a b
    rw [h, Nat.zero_xor] at e
    exact e.symm
  · intro h
    rw [h, Nat.xor_self]
theorem cd_hi {n c : Nat} (h : c < 2 ^ n) : 2 ^ n + c = 2 ^ n ^^^ c := by
  apply Nat.eq_of_testBit_eq
  intro j
  have e := Nat.testBit_two_pow_mul_add 1 h j
  rw [Nat.mul_one] at e
  rw [e, Nat.testBit_xor, Nat.testBit_two_pow]
  rcases Nat.lt_or_ge j n with hj | hj
  · rw [if_pos hj, decide_eq_false (by omega)]
    simp
  · rw [if_neg (by omega)]
    have hc : c.testBit j = false := Nat.testBit_lt_two_pow (Nat.lt_of_lt_of_le h (Nat.pow_le_pow_right (by omega) hj))
    rw [hc, Bool.xor_false]
    rcases Nat.eq_or_lt_of_le hj with hh | hh
    · subst hh
      simp
    · rw [decide_eq_false (by omega), show j - n = (j - n - 1) + 1 by omega, Nat.testBit_add_one]
      simp
theorem cd_cn_xor : ∀ (n : Nat) (p : Nat → Bool) (e : Nat), e < 2 ^ n → cd_cn (fun c => p (c ^^^ e)) (2 ^ n) = cd_cn p (2 ^ n) := by
  intro n
  induction n with
  | zero =>
    intro p e he
    have h0 : e = 0 := by
      have : (2 : Nat) ^ 0 = 1 := rfl
      omega
    subst h0
    exact cd_cn_congr _ (fun i _ => by rw [Nat.xor_zero])
  | succ n ih =>
    intro p e he
    rw [Nat.two_pow_succ, cd_cn_add, cd_cn_add]
    rw [Nat.two_pow_succ] at he
    rcases Nat.lt_or_ge e (2 ^ n) with h | h
    · have g : cd_cn (fun i => p ((2 ^ n + i) ^^^ e)) (2 ^ n) = cd_cn (fun i => (fun j => p (2 ^ n + j)) (i ^^^ e)) (2 ^ n) := cd_cn_congr (2 ^ n) (fun i hi => by
        show p ((2 ^ n + i) ^^^ e) = p (2 ^ n + (i ^^^ e))
        rw [cd_hi hi, cd_hi (Nat.xor_lt_two_pow hi h), Nat.xor_assoc])
      rw [ih p e h, g, ih (fun j => p (2 ^ n + j)) e h]
    · obtain ⟨f, rfl⟩ : ∃ f, e = 2 ^ n + f := ⟨e - 2 ^ n, by omega⟩
      have hf : f < 2 ^ n := by omega
      rw [cd_cn_congr (q := fun i => (fun j => p (2 ^ n + j)) (i ^^^ f)) (2 ^ n) (fun i hi => by
        show p (i ^^^ (2 ^ n + f)) = p (2 ^ n + (i ^^^ f))
        rw [cd_hi hf, cd_hi (Nat.xor_lt_two_pow hi hf), cd_xl]), ih (fun j => p (2 ^ n + j)) f hf]
      rw [cd_cn_congr (p := fun i => p ((2 ^ n + i) ^^^ (2 ^ n + f))) (q := fun i => p (i ^^^ f)) (2 ^ n) (fun i hi => by
        show p ((2 ^ n + i) ^^^ (2 ^ n + f)) = p (i ^^^ f)
        rw [cd_hi hf, cd_hi hi, cd_xc]), ih p f hf, Nat.add_comm]
/-- a value new to a linear map doubles its values; an old one doubles its zeros -/
theorem cd_rank {T T' : Nat → Nat} {n z v : Nat} (hl : ∀ c d, T (c ^^^ d) = T c ^^^ T d) (h1 : ∀ c, c < 2 ^ n → T' c = T c) (h2 : ∀ c, c < 2 ^ n → T' (2 ^ n + c) = T c ^^^ v) (hz : z ≤ n) (hZ : cd_zr T (2 ^ n) = 2 ^ z) (hF : cd_fr T (2 ^ n) = 2 ^ (n - z)) : ∃ z', z' ≤ n + 1 ∧ cd_zr T' (2 ^ (n + 1)) = 2 ^ z' ∧ cd_fr T' (2 ^ (n + 1)) = 2 ^ (n + 1 - z') := by
  have hh : ∀ (w c : Nat), c ≤ 2 ^ n → (cd_hs T' w c = true ↔ ∃ d, d < c ∧ T d = w) := by
    intro w c hc
    rw [cd_hs_iff]
    constructor
    · intro h
      obtain ⟨d, hd, e⟩ := h
      exact ⟨d, hd, by rw [← h1 d (by omega)]; exact e⟩
    · intro h
      obtain ⟨d, hd, e⟩ := h
      exact ⟨d, hd, by rw [h1 d (by omega)]; exact e⟩
  have hZ1 : cd_cn (fun i => T' i == 0) (2 ^ n) = 2 ^ z := by
    rw [← hZ]
    exact cd_cn_congr _ (fun i hi => by rw [h1 i hi])
  have hF1 : cd_cn (fun i => !(cd_hs T' (T' i) i)) (2 ^ n) = 2 ^ (n - z) := by
    rw [← hF]
    refine cd_cn_congr _ (fun i hi => ?_)
    have : cd_hs T' (T' i) i = cd_hs T (T i) i := by
      rw [Bool.eq_iff_iff, hh _ _ (by omega), cd_hs_iff, h1 i hi]
    rw [this]
  by_cases hv : ∃ e, e < 2 ^ n ∧ T e = v
  · obtain ⟨e, he, ev⟩ := hv
    refine ⟨z + 1, by omega, ?_, ?_⟩
    · rw [cd_zr, Nat.two_pow_succ, cd_cn_add, hZ1, cd_cn_congr (q := fun i => (fun c => T c == 0) (i ^^^ e)) (2 ^ n) (fun i hi => by
        show (T' (2 ^ n + i) == 0) = (T (i ^^^ e) == 0)
        rw [h2 i hi, hl, ev]), cd_cn_xor n (fun c => T c == 0) e he, Nat.two_pow_succ]
      rw [cd_zr] at hZ
      rw [hZ]
    · rw [cd_fr, Nat.two_pow_succ, cd_cn_add, hF1, cd_cn_false (2 ^ n) (fun i hi => by
        have : cd_hs T' (T' (2 ^ n + i)) (2 ^ n + i) = true := by
          rw [cd_hs_iff]
          have hx := Nat.xor_lt_two_pow hi he
          exact ⟨i ^^^ e, by omega, by rw [h1 _ hx, h2 i hi, hl, ev]⟩
        rw [this]
        rfl), Nat.add_zero]
      rw [show n + 1 - (z + 1) = n - z by omega]
  · refine ⟨z, by omega, ?_, ?_⟩
    · rw [cd_zr, Nat.two_pow_succ, cd_cn_add, hZ1, cd_cn_false (2 ^ n) (fun i hi => by
        have : ¬ T' (2 ^ n + i) = 0 := by
          rw [h2 i hi, cd_x0]
          exact fun q => hv ⟨i, hi, q⟩
        simpa using this), Nat.add_zero]
    · rw [cd_fr, Nat.two_pow_succ, cd_cn_add, hF1, cd_cn_congr (q := fun i => !(cd_hs T (T i) i)) (2 ^ n) (fun i hi => by
        have : cd_hs T' (T' (2 ^ n + i)) (2 ^ n + i) = cd_hs T (T i) i := by
          rw [Bool.eq_iff_iff, cd_hs_iff, cd_hs_iff, h2 i hi]
          constructor
          · intro h
            obtain ⟨d, hd, q⟩ := h
            rcases Nat.lt_or_ge d (2 ^ n) with hdn | hdn
            · rw [h1 d hdn] at q
              refine absurd ⟨d ^^^ i, Nat.xor_lt_two_pow hdn hi, ?_⟩ hv
              rw [hl, q, Nat.xor_comm, ← Nat.xor_assoc, Nat.xor_self, Nat.zero_xor]
            · obtain ⟨f, rfl⟩ : ∃ f, d = 2 ^ n + f := ⟨d - 2 ^ n, by omega⟩
              rw [h2 f (by omega)] at q
              refine ⟨f, by omega, ?_⟩
              have q2 := congrArg (fun y => y ^^^ v) q
              simpa only [cd_xk] using q2
          · intro h
            obtain ⟨d, hd, q⟩ := h
            exact ⟨2 ^ n + d, by omega, by rw [h2 d (by omega), q]⟩
        show (!(cd_hs T' (T' (2 ^ n + i)) (2 ^ n + i))) = _
        rw [this])]
      rw [cd_fr] at hF
      rw [hF, show n + 1 - z = (n - z) + 1 by omega, Nat.two_pow_succ]
/-- the first occurrences are as many as the values -/
theorem cd_fr_cn (T : Nat → Nat) (M : Nat) : ∀ C, (∀ d, d < C → T d < M) → cd_fr T C = cd_cn (fun v => cd_hs T v C) M := by
  intro C
  induction C with
  | zero =>
    intro _
    exact (cd_cn_false (p := fun v => cd_hs T v 0) M (fun i _ => rfl)).symm
  | succ C ih =>
    intro h
    have e : cd_cn (fun v => cd_hs T v (C + 1)) M = cd_cn (fun v => (fun w => cd_hs T w C) v || (T C == v)) M := rfl
    rw [e, cd_cn_or (fun w => cd_hs T w C) (T C) M, ← ih (fun d hd => h d (by omega)), cd_fr, cd_cn_s, cd_fr]
    have hC := h C (by omega)
    cases hs : cd_hs T (T C) C
    · rw [if_pos (by simp), if_pos ⟨hC, by simpa using hs⟩]
    · rw [if_neg (by simp), if_neg (by simp [hs])]
theorem cd_fr_le {T : Nat → Nat} {q : Nat → Bool} {C M : Nat} (h : ∀ d, d < C → T d < M) (hq : ∀ d, d < C → q (T d) = true) : cd_fr T C ≤ cd_cn q M := by
  rw [cd_fr_cn T M C h]
  refine cd_cn_le _ (fun i _ hi => ?_)
  rw [cd_hs_iff] at hi
  obtain ⟨d, hd, e⟩ := hi
  rw [← e]
  exact hq d hd
end
section
/-! the complex: held simplices by dimension, their numbers, boundaries -/
def cd_dm (s : Nat) : Nat := s % 2 + s / 2 % 2 + s / 4 % 2 + s / 8 % 2 + s / 16 % 2
def cd_hd (a : Nat → Int32) (k s : Nat) : Bool := decide (1 ≤ s ∧ s < 32 ∧ ¬ a s = 0 ∧ cd_dm s = k + 1)
def cd_nb (a : Nat → Int32) (k s : Nat) : Nat := cd_cn (cd_hd a k) s
def cd_sx (a : Nat → Int32) (k i : Nat) : Nat → Nat
  | 0 => 0
  | s + 1 => if cd_hd a k s = true ∧ cd_nb a k s = i then s else cd_sx a k i s
def cd_fc (s x : Nat) : Nat := if s.testBit x = true then s - 2 ^ x else s
def cd_e (a : Nat → Int32) (j s x : Nat) : Nat := if cd_fc s x = s ∨ cd_fc s x = 0 then 0 else 2 ^ cd_nb a j (cd_fc s x)
def cd_br (a : Nat → Int32) (j s : Nat) : Nat → Nat
  | 0 => 0
  | x + 1 => cd_br a j s x ^^^ cd_e a j s x
def cd_bS (a : Nat → Int32) (j s : Nat) : Nat := cd_br a j s 5
def cd_tm (a : Nat → Int32) (k s c : Nat) : Nat := if cd_hd a k s = true ∧ c.testBit (cd_nb a k s) = true then cd_bS a (k - 1) s else 0
def cd_Bd (a : Nat → Int32) (k : Nat) : Nat → Nat → Nat
  | 0, _ => 0
  | s + 1, c => cd_Bd a k s c ^^^ cd_tm a k s c
def cd_Cl (a : Nat → Int32) : Prop := ∀ s t, s < 32 → 1 ≤ t → t &&& s = t → ¬ a s = 0 → ¬ a t = 0
def cd_op (a : Nat → Int32) (k c f i : Nat) : Bool := c.testBit i && decide (cd_sx a k i 32 &&& f = f)
theorem cd_hd_iff {a : Nat → Int32} {k s : Nat} : cd_hd a k s = true ↔ (1 ≤ s ∧ s < 32 ∧ ¬ a s = 0 ∧ cd_dm s = k + 1) := decide_eq_true_iff
theorem cd_dm5 (s : Nat) : cd_dm s ≤ 5 := by
  unfold cd_dm
  omega
theorem cd_nb_s (a : Nat → Int32) (k s : Nat) : cd_nb a k (s + 1) = cd_nb a k s + (if cd_hd a k s = true then 1 else 0) := rfl
theorem cd_nb_t {a : Nat → Int32} {k s : Nat} (h : cd_hd a k s = true) : cd_nb a k (s + 1) = cd_nb a k s + 1 := by rw [cd_nb_s, if_pos h]
theorem cd_nb_f {a : Nat → Int32} {k s : Nat} (h : ¬ cd_hd a k s = true) : cd_nb a k (s + 1) = cd_nb a k s := by rw [cd_nb_s, if_neg h, Nat.add_zero]
theorem cd_nb_le (a : Nat → Int32) (k : Nat) {s t : Nat} (h : s ≤ t) : cd_nb a k s ≤ cd_nb a k t := by
  obtain ⟨d, rfl⟩ : ∃ d, t = s + d := ⟨t - s, by omega⟩
  unfold cd_nb
  rw [cd_cn_add]
  omega
theorem cd_nb_lt {a : Nat → Int32} {k s t : Nat} (h : cd_hd a k s = true) (hst : s < t) : cd_nb a k s < cd_nb a k t := by
  have h1 := cd_nb_le a k (s := s + 1) (t := t) (by omega)
  rw [cd_nb_t h] at h1
  omega
theorem cd_nb_inj {a : Nat → Int32} {k s t : Nat} (hs : cd_hd a k s = true) (ht : cd_hd a k t = true) (h : cd_nb a k s = cd_nb a k t) : s = t := by
  rcases Nat.lt_trichotomy s t with q | q | q
  · have := cd_nb_lt hs q
    omega
  · exact q
  · have := cd_nb_lt ht q
    omega
theorem cd_nb_10t : ∀ k, k < 6 → cd_cn (fun s => decide (cd_dm s = k + 1)) 32 ≤ 10 := by decide +kernel
theorem cd_nb_10 (a : Nat → Int32) {k : Nat} (hk : k < 6) : cd_nb a k 32 ≤ 10 := by
  refine Nat.le_trans (cd_cn_le (q := fun s => decide (cd_dm s = k + 1)) 32 (fun i _ h => ?_)) (cd_nb_10t k hk)
  rw [cd_hd_iff] at h
  exact decide_eq_true h.2.2.2
theorem cd_nb_5 (a : Nat → Int32) (s : Nat) : cd_nb a 5 s = 0 := by
  refine cd_cn_false s (fun i _ => ?_)
  refine decide_eq_false (fun z => ?_)
  have := cd_dm5 i
  omega
theorem cd_sx_spec (a : Nat → Int32) (k i : Nat) : ∀ S, i < cd_nb a k S → cd_hd a k (cd_sx a k i S) = true ∧ cd_nb a k (cd_sx a k i S) = i ∧ cd_sx a k i S < S := by
  intro S
  induction S with
  | zero =>
    intro h
    exact absurd h (Nat.not_lt_zero _)
  | succ S ih =>
    intro h
    unfold cd_sx
    by_cases hc : cd_hd a k S = true ∧ cd_nb a k S = i
    · rw [if_pos hc]
      exact ⟨hc.1, hc.2, by omega⟩
    · rw [if_neg hc]
      have hi : i < cd_nb a k S := by
        by_cases hh : cd_hd a k S = true
        · rw [cd_nb_t hh] at h
          have : ¬ cd_nb a k S = i := fun z => hc ⟨hh, z⟩
          omega
        · rw [cd_nb_f hh] at h
          exact h
      obtain ⟨h1, h2, h3⟩ := ih hi
      exact ⟨h1, h2, by omega⟩
theorem cd_sx_eq {a : Nat → Int32} {k s S : Nat} (h : cd_hd a k s = true) (hs : s < S) : cd_sx a k (cd_nb a k s) S = s := by
  obtain ⟨h1, h2, _⟩ := cd_sx_spec a k (cd_nb a k s) S (cd_nb_lt h hs)
  exact cd_nb_inj h1 h h2
theorem cd_fc_tt : ∀ s, s < 32 → ∀ x, x < 5 → (cd_fc s x = s ∨ cd_fc s x = 0 ∨ (1 ≤ cd_fc s x ∧ cd_fc s x < 32 ∧ (cd_fc s x &&& s) = cd_fc s x ∧ cd_dm (cd_fc s x) + 1 = cd_dm s)) := by decide +kernel
theorem cd_fc_t (s : Nat) (hs : s < 32) (x : Nat) (hx : x < 5) (h1 : ¬ cd_fc s x = s) (h2 : ¬ cd_fc s x = 0) : 1 ≤ cd_fc s x ∧ cd_fc s x < 32 ∧ (cd_fc s x &&& s) = cd_fc s x ∧ cd_dm (cd_fc s x) + 1 = cd_dm s := by
  rcases cd_fc_tt s hs x hx with h | h | h
  · exact absurd h h1
  · exact absurd h h2
  · exact h
theorem cd_fc_1 : ∀ s, s < 32 → cd_dm s = 1 → ∀ x, x < 5 → (cd_fc s x = s ∨ cd_fc s x = 0) := by decide +kernel
theorem cd_fc_x : ∀ s, s < 32 → ∀ f, f < 32 → 1 ≤ f → cd_dm f + 1 = cd_dm s → (((((false ^^ decide (cd_fc s 0 = f)) ^^ decide (cd_fc s 1 = f)) ^^ decide (cd_fc s 2 = f)) ^^ decide (cd_fc s 3 = f)) ^^ decide (cd_fc s 4 = f)) = decide (s &&& f = f) := by decide +kernel
theorem cd_hd_fc {a : Nat → Int32} {k s x : Nat} (C : cd_Cl a) (h : cd_hd a (k + 1) s = true) (hx : x < 5) (h1 : ¬ cd_fc s x = s) (h2 : ¬ cd_fc s x = 0) : cd_hd a k (cd_fc s x) = true := by
  rw [cd_hd_iff] at h
  obtain ⟨g1, g2, g3, g4⟩ := cd_fc_t s h.2.1 x hx h1 h2
  rw [cd_hd_iff]
  exact ⟨g1, g2, C s _ h.2.1 g1 g3 h.2.2.1, by omega⟩
theorem cd_e_bit {a : Nat → Int32} {k s x j : Nat} (C : cd_Cl a) (h : cd_hd a (k + 1) s = true) (hj : j < cd_nb a k 32) (hx : x < 5) : (cd_e a k s x).testBit j = decide (cd_fc s x = cd_sx a k j 32) := by
  obtain ⟨h1, h2, h3⟩ := cd_sx_spec a k j 32 hj
  generalize hf : cd_sx a k j 32 = f at h1 h2 h3
  unfold cd_e
  have hs := cd_hd_iff.mp h
  have hg := cd_hd_iff.mp h1
  by_cases hc : cd_fc s x = s ∨ cd_fc s x = 0
  · rw [if_pos hc, Nat.zero_testBit]
    refine (decide_eq_false (fun q => ?_)).symm
    rw [q] at hc
    rcases hc with r | r
    · rw [r] at hg
      omega
    · omega
  · rw [if_neg hc, Nat.testBit_two_pow]
    have hfc := cd_hd_fc C h hx (fun z => hc (Or.inl z)) (fun z => hc (Or.inr z))
    refine decide_eq_decide.mpr ⟨fun q => cd_nb_inj hfc h1 (by rw [q, h2]), fun q => by rw [q, h2]⟩
theorem cd_bS_bit {a : Nat → Int32} {k s j : Nat} (C : cd_Cl a) (h : cd_hd a (k + 1) s = true) (hj : j < cd_nb a k 32) : (cd_bS a k s).testBit j = decide (s &&& cd_sx a k j 32 = cd_sx a k j 32) := by
  obtain ⟨h1, h2, h3⟩ := cd_sx_spec a k j 32 hj
  have hs := cd_hd_iff.mp h
  have hg := cd_hd_iff.mp h1
  rw [← cd_fc_x s hs.2.1 _ hg.2.1 hg.1 (by omega)]
  rw [← cd_e_bit C h hj (by omega : 0 < 5), ← cd_e_bit C h hj (by omega : 1 < 5), ← cd_e_bit C h hj (by omega : 2 < 5), ← cd_e_bit C h hj (by omega : 3 < 5), ← cd_e_bit C h hj (by omega : 4 < 5)]
  simp only [cd_bS, cd_br, Nat.testBit_xor, Nat.zero_testBit]
theorem cd_br_lt {a : Nat → Int32} {k s : Nat} (C : cd_Cl a) (h : cd_hd a (k + 1) s = true) : ∀ x, x ≤ 5 → cd_br a k s x < 2 ^ cd_nb a k 32 := by
  intro x
  induction x with
  | zero => intro _; exact Nat.two_pow_pos _
  | succ x ih =>
    intro hx
    refine Nat.xor_lt_two_pow (ih (by omega)) ?_
    unfold cd_e
    by_cases hc : cd_fc s x = s ∨ cd_fc s x = 0
    · rw [if_pos hc]
      exact Nat.two_pow_pos _
    · rw [if_neg hc]
      have hfc := cd_hd_fc C h (by omega) (fun z => hc (Or.inl z)) (fun z => hc (Or.inr z))
      exact Nat.pow_lt_pow_right (by omega) (cd_nb_lt hfc (cd_hd_iff.mp hfc).2.1)
theorem cd_br_0 {a : Nat → Int32} {s : Nat} (h : cd_hd a 0 s = true) (j : Nat) : ∀ x, x ≤ 5 → cd_br a j s x = 0 := by
  intro x
  have hs := cd_hd_iff.mp h
  induction x with
  | zero => intro _; rfl
  | succ x ih =>
    intro hx
    have hc := cd_fc_1 s hs.2.1 hs.2.2.2 x (by omega)
    unfold cd_br cd_e
    rw [ih (by omega), if_pos hc]
    rfl
theorem cd_tm_t {a : Nat → Int32} {k s c : Nat} (h : cd_hd a k s = true) (hc : c.testBit (cd_nb a k s) = true) : cd_tm a k s c = cd_bS a (k - 1) s := if_pos ⟨h, hc⟩
theorem cd_tm_f {a : Nat → Int32} {k s c : Nat} (h : ¬ cd_hd a k s = true) : cd_tm a k s c = 0 := if_neg (fun z => h z.1)
theorem cd_tm_c {a : Nat → Int32} {k s c : Nat} (hc : c.testBit (cd_nb a k s) = false) : cd_tm a k s c = 0 := if_neg (fun z => by rw [hc] at z; exact absurd z.2 (by decide))
theorem cd_tm_xor (a : Nat → Int32) (k s c d : Nat) : cd_tm a k s (c ^^^ d) = cd_tm a k s c ^^^ cd_tm a k s d := by
  by_cases h : cd_hd a k s = true
  · cases hc : c.testBit (cd_nb a k s) <;> cases hd : d.testBit (cd_nb a k s)
    · rw [cd_tm_c (c := c ^^^ d) (by rw [Nat.testBit_xor, hc, hd]; rfl), cd_tm_c hc, cd_tm_c hd, Nat.xor_zero]
    · rw [cd_tm_t (c := c ^^^ d) h (by rw [Nat.testBit_xor, hc, hd]; rfl), cd_tm_c hc, cd_tm_t h hd, Nat.zero_xor]
    · rw [cd_tm_t (c := c ^^^ d) h (by rw [Nat.testBit_xor, hc, hd]; rfl), cd_tm_t h hc, cd_tm_c hd, Nat.xor_zero]
    · rw [cd_tm_c (c := c ^^^ d) (by rw [Nat.testBit_xor, hc, hd]; rfl), cd_tm_t h hc, cd_tm_t h hd, Nat.xor_self]
  · rw [cd_tm_f h, cd_tm_f h, cd_tm_f h, Nat.xor_zero]
theorem cd_x4 (a b c d : Nat) : (a ^^^ b) ^^^ (c ^^^ d) = (a ^^^ c) ^^^ (b ^^^ d) := by rw [Nat.xor_assoc, Nat.xor_assoc, cd_xl b c d]
theorem cd_Bd_s (a : Nat → Int32) (k s c : Nat) : cd_Bd a k (s + 1) c = cd_Bd a k s c ^^^ cd_tm a k s c := rfl
theorem cd_Bd_xor (a : Nat → Int32) (k S c d : Nat) : cd_Bd a k S (c ^^^ d) = cd_Bd a k S c ^^^ cd_Bd a k S d := by
  induction S with
  | zero => exact (Nat.xor_self 0).symm
  | succ S ih => rw [cd_Bd_s, cd_Bd_s, cd_Bd_s, ih, cd_tm_xor, cd_x4]
theorem cd_Bd_z (a : Nat → Int32) (k S : Nat) : cd_Bd a k S 0 = 0 := by
  induction S with
  | zero => rfl
  | succ S ih => rw [cd_Bd_s, ih, cd_tm_c (Nat.zero_testBit _), Nat.xor_zero]
theorem cd_Bd_hi (a : Nat → Int32) (k n c : Nat) : ∀ S, cd_nb a k S ≤ n → cd_Bd a k S (2 ^ n + c) = cd_Bd a k S c := by
  intro S
  induction S with
  | zero => intro _; rfl
  | succ S ih =>
    intro h
    have h1 := cd_nb_le a k (s := S) (t := S + 1) (by omega)
    rw [cd_Bd_s, cd_Bd_s, ih (by omega)]
    by_cases hd : cd_hd a k S = true
    · rw [cd_nb_t hd] at h
      have e := Nat.testBit_two_pow_add_gt (i := n) (j := cd_nb a k S) (by omega) c
      cases hc : c.testBit (cd_nb a k S)
      · rw [cd_tm_c hc, cd_tm_c (e.trans hc)]
      · rw [cd_tm_t hd hc, cd_tm_t hd (e.trans hc)]
    · rw [cd_tm_f hd, cd_tm_f hd]
theorem cd_Bd_lo {a : Nat → Int32} {k S c : Nat} (h : c < 2 ^ cd_nb a k S) : cd_Bd a k (S + 1) c = cd_Bd a k S c := by
  rw [cd_Bd_s, cd_tm_c (Nat.testBit_lt_two_pow h), Nat.xor_zero]
theorem cd_Bd_up {a : Nat → Int32} {k S c : Nat} (hd : cd_hd a k S = true) (h : c < 2 ^ cd_nb a k S) : cd_Bd a k (S + 1) (2 ^ cd_nb a k S + c) = cd_Bd a k S c ^^^ cd_bS a (k - 1) S := by
  rw [cd_Bd_s, cd_Bd_hi a k _ c S (Nat.le_refl _), cd_tm_t hd (by rw [Nat.testBit_two_pow_add_eq, Nat.testBit_lt_two_pow h]; rfl)]
theorem cd_Bd_two {a : Nat → Int32} {k g : Nat} (h : cd_hd a k g = true) : ∀ S, g < S → cd_Bd a k S (2 ^ cd_nb a k g) = cd_bS a (k - 1) g := by
  intro S
  induction S with
  | zero => intro q; omega
  | succ S ih =>
    intro q
    by_cases e : g = S
    · subst e
      have := cd_Bd_up h (c := 0) (Nat.two_pow_pos _)
      rw [Nat.add_zero, cd_Bd_z, Nat.zero_xor] at this
      exact this
    · rw [cd_Bd_s, ih (by omega)]
      have : cd_tm a k S (2 ^ cd_nb a k g) = 0 := by
        by_cases hd : cd_hd a k S = true
        · refine cd_tm_c ?_
          rw [Nat.testBit_two_pow]
          exact decide_eq_false (fun z => e (cd_nb_inj h hd z))
        · exact cd_tm_f hd
      rw [this, Nat.xor_zero]
theorem cd_Bd_lt {a : Nat → Int32} {k : Nat} (C : cd_Cl a) (c : Nat) : ∀ S, cd_Bd a (k + 1) S c < 2 ^ cd_nb a k 32 := by
  intro S
  induction S with
  | zero => exact Nat.two_pow_pos _
  | succ S ih =>
    rw [cd_Bd_s]
    refine Nat.xor_lt_two_pow ih ?_
    unfold cd_tm
    by_cases h : cd_hd a (k + 1) S = true ∧ c.testBit (cd_nb a (k + 1) S) = true
    · rw [if_pos h]
      exact cd_br_lt C h.1 5 (by omega)
    · rw [if_neg h]
      exact Nat.two_pow_pos _
theorem cd_Bd_0 (a : Nat → Int32) (c : Nat) : ∀ S, cd_Bd a 0 S c = 0 := by
  intro S
  induction S with
  | zero => rfl
  | succ S ih =>
    rw [cd_Bd_s, ih, Nat.zero_xor]
    unfold cd_tm
    by_cases h : cd_hd a 0 S = true ∧ c.testBit (cd_nb a 0 S) = true
    · rw [if_pos h]
      exact cd_br_0 h.1 _ 5 (by omega)
    · rw [if_neg h]
theorem cd_Bd_5 (a : Nat → Int32) (c : Nat) : ∀ S, cd_Bd a 5 S c = 0 := by
  intro S
  induction S with
  | zero => rfl
  | succ S ih =>
    rw [cd_Bd_s, ih, Nat.zero_xor]
    refine cd_tm_f (fun z => ?_)
    have h1 := cd_hd_iff.mp z
    have h2 := cd_dm5 S
    omega
/-- zeros and values of the boundary map: 2^z, 2^(n - z) -/
theorem cd_zf (a : Nat → Int32) (k : Nat) : ∀ S, ∃ z, z ≤ cd_nb a k S ∧ cd_zr (cd_Bd a k S) (2 ^ cd_nb a k S) = 2 ^ z ∧ cd_fr (cd_Bd a k S) (2 ^ cd_nb a k S) = 2 ^ (cd_nb a k S - z) := by
  intro S
  induction S with
  | zero => exact ⟨0, Nat.le_refl _, rfl, rfl⟩
  | succ S ih =>
    obtain ⟨z, h1, h2, h3⟩ := ih
    by_cases hd : cd_hd a k S = true
    · rw [cd_nb_t hd]
      exact cd_rank (v := cd_bS a (k - 1) S) (fun c d => cd_Bd_xor a k S c d) (fun c hc => cd_Bd_lo hc) (fun c hc => cd_Bd_up hd hc) h1 h2 h3
    · have e : cd_Bd a k (S + 1) = cd_Bd a k S := funext (fun c => by rw [cd_Bd_s, cd_tm_f hd, Nat.xor_zero])
      rw [cd_nb_f hd, e]
      exact ⟨z, h1, h2, h3⟩
/-! the boundary of a boundary is empty -/
def cd_G (s x y : Nat) : Nat := if cd_fc s x = s ∨ cd_fc s x = 0 then 0 else if cd_fc (cd_fc s x) y = cd_fc s x then 0 else cd_fc (cd_fc s x) y
def cd_W (a : Nat → Int32) (j s x y : Nat) : Nat := if cd_G s x y = 0 then 0 else 2 ^ cd_nb a j (cd_G s x y)
theorem cd_G_c : ∀ s, s < 32 → ∀ x, x < 5 → ∀ y, y < 5 → cd_G s x y = cd_G s y x := by decide +kernel
theorem cd_G_d : ∀ s, s < 32 → ∀ x, x < 5 → cd_G s x x = 0 := by decide +kernel
theorem cd_b10 : ∀ p q r s t u v w x y : Bool, (((((false ^^ (((((false ^^ false) ^^ p) ^^ q) ^^ r) ^^ s)) ^^ (((((false ^^ p) ^^ false) ^^ t) ^^ u) ^^ v)) ^^ (((((false ^^ q) ^^ t) ^^ false) ^^ w) ^^ x)) ^^ (((((false ^^ r) ^^ u) ^^ w) ^^ false) ^^ y)) ^^ (((((false ^^ s) ^^ v) ^^ x) ^^ y) ^^ false)) = false := by decide +kernel
def cd_R (W : Nat → Nat → Nat) (x : Nat) : Nat := ((((0 ^^^ W x 0) ^^^ W x 1) ^^^ W x 2) ^^^ W x 3) ^^^ W x 4
theorem cd_x25 (W : Nat → Nat → Nat) (hc : ∀ x, x < 5 → ∀ y, y < 5 → W x y = W y x) (hd : ∀ x, x < 5 → W x x = 0) : ((((0 ^^^ cd_R W 0) ^^^ cd_R W 1) ^^^ cd_R W 2) ^^^ cd_R W 3) ^^^ cd_R W 4 = 0 := by
  apply Nat.eq_of_testBit_eq
  intro i
  simp only [cd_R, hd 0 (by omega), hd 1 (by omega), hd 2 (by omega), hd 3 (by omega), hd 4 (by omega), hc 1 (by omega) 0 (by omega), hc 2 (by omega) 0 (by omega), hc 3 (by omega) 0 (by omega), hc 4 (by omega) 0 (by omega), hc 2 (by omega) 1 (by omega), hc 3 (by omega) 1 (by omega), hc 4 (by omega) 1 (by omega), hc 3 (by omega) 2 (by omega), hc 4 (by omega) 2 (by omega), hc 4 (by omega) 3 (by omega), Nat.testBit_xor, Nat.zero_testBit]
  exact cd_b10 _ _ _ _ _ _ _ _ _ _
theorem cd_dd0 {a : Nat → Int32} {j s x : Nat} (C : cd_Cl a) (h : cd_hd a (j + 2) s = true) (hx : x < 5) : cd_Bd a (j + 1) 32 (cd_e a (j + 1) s x) = cd_R (cd_W a j s) x := by
  by_cases hc : cd_fc s x = s ∨ cd_fc s x = 0
  · have hG : ∀ y, cd_W a j s x y = 0 := by
      intro y
      unfold cd_W cd_G
      rw [if_pos hc, if_pos rfl]
    unfold cd_e cd_R
    rw [if_pos hc, cd_Bd_z, hG, hG, hG, hG, hG]
    rfl
  · have hfc := cd_hd_fc C h hx (fun z => hc (Or.inl z)) (fun z => hc (Or.inr z))
    have hW : ∀ y, cd_e a j (cd_fc s x) y = cd_W a j s x y := by
      intro y
      unfold cd_W cd_G cd_e
      rw [if_neg hc]
      by_cases h1 : cd_fc (cd_fc s x) y = cd_fc s x
      · rw [if_pos (Or.inl h1), if_pos h1, if_pos rfl]
      · rw [if_neg h1]
        by_cases h2 : cd_fc (cd_fc s x) y = 0
        · rw [if_pos (Or.inr h2), if_pos h2]
        · rw [if_neg h2, if_neg (fun z => z.elim h1 h2)]
    have e : cd_e a (j + 1) s x = 2 ^ cd_nb a (j + 1) (cd_fc s x) := if_neg hc
    rw [e, cd_Bd_two hfc 32 (cd_hd_iff.mp hfc).2.1]
    show cd_br a j (cd_fc s x) 5 = _
    simp only [cd_br, cd_R, hW]
theorem cd_dd1 {a : Nat → Int32} {k s : Nat} (C : cd_Cl a) (h : cd_hd a (k + 1) s = true) : cd_Bd a k 32 (cd_bS a k s) = 0 := by
  cases k with
  | zero => exact cd_Bd_0 a _ 32
  | succ j =>
    have hs := (cd_hd_iff.mp h).2.1
    simp only [cd_bS, cd_br, cd_Bd_xor, cd_Bd_z, cd_dd0 C h (by omega : 0 < 5), cd_dd0 C h (by omega : 1 < 5), cd_dd0 C h (by omega : 2 < 5), cd_dd0 C h (by omega : 3 < 5), cd_dd0 C h (by omega : 4 < 5)]
    refine cd_x25 (cd_W a j s) (fun x hx y hy => ?_) (fun x hx => ?_)
    · unfold cd_W
      rw [cd_G_c s hs x hx y hy]
    · unfold cd_W
      rw [cd_G_d s hs x hx, if_pos rfl]
theorem cd_dd {a : Nat → Int32} (C : cd_Cl a) (k c : Nat) : ∀ S, cd_Bd a k 32 (cd_Bd a (k + 1) S c) = 0 := by
  intro S
  induction S with
  | zero => exact cd_Bd_z a k 32
  | succ S ih =>
    rw [cd_Bd_s a (k + 1) S c, cd_Bd_xor, ih, Nat.zero_xor]
    unfold cd_tm
    by_cases h : cd_hd a (k + 1) S = true ∧ c.testBit (cd_nb a (k + 1) S) = true
    · rw [if_pos h]
      exact cd_dd1 C h.1
    · rw [if_neg h]
      exact cd_Bd_z a k 32
/-- the numbers that holes needs: z cycles' bits of dimension k, z' one up, n' chains' bits one up -/
theorem cd_holes {a : Nat → Int32} (C : cd_Cl a) (k : Nat) : ∃ z z', z ≤ cd_nb a k 32 ∧ z' ≤ cd_nb a (k + 1) 32 ∧ cd_zr (cd_Bd a k 32) (2 ^ cd_nb a k 32) = 2 ^ z ∧ cd_zr (cd_Bd a (k + 1) 32) (2 ^ cd_nb a (k + 1) 32) = 2 ^ z' ∧ cd_fr (cd_Bd a (k + 1) 32) (2 ^ cd_nb a (k + 1) 32) = 2 ^ (cd_nb a (k + 1) 32 - z') ∧ cd_nb a (k + 1) 32 - z' ≤ z := by
  obtain ⟨z, h1, h2, _⟩ := cd_zf a k 32
  obtain ⟨z', h1', h2', h3'⟩ := cd_zf a (k + 1) 32
  refine ⟨z, z', h1, h1', h2, h2', h3', ?_⟩
  have hle := cd_fr_le (T := cd_Bd a (k + 1) 32) (q := fun i => cd_Bd a k 32 i == 0) (C := 2 ^ cd_nb a (k + 1) 32) (M := 2 ^ cd_nb a k 32) (fun d _ => cd_Bd_lt C d 32) (fun d _ => by
    rw [beq_iff_eq]
    exact cd_dd C k d 32)
  rw [h3'] at hle
  have h4 : cd_cn (fun i => cd_Bd a k 32 i == 0) (2 ^ cd_nb a k 32) = 2 ^ z := h2
  rw [h4] at hle
  exact (Nat.pow_le_pow_iff_right (by omega)).mp hle
/-! the reference's parity and its sum of bits -/
theorem cd_odd {a : Nat → Int32} {k j : Nat} (C : cd_Cl a) (c : Nat) (hj : j < cd_nb a k 32) : ∀ S, S ≤ 32 → (cd_Bd a (k + 1) S c).testBit j = decide (cd_cn (cd_op a (k + 1) c (cd_sx a k j 32)) (cd_nb a (k + 1) S) % 2 = 1) := by
  intro S
  induction S with
  | zero => intro _; exact Nat.zero_testBit j
  | succ S ih =>
    intro hS
    rw [cd_Bd_s, Nat.testBit_xor, ih (by omega)]
    by_cases hd : cd_hd a (k + 1) S = true
    · rw [cd_nb_t hd, cd_cn_s]
      have e : cd_op a (k + 1) c (cd_sx a k j 32) (cd_nb a (k + 1) S) = (c.testBit (cd_nb a (k + 1) S) && decide (S &&& cd_sx a k j 32 = cd_sx a k j 32)) := by
        unfold cd_op
        rw [cd_sx_eq hd (by omega : S < 32)]
      rw [e]
      generalize cd_cn (cd_op a (k + 1) c (cd_sx a k j 32)) (cd_nb a (k + 1) S) = m
      cases hc : c.testBit (cd_nb a (k + 1) S)
      · rw [cd_tm_c hc, Nat.zero_testBit, Bool.xor_false, Bool.false_and, if_neg (by decide), Nat.add_zero]
      · rw [cd_tm_t hd hc]
        have e2 : cd_bS a (k + 1 - 1) S = cd_bS a k S := rfl
        rw [e2, cd_bS_bit C hd hj, Bool.true_and]
        by_cases hf : S &&& cd_sx a k j 32 = cd_sx a k j 32
        · rw [decide_eq_true hf, if_pos rfl, Bool.xor_true]
          by_cases hm : m % 2 = 1
          · rw [decide_eq_true hm, decide_eq_false (by omega)]
            rfl
          · rw [decide_eq_false hm, decide_eq_true (by omega)]
            rfl
        · rw [decide_eq_false hf, if_neg (by decide), Bool.xor_false, Nat.add_zero]
    · rw [cd_tm_f hd, Nat.zero_testBit, Bool.xor_false, cd_nb_f hd]
theorem cd_mod_t {x i : Nat} (h : x.testBit i = true) : x % 2 ^ (i + 1) = x % 2 ^ i ||| 2 ^ i := by
  rw [Nat.or_two_pow_eq_add_of_lt (Nat.mod_lt _ (Nat.two_pow_pos _)), Nat.mod_pow_succ]
  rw [Nat.testBit_eq_decide_div_mod_eq] at h
  rw [of_decide_eq_true h, Nat.mul_one]
theorem cd_mod_f {x i : Nat} (h : x.testBit i = false) : x % 2 ^ (i + 1) = x % 2 ^ i := by
  rw [Nat.mod_pow_succ]
  rw [Nat.testBit_eq_decide_div_mod_eq] at h
  have h2 := of_decide_eq_false h
  rw [show x / 2 ^ i % 2 = 0 by omega, Nat.mul_zero, Nat.add_zero]
end
section
/-! the alternating sum -/
def cd_al (a : Nat → Int32) (S : Nat) : Int32 := nI (cd_nb a 0 S) + -nI (cd_nb a 1 S) + nI (cd_nb a 2 S) + -nI (cd_nb a 3 S) + nI (cd_nb a 4 S)
theorem cd_hd_no {a : Nat → Int32} {k s : Nat} (h : a s = 0) : ¬ cd_hd a k s = true := fun z => (cd_hd_iff.mp z).2.2.1 h
theorem cd_hd_nk {a : Nat → Int32} {k s d : Nat} (h : cd_dm s = d) (hk : d ≠ k + 1) : ¬ cd_hd a k s = true := fun z => hk (by rw [← h]; exact (cd_hd_iff.mp z).2.2.2)
theorem cd_dm_1 : ∀ s, s < 32 → 1 ≤ s → 1 ≤ cd_dm s := by decide +kernel
theorem cd_al_z {a : Nat → Int32} {S : Nat} (h : a S = 0) : cd_al a (S + 1) = cd_al a S := by
  unfold cd_al
  rw [cd_nb_f (cd_hd_no h), cd_nb_f (cd_hd_no h), cd_nb_f (cd_hd_no h), cd_nb_f (cd_hd_no h), cd_nb_f (cd_hd_no h)]
theorem cd_r1 (p q r s t : Int32) : p + 1 + -q + r + -s + t = p + -q + r + -s + t + 1 := by grind
theorem cd_r2 (p q r s t : Int32) : p + -(q + 1) + r + -s + t = p + -q + r + -s + t + -1 := by grind
theorem cd_r3 (p q r s t : Int32) : p + -q + (r + 1) + -s + t = p + -q + r + -s + t + 1 := by grind
theorem cd_r4 (p q r s t : Int32) : p + -q + r + -(s + 1) + t = p + -q + r + -s + t + -1 := by grind
theorem cd_r5 (p q r s t : Int32) : p + -q + r + -s + (t + 1) = p + -q + r + -s + t + 1 := by grind
theorem cd_al_n {a : Nat → Int32} {S : Nat} (h : ¬ a S = 0) (h1 : 1 ≤ S) (h2 : S < 32) : cd_al a (S + 1) = cd_al a S + (if cd_dm S % 2 = 1 then 1 else -1) := by
  have h3 := cd_dm5 S
  have h4 := cd_dm_1 S h2 h1
  have hh : ∀ k, cd_dm S = k + 1 → cd_hd a k S = true := fun k e => cd_hd_iff.mpr ⟨h1, h2, h, e⟩
  unfold cd_al
  rcases (by omega : cd_dm S = 1 ∨ cd_dm S = 2 ∨ cd_dm S = 3 ∨ cd_dm S = 4 ∨ cd_dm S = 5) with e | e | e | e | e
  · rw [cd_nb_t (hh 0 e), cd_nb_f (cd_hd_nk (k := 1) e (by omega)), cd_nb_f (cd_hd_nk (k := 2) e (by omega)), cd_nb_f (cd_hd_nk (k := 3) e (by omega)), cd_nb_f (cd_hd_nk (k := 4) e (by omega)), e, if_pos (by omega), ← nI_1]
    exact cd_r1 _ _ _ _ _
  · rw [cd_nb_f (cd_hd_nk (k := 0) e (by omega)), cd_nb_t (hh 1 e), cd_nb_f (cd_hd_nk (k := 2) e (by omega)), cd_nb_f (cd_hd_nk (k := 3) e (by omega)), cd_nb_f (cd_hd_nk (k := 4) e (by omega)), e, if_neg (by omega), ← nI_1]
    exact cd_r2 _ _ _ _ _
  · rw [cd_nb_f (cd_hd_nk (k := 0) e (by omega)), cd_nb_f (cd_hd_nk (k := 1) e (by omega)), cd_nb_t (hh 2 e), cd_nb_f (cd_hd_nk (k := 3) e (by omega)), cd_nb_f (cd_hd_nk (k := 4) e (by omega)), e, if_pos (by omega), ← nI_1]
    exact cd_r3 _ _ _ _ _
  · rw [cd_nb_f (cd_hd_nk (k := 0) e (by omega)), cd_nb_f (cd_hd_nk (k := 1) e (by omega)), cd_nb_f (cd_hd_nk (k := 2) e (by omega)), cd_nb_t (hh 3 e), cd_nb_f (cd_hd_nk (k := 4) e (by omega)), e, if_neg (by omega), ← nI_1]
    exact cd_r4 _ _ _ _ _
  · rw [cd_nb_f (cd_hd_nk (k := 0) e (by omega)), cd_nb_f (cd_hd_nk (k := 1) e (by omega)), cd_nb_f (cd_hd_nk (k := 2) e (by omega)), cd_nb_f (cd_hd_nk (k := 3) e (by omega)), cd_nb_t (hh 4 e), e, if_pos (by omega), ← nI_1]
    exact cd_r5 _ _ _ _ _
/-! the least of a coset, the least preimage -/
def cd_lv (T : Nat → Nat) (ch : Nat) : Nat → Nat
  | 0 => ch
  | c + 1 => if ch ^^^ T c < cd_lv T ch c then ch ^^^ T c else cd_lv T ch c
theorem cd_lv_s (T : Nat → Nat) (ch c : Nat) : cd_lv T ch (c + 1) = if ch ^^^ T c < cd_lv T ch c then ch ^^^ T c else cd_lv T ch c := rfl
theorem cd_lv_le (T : Nat → Nat) (ch : Nat) : ∀ C, cd_lv T ch C ≤ ch ∧ ∀ d, d < C → cd_lv T ch C ≤ ch ^^^ T d := by
  intro C
  induction C with
  | zero => exact ⟨Nat.le_refl _, fun d hd => by omega⟩
  | succ C ih =>
    rw [cd_lv_s]
    by_cases h : ch ^^^ T C < cd_lv T ch C
    · rw [if_pos h]
      refine ⟨by omega, fun d hd => ?_⟩
      rcases Nat.lt_or_ge d C with q | q
      · have := ih.2 d q
        omega
      · rw [show d = C by omega]
        exact Nat.le_refl _
    · rw [if_neg h]
      refine ⟨ih.1, fun d hd => ?_⟩
      rcases Nat.lt_or_ge d C with q | q
      · exact ih.2 d q
      · rw [show d = C by omega]
        omega
theorem cd_lv_in (T : Nat → Nat) (ch : Nat) : ∀ C, cd_lv T ch C = ch ∨ ∃ d, d < C ∧ cd_lv T ch C = ch ^^^ T d := by
  intro C
  induction C with
  | zero => exact Or.inl rfl
  | succ C ih =>
    rw [cd_lv_s]
    by_cases h : ch ^^^ T C < cd_lv T ch C
    · rw [if_pos h]
      exact Or.inr ⟨C, by omega, rfl⟩
    · rw [if_neg h]
      rcases ih with q | ⟨d, hd, q⟩
      · exact Or.inl q
      · exact Or.inr ⟨d, by omega, q⟩
/-- the least of the coset is hit, and nothing below it is -/
theorem cd_lv_spec (T : Nat → Nat) (ch C : Nat) (hC : 0 < C) (h0 : T 0 = 0) : cd_hs T (cd_lv T ch C ^^^ ch) C = true ∧ ∀ c, c < cd_lv T ch C → cd_hs T (c ^^^ ch) C = false := by
  constructor
  · rw [cd_hs_iff]
    rcases cd_lv_in T ch C with q | ⟨d, hd, q⟩
    · exact ⟨0, hC, by rw [q, h0, Nat.xor_self]⟩
    · exact ⟨d, hd, by rw [q, Nat.xor_comm ch (T d), cd_xk]⟩
  · intro c hc
    cases e : cd_hs T (c ^^^ ch) C
    · rfl
    · rw [cd_hs_iff] at e
      obtain ⟨d, hd, q⟩ := e
      have h := (cd_lv_le T ch C).2 d hd
      rw [q, Nat.xor_comm c ch, ← Nat.xor_assoc, Nat.xor_self, Nat.zero_xor] at h
      omega
theorem cd_find (T : Nat → Nat) (ch : Nat) : ∀ C, (∃ c, c < C ∧ T c = ch ∧ ∀ d, d < c → ¬ T d = ch) ∨ (∀ c, c < C → ¬ T c = ch) := by
  intro C
  induction C with
  | zero => exact Or.inr (fun c hc => by omega)
  | succ C ih =>
    rcases ih with ⟨c, hc, h1, h2⟩ | h
    · exact Or.inl ⟨c, by omega, h1, h2⟩
    · by_cases e : T C = ch
      · exact Or.inl ⟨C, by omega, e, h⟩
      · refine Or.inr (fun c hc => ?_)
        rcases Nat.lt_or_ge c C with q | q
        · exact h c q
        · rw [show c = C by omega]
          exact e
end
section
/-! the class's walks: each private method against the pure picture -/
theorem cw_10 : ¬ (1 : Int32) = 0 := by decide
theorem cw_nb1 : vp_nar .boolean 1 = 1 := rfl
theorem cw_nb0 : vp_nar .boolean 0 = 0 := rfl
def cd_ds (s : Nat) : Nat → Nat
  | 0 => 0
  | x + 1 => cd_ds s x + s / 2 ^ x % 2
theorem cd_ds5 (s : Nat) : cd_ds s 5 = cd_dm s := by simp [cd_ds, cd_dm]
theorem cd_nb_1 (a : Nat → Int32) (k : Nat) : cd_nb a k 1 = 0 := by
  rw [show (1 : Nat) = 0 + 1 from rfl, cd_nb_f (fun z => by have := (cd_hd_iff.mp z).1; omega)]
  rfl
theorem cd_p10 (a : Nat → Int32) {k : Nat} (hk : k < 6) : 2 ^ cd_nb a k 32 ≤ 1024 := Nat.pow_le_pow_right (n := 2) (j := 10) (by omega) (cd_nb_10 a hk)
theorem cw_ihd27 {post : Int32 → Prop} (a b : Nat → Int32) {s k : Nat} (hs : s < 32) (hk : k < 6) (ht : cd_dm s = k + 1 → post 1) (hf : ¬ cd_dm s = k + 1 → post 0) : ∀ n x, 5 < n + x → x ≤ 5 → wX_isHeldOfDimension_27 post (nI s) (nI k) a b n (nI (cd_ds s x)) (nI x) := by
  intro n
  induction n with
  | zero => intro x h1 h2; omega
  | succ n ih =>
    intro x h1 h2
    refine pk_le 5 x (fun h5 => ?_) (fun h5 => ?_)
    · have hx : x = 5 := by omega
      subst hx
      rw [cd_ds5]
      exact pk_eq (cd_dm s) (k + 1) ht hf rfl (nI_1 k) (by have := cd_dm5 s; omega) (by omega)
    · refine nm_r (e' := nI (cd_ds s (x + 1))) ?_ (nm_r (nI_1 x) (ih (x + 1) (by omega) (by omega)))
      rw [ca_bit (by omega : s < 2 ^ 31) (by omega : x < 31), nI_add]
      rfl
theorem cw_ihd {post : Int32 → Prop} (a b : Nat → Int32) {s k : Nat} (hs : s < 32) (hk : k < 6) (ht : cd_hd a k s = true → post 1) (hf : ¬ cd_hd a k s = true → post 0) : wpX_isHeldOfDimension post (a, b) (nI s) (nI k) := by
  refine pk_lt s 1 (fun h1 => ?_) (fun h1 => ?_)
  · exact hf (fun z => by have := (cd_hd_iff.mp z).1; omega)
  · refine pk_le 32 s (fun h2 => by omega) (fun h2 => ?_)
    refine ⟨vp_in_nI hs (by omega), ?_⟩
    rw [nI_clamp (by omega : s < 2 ^ 31)]
    refine br_c (fun h3 => ?_) (fun h3 => ?_)
    · exact hf (cd_hd_no h3)
    · exact ⟨6, cw_ihd27 a b hs hk (fun z => ht (cd_hd_iff.mpr ⟨h1, hs, h3, z⟩)) (fun z => hf (fun q => z (cd_hd_iff.mp q).2.2.2)) 6 0 (by omega) (by omega)⟩
theorem cw_hb5 {post : Int32 → Prop} (a b : Nat → Int32) {S k : Nat} (hS : S ≤ 32) (hk : k < 6) (h : post (nI (cd_nb a k S))) : ∀ n t, 32 < n + t → t ≤ S → wX_heldBelow_5 post (nI S) (nI k) a b n (nI (cd_nb a k t)) (nI t) := by
  intro n
  induction n with
  | zero => intro t h1 h2; omega
  | succ n ih =>
    intro t h1 h2
    refine pk_le S t (fun q => ?_) (fun q => ?_)
    · have e : t = S := by omega
      rw [e]
      exact h
    · refine pk_le 32 t (fun z => by omega) (fun z => ?_)
      refine cw_ihd a b (by omega) hk (fun e => br_f cw_10 ?_) (fun e => br_t rfl ?_)
      · exact nm_r (e' := nI (cd_nb a k (t + 1))) (by rw [nI_1, cd_nb_t e]) (nm_r (nI_1 t) (ih (t + 1) (by omega) (by omega)))
      · refine nm_r (nI_1 t) ?_
        rw [← cd_nb_f e]
        exact ih (t + 1) (by omega) (by omega)
theorem cw_hb {post : Int32 → Prop} (a b : Nat → Int32) {S k : Nat} (h1 : 1 ≤ S) (hS : S ≤ 32) (hk : k < 6) (h : post (nI (cd_nb a k S))) : wpX_heldBelow post (a, b) (nI S) (nI k) := by
  have z := cw_hb5 a b hS hk h 32 1 (by omega) h1
  rw [cd_nb_1] at z
  exact ⟨32, z⟩
theorem cw_hod {post : Int32 → Prop} (a b : Nat → Int32) {k : Nat} (hk : k < 6) (h : post (nI (cd_nb a k 32))) : wpX_heldOfDimension post (a, b) (nI k) := by
  unfold wpX_heldOfDimension
  dsimp only
  exact cw_hb a b (S := 32) (by omega) (by omega) hk h
theorem cw_dim (v : Int32) : (v < 0 ∨ (¬ v < 0 ∧ 4 < v)) ∨ ∃ k, k ≤ 4 ∧ v = nI k := by
  by_cases h : v < 0
  · exact Or.inl (Or.inl h)
  · obtain ⟨j, hj, rfl⟩ := nI_of h
    by_cases h2 : j ≤ 4
    · exact Or.inr ⟨j, h2, rfl⟩
    · exact Or.inl (Or.inr ⟨h, nI_lt (a := 4) (by omega) hj⟩)
theorem cw_xd_t {post : Int32 → Prop} {k : Nat} (hk : k ≤ 4) (h : post 1) : wpX_isDimension post (nI k) := pk_lt k 0 (fun z => by omega) (fun _ => pk_lt 4 k (fun z => by omega) (fun _ => h))
theorem cw_xd_f {post : Int32 → Prop} {v : Int32} (hv : v < 0 ∨ (¬ v < 0 ∧ 4 < v)) (h : post 0) : wpX_isDimension post v := by
  rcases hv with hv | ⟨h1, h2⟩
  · exact br_t hv h
  · exact br_f h1 (br_t h2 h)
theorem cw_fc : ∀ s, s < 32 → ∀ x, x < 5 → nI s &&& (((1 : Int32) <<< (nI x &&& 31)) ^^^ (-1)) = nI (cd_fc s x) := by decide +kernel
theorem cd_e_0 {a : Nat → Int32} {j s x : Nat} (h : cd_fc s x = s ∨ cd_fc s x = 0) : cd_br a j s (x + 1) = cd_br a j s x := by
  show cd_br a j s x ^^^ cd_e a j s x = _
  unfold cd_e
  rw [if_pos h, Nat.xor_zero]
theorem cd_e_1 {a : Nat → Int32} {j s x : Nat} (h : ¬ (cd_fc s x = s ∨ cd_fc s x = 0)) : cd_br a j s (x + 1) = cd_br a j s x ^^^ 2 ^ cd_nb a j (cd_fc s x) := by
  show cd_br a j s x ^^^ cd_e a j s x = _
  unfold cd_e
  rw [if_neg h]
theorem cw_bs5 {post : Int32 → Prop} (a b : Nat → Int32) {s k : Nat} (hs : cd_hd a k s = true) (hk : k < 6) (h : post (nI (cd_bS a (k - 1) s))) : ∀ n x, 5 < n + x → x ≤ 5 → wX_boundaryOfSimplex_5 post (nI s) (nI k) a b n (nI (cd_br a (k - 1) s x)) (nI x) := by
  have hs2 := cd_hd_iff.mp hs
  intro n
  induction n with
  | zero => intro x h1 h2; omega
  | succ n ih =>
    intro x h1 h2
    refine pk_le 5 x (fun h5 => ?_) (fun h5 => ?_)
    · have hx : x = 5 := by omega
      subst hx
      exact h
    · have hf : cd_fc s x ≤ s := by
        unfold cd_fc
        by_cases q : s.testBit x = true
        · rw [if_pos q]
          exact Nat.sub_le _ _
        · rw [if_neg q]
          exact Nat.le_refl _
      refine nm_r (cw_fc s hs2.2.1 x h5) ?_
      refine pk_eq (cd_fc s x) s (fun e => nm_r (nI_1 x) ?_) (fun e => ?_) rfl rfl (by omega) (by omega)
      · rw [← cd_e_0 (a := a) (j := k - 1) (Or.inl e)]
        exact ih (x + 1) (by omega) (by omega)
      · refine pk_eq (cd_fc s x) 0 (fun e2 => nm_r (nI_1 x) ?_) (fun e2 => ?_) rfl rfl (by omega) (by omega)
        · rw [← cd_e_0 (a := a) (j := k - 1) (Or.inr e2)]
          exact ih (x + 1) (by omega) (by omega)
        · have hk0 : k ≠ 0 := by
            intro q
            subst q
            exact (cd_fc_1 s hs2.2.1 hs2.2.2.2 x h5).elim e e2
          obtain ⟨j, rfl⟩ : ∃ j, k = j + 1 := ⟨k - 1, by omega⟩
          rw [nI_pred]
          refine cw_hb a b (by omega) (by omega) (by omega) ?_
          have hn : cd_nb a j (cd_fc s x) ≤ 10 := Nat.le_trans (cd_nb_le a j (by omega)) (cd_nb_10 a (by omega))
          refine nm_r (e' := nI (cd_br a (j + 1 - 1) s (x + 1))) ?_ (nm_r (nI_1 x) (ih (x + 1) (by omega) (by omega)))
          rw [ca_1shl (by omega), nx_xor, cd_e_1 (fun z => z.elim e e2)]
          rfl
theorem cw_bs {post : Int32 → Prop} (a b : Nat → Int32) {s k : Nat} (hs : cd_hd a k s = true) (hk : k < 6) (h : post (nI (cd_bS a (k - 1) s))) : wpX_boundaryOfSimplex post (a, b) (nI s) (nI k) := ⟨6, cw_bs5 a b hs hk h 6 0 (by omega) (by omega)⟩
theorem cw_lb46 {post : Int32 → SX → Prop} {J : Int32 → Int32 → (Nat → Int32) → (Nat → Int32) → Prop} (x1 : Int32) (a : Nat → Int32) {M s own : Nat} (T : Nat → Nat) (hM : M ≤ 512) (hJ : ∀ b : Nat → Int32, (∀ i, i < M → b i = nI (T i)) → (∀ i, i < M → b (M + i) = nI (T i ^^^ own)) → J (nI (M * 2)) (nI (s + 1)) a b) : ∀ n c (b : Nat → Int32), M < n + c → c ≤ M → (∀ i, i < M → b i = nI (T i)) → (∀ i, i < c → b (M + i) = nI (T i ^^^ own)) → wX_listBoundaries_46 post J x1 (nI M) (nI s) (nI own) n (nI c) a b := by
  intro n
  induction n with
  | zero => intro c b h1 h2; omega
  | succ n ih =>
    intro c b h1 h2 h3 h4
    refine pk_le M c (fun q => ?_) (fun q => ?_)
    · have e : c = M := by omega
      subst e
      exact nm_r (pk_mul c 2) (nm_r (nI_1 s) (hJ b h3 h4))
    · refine ⟨vp_in_nI (by omega) (by omega), ?_⟩
      rw [nI_add]
      refine ⟨vp_in_nI (by omega) (by omega), ?_⟩
      rw [nI_clamp (by omega : M + c < 2 ^ 31), nI_clamp (by omega : c < 2 ^ 31), h3 c q, nx_xor]
      refine nm_e (nm_r (nI_1 c) (ih (c + 1) _ (by omega) (by omega) (fun i hi => ?_) (fun i hi => ?_)))
      · rw [pk_un (by omega), h3 i hi]
      · rcases Nat.lt_or_ge i c with z | z
        · rw [pk_un (by omega), h4 i z]
        · rw [show i = c by omega, pk_us]
theorem cw_lb11 {post : Int32 → SX → Prop} (a : Nat → Int32) {k : Nat} (hk : k < 6) (h : ∀ b : Nat → Int32, (∀ c, c < 2 ^ cd_nb a k 32 → b c = nI (cd_Bd a k 32 c)) → post (nI (2 ^ cd_nb a k 32)) (a, b)) : ∀ n s (b : Nat → Int32), 32 < n + s → s ≤ 32 → (∀ c, c < 2 ^ cd_nb a k s → b c = nI (cd_Bd a k s c)) → wX_listBoundaries_11 post (nI k) n (nI (2 ^ cd_nb a k s)) (nI s) a b := by
  intro n
  induction n with
  | zero => intro s b h1 h2; omega
  | succ n ih =>
    intro s b h1 h2 h3
    refine pk_le 32 s (fun q => ?_) (fun q => ?_)
    · have e : s = 32 := by omega
      subst e
      exact h b h3
    · refine cw_ihd a b q hk (fun e => br_f cw_10 ?_) (fun e => br_t rfl (nm_r (nI_1 s) ?_))
      · have h4 := cd_nb_lt e q
        have h5 := cd_nb_10 a hk
        have hM : 2 ^ cd_nb a k s ≤ 512 := Nat.pow_le_pow_right (n := 2) (j := 9) (by omega) (by omega)
        refine pk_lt 1024 (2 * 2 ^ cd_nb a k s) (fun z => by omega) (fun z => ?_) rfl (pk_mul 2 _) (by omega) (by omega)
        refine cw_bs a b e hk ?_
        refine ⟨2 ^ cd_nb a k s + 1, cw_lb46 (nI k) a (cd_Bd a k s) hM (fun b' g1 g2 => ?_) _ 0 b (by omega) (by omega) h3 (fun i hi => by omega)⟩
        have e2 : 2 ^ cd_nb a k s * 2 = 2 ^ cd_nb a k (s + 1) := by rw [cd_nb_t e, Nat.pow_succ]
        rw [e2]
        refine ih (s + 1) b' (by omega) (by omega) (fun c hc => ?_)
        rw [← e2] at hc
        rcases Nat.lt_or_ge c (2 ^ cd_nb a k s) with z | z
        · rw [g1 c z, cd_Bd_lo z]
        · obtain ⟨d, rfl⟩ : ∃ d, c = 2 ^ cd_nb a k s + d := ⟨c - 2 ^ cd_nb a k s, by omega⟩
          rw [g2 d (by omega), cd_Bd_up e (by omega)]
      · have e2 : 2 ^ cd_nb a k s = 2 ^ cd_nb a k (s + 1) := by rw [cd_nb_f e]
        rw [e2]
        refine ih (s + 1) b (by omega) (by omega) (fun c hc => ?_)
        rw [← e2] at hc
        rw [h3 c hc, cd_Bd_lo hc]
theorem cw_lb {post : Int32 → SX → Prop} (a b : Nat → Int32) {k : Nat} (hk : k < 6) (h : ∀ b : Nat → Int32, (∀ c, c < 2 ^ cd_nb a k 32 → b c = nI (cd_Bd a k 32 c)) → post (nI (2 ^ cd_nb a k 32)) (a, b)) : wpX_listBoundaries post (a, b) (nI k) := by
  have z := cw_lb11 a hk h 32 1 (upd b 0 0) (by omega) (by omega) (fun c hc => by
    rw [cd_nb_1] at hc
    have e : c = 0 := by omega
    subst e
    rw [cd_Bd_z]
    rfl)
  rw [cd_nb_1] at z
  exact nm_e ⟨32, z⟩
end
section
/-! the class: numbers of cycles, least fillings, chains -/
theorem cd_cn_n (p : Nat → Bool) : ∀ c, cd_cn p c ≤ c := by
  intro c
  induction c with
  | zero => exact Nat.le_refl _
  | succ c ih =>
    rw [cd_cn_s]
    by_cases h : p c = true
    · rw [if_pos h]
      omega
    · rw [if_neg h]
      omega
theorem cw_cb42 {post : Int32 → SX → Prop} (a b : Nat → Int32) {z : Nat} (hz : z ≤ 10) (h : post (nI z) (a, b)) : ∀ n t, z < n + t → t ≤ z → wX_cycleBits_42 post (nI (2 ^ z)) a b n (nI t) (nI (2 ^ (t + 1))) := by
  intro n
  induction n with
  | zero => intro t h1 h2; omega
  | succ n ih =>
    intro t h1 h2
    have hp : 2 ^ z ≤ 1024 := Nat.pow_le_pow_right (n := 2) (j := 10) (by omega) hz
    have hq : 2 ^ (t + 1) ≤ 2048 := Nat.pow_le_pow_right (n := 2) (j := 11) (by omega) (by omega)
    refine pk_lt (2 ^ z) (2 ^ (t + 1)) (fun q => ?_) (fun q => ?_) rfl rfl (by omega) (by omega)
    · have e : t = z := by
        have := (Nat.pow_lt_pow_iff_right (a := 2) (by omega)).mp q
        omega
      rw [e]
      exact h
    · refine pk_lt 1024 (2 ^ (t + 1)) (fun q2 => by omega) (fun q2 => ?_) rfl rfl (by omega) (by omega)
      have h3 := (Nat.pow_le_pow_iff_right (a := 2) (by omega)).mp q
      refine nm_r (nI_1 t) (nm_r (e' := nI (2 ^ (t + 1 + 1))) ?_ (ih (t + 1) (by omega) (by omega)))
      rw [Nat.pow_succ 2 (t + 1)]
      exact pk_mul _ 2
theorem cw_cb11 {post : Int32 → SX → Prop} (a b : Nat → Int32) (T : Nat → Nat) {C z : Nat} (hC : C ≤ 1024) (hz : z ≤ 10) (hT : ∀ c, c < C → T c < 2 ^ 31) (hb : ∀ c, c < C → b c = nI (T c)) (hZ : cd_zr T C = 2 ^ z) (h : post (nI z) (a, b)) : ∀ n c, C < n + c → c ≤ C → wX_cycleBits_11 post (nI C) a b n (nI (cd_zr T c)) (nI c) := by
  intro n
  induction n with
  | zero => intro c h1 h2; omega
  | succ n ih =>
    intro c h1 h2
    refine pk_le C c (fun q => ?_) (fun q => ?_)
    · have e : c = C := by omega
      rw [e, hZ]
      exact ⟨z + 1, cw_cb42 a b hz h (z + 1) 0 (by omega) (by omega)⟩
    · refine ⟨vp_in_nI (by omega) (by omega), ?_⟩
      rw [nI_clamp (by omega : c < 2 ^ 31), hb c q]
      refine pk_eq (T c) 0 (fun e => ?_) (fun e => ?_) rfl rfl (hT c q) (by omega)
      · refine nm_r (e' := nI (cd_zr T (c + 1))) ?_ (nm_r (nI_1 c) (ih (c + 1) (by omega) (by omega)))
        rw [nI_1, cd_zr, cd_zr, cd_cn_s, if_pos (by rw [beq_iff_eq]; exact e)]
      · have e2 : cd_zr T c = cd_zr T (c + 1) := by
          rw [cd_zr, cd_zr, cd_cn_s, if_neg (by rw [beq_iff_eq]; exact e), Nat.add_zero]
        refine nm_r (nI_1 c) ?_
        rw [e2]
        exact ih (c + 1) (by omega) (by omega)
theorem cd_Bd_31 {a : Nat → Int32} {k : Nat} (C : cd_Cl a) (hk : k < 6) (c : Nat) : cd_Bd a k 32 c < 1024 := by
  cases k with
  | zero => rw [cd_Bd_0]; omega
  | succ j => exact Nat.lt_of_lt_of_le (cd_Bd_lt C c 32) (cd_p10 a (by omega))
theorem cw_cb {post : Int32 → SX → Prop} (a b : Nat → Int32) {k z : Nat} (C : cd_Cl a) (hk : k < 6) (hz : z ≤ cd_nb a k 32) (hZ : cd_zr (cd_Bd a k 32) (2 ^ cd_nb a k 32) = 2 ^ z) (h : ∀ b, post (nI z) (a, b)) : wpX_cycleBits post (a, b) (nI k) := by
  have h10 := cd_nb_10 a hk
  unfold wpX_cycleBits
  dsimp only
  refine cw_lb a b hk (fun b' hb => ?_)
  exact ⟨2 ^ cd_nb a k 32 + 1, cw_cb11 a b' (cd_Bd a k 32) (cd_p10 a hk) (by omega) (fun c _ => by have := cd_Bd_31 C hk c; omega) hb hZ (h b') _ 0 (by omega) (Nat.zero_le _)⟩
theorem cw_xholes {post : Int32 → SX → Prop} (a b : Nat → Int32) {k z z' : Nat} (C : cd_Cl a) (hk : k ≤ 4) (h1 : z ≤ cd_nb a k 32) (h1' : z' ≤ cd_nb a (k + 1) 32) (h2 : cd_zr (cd_Bd a k 32) (2 ^ cd_nb a k 32) = 2 ^ z) (h2' : cd_zr (cd_Bd a (k + 1) 32) (2 ^ cd_nb a (k + 1) 32) = 2 ^ z') (h4 : cd_nb a (k + 1) 32 - z' ≤ z) (h : ∀ b, post (nI (z - (cd_nb a (k + 1) 32 - z'))) (a, b)) : wpX_holes post (a, b) (nI k) := by
  unfold wpX_holes
  dsimp only
  refine cw_xd_t hk (br_f cw_10 ?_)
  rw [nI_1]
  refine cw_hod a b (by omega) ?_
  refine cw_cb a b C (by omega) h1' h2' (fun b1 => ?_)
  dsimp only
  refine nm_r (pk_sub h1') ?_
  refine cw_cb a b1 C (by omega) h1 h2 (fun b2 => ?_)
  dsimp only
  rw [pk_sub h4]
  exact h b2
theorem cw_lf11_t {post : Int32 → SX → Prop} (a b : Nat → Int32) (T : Nat → Nat) {C ch e : Nat} (hC : C ≤ 1024) (hc : ch < 2 ^ 31) (hT : ∀ c, c < C → T c < 2 ^ 31) (hb : ∀ c, c < C → b c = nI (T c)) (he : e < C) (hq : T e = ch) (hn : ∀ d, d < e → ¬ T d = ch) (h : post (nI e) (a, b)) : ∀ n c, C < n + c → c ≤ e → wX_leastFilling_11 post (nI ch) (nI C) a b n (nI c) := by
  intro n
  induction n with
  | zero => intro c h1 h2; omega
  | succ n ih =>
    intro c h1 h2
    refine pk_le C c (fun q => by omega) (fun q => ?_)
    refine ⟨vp_in_nI (by omega) (by omega), ?_⟩
    rw [nI_clamp (by omega : c < 2 ^ 31), hb c q]
    refine pk_eq (T c) ch (fun z => ?_) (fun z => ?_) rfl rfl (hT c q) hc
    · have e2 : c = e := by
        rcases Nat.lt_or_ge c e with w | w
        · exact absurd z (hn c w)
        · omega
      rw [e2]
      exact h
    · refine nm_r (nI_1 c) (ih (c + 1) (by omega) ?_)
      rcases Nat.lt_or_ge c e with w | w
      · omega
      · exact absurd (by rw [show c = e by omega]; exact hq) z
theorem cw_lf11_f {post : Int32 → SX → Prop} (a b : Nat → Int32) (T : Nat → Nat) {C ch : Nat} (hC : C ≤ 1024) (hc : ch < 2 ^ 31) (hT : ∀ c, c < C → T c < 2 ^ 31) (hb : ∀ c, c < C → b c = nI (T c)) (hn : ∀ d, d < C → ¬ T d = ch) (h : post (-2) (a, b)) : ∀ n c, C < n + c → c ≤ C → wX_leastFilling_11 post (nI ch) (nI C) a b n (nI c) := by
  intro n
  induction n with
  | zero => intro c h1 h2; omega
  | succ n ih =>
    intro c h1 h2
    refine pk_le C c (fun q => h) (fun q => ?_)
    refine ⟨vp_in_nI (by omega) (by omega), ?_⟩
    rw [nI_clamp (by omega : c < 2 ^ 31), hb c q]
    refine pk_eq (T c) ch (fun z => absurd z (hn c q)) (fun z => ?_) rfl rfl (hT c q) hc
    exact nm_r (nI_1 c) (ih (c + 1) (by omega) (by omega))
theorem cw_lf_t {post : Int32 → SX → Prop} (a b : Nat → Int32) {k ch e : Nat} (C : cd_Cl a) (hk : k ≤ 4) (hc : ch < 2 ^ 31) (he : e < 2 ^ cd_nb a (k + 1) 32) (hq : cd_Bd a (k + 1) 32 e = ch) (hn : ∀ d, d < e → ¬ cd_Bd a (k + 1) 32 d = ch) (h : ∀ b, post (nI e) (a, b)) : wpX_leastFilling post (a, b) (nI k) (nI ch) := by
  unfold wpX_leastFilling
  dsimp only
  rw [nI_1]
  refine cw_lb a b (by omega) (fun b' hb => ?_)
  exact ⟨2 ^ cd_nb a (k + 1) 32 + 1, cw_lf11_t a b' (cd_Bd a (k + 1) 32) (cd_p10 a (by omega)) hc (fun c _ => by have := cd_Bd_31 C (by omega : k + 1 < 6) c; omega) hb he hq hn (h b') _ 0 (by omega) (Nat.zero_le _)⟩
theorem cw_lf_f {post : Int32 → SX → Prop} (a b : Nat → Int32) {k ch : Nat} (C : cd_Cl a) (hk : k ≤ 4) (hc : ch < 2 ^ 31) (hn : ∀ d, d < 2 ^ cd_nb a (k + 1) 32 → ¬ cd_Bd a (k + 1) 32 d = ch) (h : ∀ b, post (-2) (a, b)) : wpX_leastFilling post (a, b) (nI k) (nI ch) := by
  unfold wpX_leastFilling
  dsimp only
  rw [nI_1]
  refine cw_lb a b (by omega) (fun b' hb => ?_)
  exact ⟨2 ^ cd_nb a (k + 1) 32 + 1, cw_lf11_f a b' (cd_Bd a (k + 1) 32) (cd_p10 a (by omega)) hc (fun c _ => by have := cd_Bd_31 C (by omega : k + 1 < 6) c; omega) hb hn (h b') _ 0 (by omega) (Nat.zero_le _)⟩
theorem cw_le25 {post : Int32 → SX → Prop} (a b : Nat → Int32) (T : Nat → Nat) {C ch : Nat} (hC : C ≤ 1024) (hc : ch < 2 ^ 10) (hT : ∀ c, c < C → T c < 2 ^ 10) (hb : ∀ c, c < C → b c = nI (T c)) (h : post (nI (cd_lv T ch C)) (a, b)) : ∀ n c, C < n + c → c ≤ C → wX_least_25 post (nI ch) (nI C) a b n (nI (cd_lv T ch c)) (nI c) := by
  intro n
  induction n with
  | zero => intro c h1 h2; omega
  | succ n ih =>
    intro c h1 h2
    refine pk_le C c (fun q => ?_) (fun q => ?_)
    · rw [show c = C by omega]
      exact h
    · refine ⟨vp_in_nI (by omega) (by omega), ?_⟩
      rw [nI_clamp (by omega : c < 2 ^ 31), hb c q]
      have hx := Nat.xor_lt_two_pow hc (hT c q)
      have hl := (cd_lv_le T ch c).1
      refine nm_r (nx_xor ch (T c)) ?_
      refine pk_le (cd_lv T ch c) (ch ^^^ T c) (fun z => ?_) (fun z => ?_) rfl rfl (by omega) (by omega)
      · refine nm_r (nI_1 c) ?_
        have e : cd_lv T ch c = cd_lv T ch (c + 1) := by rw [cd_lv_s, if_neg (by omega)]
        rw [e]
        exact ih (c + 1) (by omega) (by omega)
      · refine nm_r (nI_1 c) ?_
        have e : ch ^^^ T c = cd_lv T ch (c + 1) := by rw [cd_lv_s, if_pos z]
        rw [e]
        exact ih (c + 1) (by omega) (by omega)
theorem cw_xch {post : Int32 → Prop} (a b : Nat → Int32) {k c : Nat} (hk : k ≤ 4) (hc : c < 2 ^ cd_nb a k 32) (h : post 1) : wpX_isChain post (a, b) (nI k) (nI c) := by
  have h10 := cd_nb_10 a (by omega : k < 6)
  have hp := cd_p10 a (by omega : k < 6)
  unfold wpX_isChain
  dsimp only
  refine cw_xd_t hk (br_f cw_10 ?_)
  refine pk_lt c 0 (fun z => by omega) (fun _ => ?_)
  refine cw_hod a b (by omega) ?_
  rw [ca_1shl (by omega : cd_nb a k 32 < 31)]
  exact pk_le (2 ^ cd_nb a k 32) c (fun z => by omega) (fun _ => h)
theorem cw_xle {post : Int32 → SX → Prop} (a b : Nat → Int32) {k ch : Nat} (C : cd_Cl a) (hk : k ≤ 4) (hc : ch < 2 ^ cd_nb a k 32) (h : ∀ b, post (nI (cd_lv (cd_Bd a (k + 1) 32) ch (2 ^ cd_nb a (k + 1) 32))) (a, b)) : wpX_least post (a, b) (nI k) (nI ch) := by
  have hp := cd_p10 a (by omega : k < 6)
  unfold wpX_least
  dsimp only
  refine cw_xch a b hk hc (br_f cw_10 ?_)
  rw [nI_1]
  refine cw_lb a b (by omega) (fun b' hb => ?_)
  exact ⟨2 ^ cd_nb a (k + 1) 32 + 1, cw_le25 a b' (cd_Bd a (k + 1) 32) (cd_p10 a (by omega)) (by omega) (fun c _ => cd_Bd_31 C (by omega) c) hb (h b') _ 0 (by omega) (Nat.zero_le _)⟩
theorem cw_xsi {post : Int32 → Prop} (a b : Nat → Int32) {k i : Nat} (hk : k ≤ 4) (hi : i < 2 ^ 31) (ht : i < cd_nb a k 32 → post (nI (cd_sx a k i 32))) (hf : cd_nb a k 32 ≤ i → post (-1)) : ∀ n t, 32 < n + t → t ≤ 32 → cd_nb a k t ≤ i → wX_simplex_14 post (nI k) (nI i) a b n (nI (cd_nb a k t)) (nI t) := by
  intro n
  induction n with
  | zero => intro t h1 h2; omega
  | succ n ih =>
    intro t h1 h2 h3
    refine pk_le 32 t (fun q => ?_) (fun q => ?_)
    · have e : t = 32 := by omega
      subst e
      exact hf h3
    · refine cw_ihd a b q (by omega) (fun e => br_f cw_10 ?_) (fun e => br_t rfl (nm_r (nI_1 t) ?_))
      · refine pk_eq (cd_nb a k t) i (fun z => ?_) (fun z => ?_) rfl rfl (by omega) hi
        · have h4 := cd_nb_lt e q
          have h5 := ht (by omega)
          rw [← z, cd_sx_eq e q] at h5
          exact h5
        · refine nm_r (e' := nI (cd_nb a k (t + 1))) (by rw [nI_1, cd_nb_t e]) (nm_r (nI_1 t) (ih (t + 1) (by omega) (by omega) ?_))
          rw [cd_nb_t e]
          omega
      · rw [← cd_nb_f e]
        exact ih (t + 1) (by omega) (by omega) (by rw [cd_nb_f e]; exact h3)
theorem cw_xsn {post : Int32 → Prop} (a b : Nat → Int32) {k : Nat} {v : Int32} (hk : k ≤ 4) (hv : v < 0) (hf : post (-1)) : ∀ n t, 32 < n + t → t ≤ 32 → wX_simplex_14 post (nI k) v a b n (nI (cd_nb a k t)) (nI t) := by
  intro n
  induction n with
  | zero => intro t h1 h2; omega
  | succ n ih =>
    intro t h1 h2
    refine pk_le 32 t (fun q => hf) (fun q => ?_)
    refine cw_ihd a b q (by omega) (fun e => br_f cw_10 ?_) (fun e => br_t rfl (nm_r (nI_1 t) ?_))
    · have h4 : cd_nb a k t < 2 ^ 31 := by
        have h5 := cd_nb_lt e q
        have h6 := cd_nb_10 a (by omega : k < 6)
        omega
      have hne : ¬ nI (cd_nb a k t) = v := fun z => nI_pos h4 (by rw [z]; exact hv)
      refine br_f hne ?_
      exact nm_r (e' := nI (cd_nb a k (t + 1))) (by rw [nI_1, cd_nb_t e]) (nm_r (nI_1 t) (ih (t + 1) (by omega) (by omega)))
    · rw [← cd_nb_f e]
      exact ih (t + 1) (by omega) (by omega)
end
section
/-! the reference's walks -/
theorem cy_bad_t {post : Int32 → Prop} {k : Nat} (hk : k ≤ 4) (h : post 0) : wpY_bad post (nI k) := pk_lt k 0 (fun z => by omega) (fun _ => pk_le k 4 (fun _ => h) (fun z => by omega))
theorem cy_bad_f {post : Int32 → Prop} {v : Int32} (hv : v < 0 ∨ (¬ v < 0 ∧ 4 < v)) (h : post 1) : wpY_bad post v := by
  rcases hv with hv | ⟨h1, h2⟩
  · exact br_t hv h
  · exact br_f h1 (br_f (Int32.not_le.mpr h2) h)
theorem cy_pt4 {post : Int32 → Prop} {s : Nat} (hs : s < 32) (h : post (nI (cd_dm s))) : ∀ n x, 5 < n + x → x ≤ 5 → wY_points_4 post (nI s) n (nI (cd_ds s x)) (nI x) := by
  intro n
  induction n with
  | zero => intro x h1 h2; omega
  | succ n ih =>
    intro x h1 h2
    refine pk_le 5 x (fun h5 => ?_) (fun h5 => ?_)
    · have hx : x = 5 := by omega
      subst hx
      rw [cd_ds5]
      exact h
    · refine nm_r (e' := nI (cd_ds s (x + 1))) ?_ (nm_r (nI_1 x) (ih (x + 1) (by omega) (by omega)))
      rw [ca_bit (by omega : s < 2 ^ 31) (by omega : x < 31), nI_add]
      rfl
theorem cy_pt {post : Int32 → Prop} {s : Nat} (hs : s < 32) (h : post (nI (cd_dm s))) : wpY_points post (nI s) := ⟨6, cy_pt4 hs h 6 0 (by omega) (by omega)⟩
theorem cy_ct13 {post : Int32 → Prop} (a m : Nat → Int32) {k : Nat} (hk : k < 6) (h : post (nI (cd_nb a k 32))) : ∀ n t, 32 < n + t → 1 ≤ t → t ≤ 32 → wY_count_13 post (nI k) a m n (nI (cd_nb a k t)) (nI t) := by
  intro n
  induction n with
  | zero => intro t h1 h2 h3; omega
  | succ n ih =>
    intro t h1 h2 h3
    refine pk_le 32 t (fun q => ?_) (fun q => ?_)
    · have e : t = 32 := by omega
      subst e
      exact h
    · refine ⟨vp_in_nI q (by omega), ?_⟩
      rw [nI_clamp (by omega : t < 2 ^ 31)]
      have hd5 := cd_dm5 t
      refine br_c (fun e => nm_r (nI_1 t) ?_) (fun e => ?_)
      · rw [← cd_nb_f (cd_hd_no e)]
        exact ih (t + 1) (by omega) (by omega) (by omega)
      · refine cy_pt q ?_
        refine pk_eq (cd_dm t) (k + 1) (fun z => ?_) (fun z => ?_) rfl (nI_1 k) (by omega) (by omega)
        · have e2 : cd_hd a k t = true := cd_hd_iff.mpr ⟨h2, q, e, z⟩
          exact nm_r (e' := nI (cd_nb a k (t + 1))) (by rw [nI_1, cd_nb_t e2]) (nm_r (nI_1 t) (ih (t + 1) (by omega) (by omega) (by omega)))
        · refine nm_r (nI_1 t) ?_
          rw [← cd_nb_f (cd_hd_nk rfl z)]
          exact ih (t + 1) (by omega) (by omega) (by omega)
theorem cy_ct {post : Int32 → Prop} (a m : Nat → Int32) {k : Nat} (hk : k ≤ 4) (h : post (nI (cd_nb a k 32))) : wpY_count post (a, m) (nI k) := by
  have z := cy_ct13 a m (by omega : k < 6) h 32 1 (by omega) (by omega) (by omega)
  rw [cd_nb_1] at z
  unfold wpY_count
  dsimp only
  exact cy_bad_t hk (br_t rfl ⟨32, z⟩)
theorem cy_si18 {post : Int32 → Prop} (a m : Nat → Int32) {k i : Nat} (hk : k ≤ 4) (hi : i < 2 ^ 31) (ht : i < cd_nb a k 32 → post (nI (cd_sx a k i 32))) (hf : cd_nb a k 32 ≤ i → post (-1)) : ∀ n t, 32 < n + t → 1 ≤ t → t ≤ 32 → cd_nb a k t ≤ i → wY_simplex_18 post (nI k) (nI i) a m n (nI (cd_nb a k t)) (nI t) := by
  intro n
  induction n with
  | zero => intro t h1 h2 h3; omega
  | succ n ih =>
    intro t h1 h2 h3 h4
    refine pk_le 32 t (fun q => ?_) (fun q => ?_)
    · have e : t = 32 := by omega
      subst e
      exact hf h4
    · refine ⟨vp_in_nI q (by omega), ?_⟩
      rw [nI_clamp (by omega : t < 2 ^ 31)]
      have hd5 := cd_dm5 t
      refine br_c (fun e => nm_r (nI_1 t) ?_) (fun e => ?_)
      · rw [← cd_nb_f (cd_hd_no e)]
        exact ih (t + 1) (by omega) (by omega) (by omega) (by rw [cd_nb_f (cd_hd_no e)]; exact h4)
      · refine cy_pt q ?_
        refine pk_eq (cd_dm t) (k + 1) (fun z => ?_) (fun z => ?_) rfl (nI_1 k) (by omega) (by omega)
        · have e2 : cd_hd a k t = true := cd_hd_iff.mpr ⟨h2, q, e, z⟩
          refine pk_eq (cd_nb a k t) i (fun w => ?_) (fun w => ?_) rfl rfl (by omega) hi
          · have h5 := cd_nb_lt e2 q
            have h6 := ht (by omega)
            rw [← w, cd_sx_eq e2 q] at h6
            exact h6
          · refine nm_r (e' := nI (cd_nb a k (t + 1))) (by rw [nI_1, cd_nb_t e2]) (nm_r (nI_1 t) (ih (t + 1) (by omega) (by omega) (by omega) ?_))
            rw [cd_nb_t e2]
            omega
        · refine nm_r (nI_1 t) ?_
          rw [← cd_nb_f (cd_hd_nk rfl z)]
          exact ih (t + 1) (by omega) (by omega) (by omega) (by rw [cd_nb_f (cd_hd_nk rfl z)]; exact h4)
theorem cy_si {post : Int32 → Prop} (a m : Nat → Int32) {k i : Nat} (hk : k ≤ 4) (hi : i < 2 ^ 31) (ht : i < cd_nb a k 32 → post (nI (cd_sx a k i 32))) (hf : cd_nb a k 32 ≤ i → post (-1)) : wpY_simplex post (a, m) (nI k) (nI i) := by
  have z := cy_si18 a m hk hi ht hf 32 1 (by omega) (by omega) (by omega) (by rw [cd_nb_1]; omega)
  rw [cd_nb_1] at z
  unfold wpY_simplex
  dsimp only
  exact cy_bad_t hk (br_t rfl (br_t (nI_pos' hi) ⟨32, z⟩))
theorem cy_ch {post : Int32 → Prop} (a m : Nat → Int32) {k : Nat} (hk : k < 6) (h : post (nI (2 ^ cd_nb a k 32))) : wpY_chains post (a, m) (nI k) := by
  unfold wpY_chains
  dsimp only
  rcases Nat.lt_or_ge k 5 with q | q
  · have h10 := cd_nb_10 a hk
    refine cy_bad_t (by omega) (br_t rfl ?_)
    refine cy_ct a m (by omega) ?_
    rw [ca_1shl (by omega : cd_nb a k 32 < 31)]
    exact h
  · have e : k = 5 := by omega
    subst e
    refine cy_bad_f (Or.inr ⟨by decide, by decide⟩) (br_f cw_10 ?_)
    rw [cd_nb_5] at h
    exact h
theorem cy_nc {post : Int32 → Prop} (a m : Nat → Int32) {k c : Nat} (hk : k ≤ 4) (hc : c < 2 ^ cd_nb a k 32) (h : post 0) : wpY_noChain post (a, m) (nI k) (nI c) := by
  have hp := cd_p10 a (by omega : k < 6)
  unfold wpY_noChain
  dsimp only
  refine cy_bad_t hk (br_t rfl ?_)
  refine pk_lt c 0 (fun z => by omega) (fun _ => ?_)
  refine cy_ch a m (by omega) ?_
  exact pk_lt c (2 ^ cd_nb a k 32) (fun _ => h) (fun z => by omega)
/-- either both calls name a chain, or both sides refuse -/
theorem cw_chain (a b m : Nat → Int32) (v1 v2 : Int32) : (∃ k c, k ≤ 4 ∧ c < 2 ^ cd_nb a k 32 ∧ v1 = nI k ∧ v2 = nI c) ∨ ((∀ post : Int32 → Prop, post 0 → wpX_isChain post (a, b) v1 v2) ∧ (∀ post : Int32 → Prop, post 1 → wpY_noChain post (a, m) v1 v2)) := by
  rcases cw_dim v1 with hv | ⟨k, hk, rfl⟩
  · refine Or.inr ⟨fun post h => ?_, fun post h => ?_⟩
    · unfold wpX_isChain
      dsimp only
      exact cw_xd_f hv (br_t rfl h)
    · unfold wpY_noChain
      dsimp only
      exact cy_bad_f hv (br_f cw_10 h)
  · by_cases h2 : v2 < 0
    · refine Or.inr ⟨fun post h => ?_, fun post h => ?_⟩
      · unfold wpX_isChain
        dsimp only
        exact cw_xd_t hk (br_f cw_10 (br_t h2 h))
      · unfold wpY_noChain
        dsimp only
        exact cy_bad_t hk (br_t rfl (br_t h2 h))
    · obtain ⟨c, hc, rfl⟩ := nI_of h2
      have h10 := cd_nb_10 a (by omega : k < 6)
      have hp := cd_p10 a (by omega : k < 6)
      rcases Nat.lt_or_ge c (2 ^ cd_nb a k 32) with q | q
      · exact Or.inl ⟨k, c, hk, q, rfl, rfl⟩
      · refine Or.inr ⟨fun post h => ?_, fun post h => ?_⟩
        · unfold wpX_isChain
          dsimp only
          refine cw_xd_t hk (br_f cw_10 (br_f h2 ?_))
          refine cw_hod a b (by omega) ?_
          rw [ca_1shl (by omega : cd_nb a k 32 < 31)]
          exact pk_le (2 ^ cd_nb a k 32) c (fun _ => h) (fun z => by omega)
        · unfold wpY_noChain
          dsimp only
          refine cy_bad_t hk (br_t rfl (br_f h2 ?_))
          refine cy_ch a m (by omega) ?_
          exact pk_lt c (2 ^ cd_nb a k 32) (fun z => by omega) (fun _ => h)
theorem cy_od13 {post : Int32 → Prop} (a m : Nat → Int32) {k c f : Nat} (hk : k ≤ 4) (hc : c < 2 ^ 31) (hf : f < 2 ^ 31) (ht : cd_cn (cd_op a k c f) (cd_nb a k 32) % 2 = 1 → post 1) (hn : ¬ cd_cn (cd_op a k c f) (cd_nb a k 32) % 2 = 1 → post 0) : ∀ n i, cd_nb a k 32 < n + i → i ≤ cd_nb a k 32 → wY_odd_13 post (nI k) (nI c) (nI f) (nI (cd_nb a k 32)) a m n (nI (cd_cn (cd_op a k c f) i)) (nI i) := by
  have h10 := cd_nb_10 a (by omega : k < 6)
  intro n
  induction n with
  | zero => intro i h1 h2; omega
  | succ n ih =>
    intro i h1 h2
    have hcn := cd_cn_n (cd_op a k c f) i
    refine pk_le (cd_nb a k 32) i (fun q => ?_) (fun q => ?_)
    · have e : i = cd_nb a k 32 := by omega
      rw [e] at hcn ⊢
      refine ⟨by decide, ?_⟩
      exact pk_eq (cd_cn (cd_op a k c f) (cd_nb a k 32) % 2) 1 ht hn (pk_rem (d := 2) (by omega) (by omega) (by omega)) rfl (by omega) (by omega)
    · refine cy_si a m hk (by omega) (fun _ => ?_) (fun z => by omega)
      have hskip : cd_op a k c f i = false → cd_cn (cd_op a k c f) i = cd_cn (cd_op a k c f) (i + 1) := by
        intro z
        rw [cd_cn_s, z, if_neg (by decide), Nat.add_zero]
      refine br_c (fun z => ?_) (fun z => ?_)
      · rw [ca_tb hc (by omega : i < 31)] at z
        refine br_c (fun w => ?_) (fun w => ?_)
        · rw [ca_and _ _ hf] at w
          refine nm_r (e' := nI (cd_cn (cd_op a k c f) (i + 1))) ?_ (nm_r (nI_1 i) (ih (i + 1) (by omega) (by omega)))
          have e : cd_op a k c f i = true := by
            unfold cd_op
            rw [z, decide_eq_true w]
            rfl
          rw [nI_1, cd_cn_s, e, if_pos rfl]
        · rw [ca_and _ _ hf] at w
          refine nm_r (nI_1 i) ?_
          rw [hskip (by unfold cd_op; rw [decide_eq_false w, Bool.and_false])]
          exact ih (i + 1) (by omega) (by omega)
      · rw [ca_tb hc (by omega : i < 31)] at z
        refine nm_r (nI_1 i) ?_
        rw [hskip (by unfold cd_op; rw [eq_false_of_ne_true z, Bool.false_and])]
        exact ih (i + 1) (by omega) (by omega)
theorem cy_od {post : Int32 → Prop} (a m : Nat → Int32) {k c f : Nat} (hk : k ≤ 4) (hc : c < 2 ^ 31) (hf : f < 2 ^ 31) (ht : cd_cn (cd_op a k c f) (cd_nb a k 32) % 2 = 1 → post 1) (hn : ¬ cd_cn (cd_op a k c f) (cd_nb a k 32) % 2 = 1 → post 0) : wpY_odd post (a, m) (nI k) (nI c) (nI f) := by
  unfold wpY_odd
  dsimp only
  refine cy_ct a m hk ?_
  exact ⟨cd_nb a k 32 + 1, cy_od13 a m hk hc hf ht hn _ 0 (by omega) (Nat.zero_le _)⟩
theorem cy_bo26 {post : Int32 → Prop} (a m : Nat → Int32) {k c : Nat} (C : cd_Cl a) (hk : k + 1 ≤ 4) (hc : c < 2 ^ 31) (h : post (nI (cd_Bd a (k + 1) 32 c))) : ∀ n i, cd_nb a k 32 < n + i → i ≤ cd_nb a k 32 → wY_boundaryOf_26 post (nI (k + 1)) (nI c) (nI (cd_nb a k 32)) a m n (nI (cd_Bd a (k + 1) 32 c % 2 ^ i)) (nI i) := by
  have h10 := cd_nb_10 a (by omega : k < 6)
  intro n
  induction n with
  | zero => intro i h1 h2; omega
  | succ n ih =>
    intro i h1 h2
    refine pk_le (cd_nb a k 32) i (fun q => ?_) (fun q => ?_)
    · have e : i = cd_nb a k 32 := by omega
      rw [e, Nat.mod_eq_of_lt (cd_Bd_lt C c 32)]
      exact h
    · rw [nI_pred]
      refine cy_si a m (by omega) (by omega) (fun _ => ?_) (fun z => by omega)
      have hsx := cd_sx_spec a k i 32 q
      have ho := cd_odd C c q 32 (by omega)
      refine cy_od a m hk hc (by omega) (fun z => br_f cw_10 ?_) (fun z => br_t rfl (nm_r (nI_1 i) ?_))
      · rw [decide_eq_true z] at ho
        refine nm_r (e' := nI (cd_Bd a (k + 1) 32 c % 2 ^ (i + 1))) ?_ (nm_r (nI_1 i) (ih (i + 1) (by omega) (by omega)))
        rw [ca_1shl (by omega : i < 31), ca_or, cd_mod_t ho]
      · rw [decide_eq_false z] at ho
        rw [← cd_mod_f ho]
        exact ih (i + 1) (by omega) (by omega)
theorem cy_bo {post : Int32 → Prop} (a m : Nat → Int32) {k c : Nat} (C : cd_Cl a) (hk : k < 6) (hc : c < 2 ^ 31) (h : post (nI (cd_Bd a k 32 c))) : wpY_boundaryOf post (a, m) (nI k) (nI c) := by
  unfold wpY_boundaryOf
  dsimp only
  refine pk_lt k 1 (fun q => ?_) (fun q => ?_)
  · have e : k = 0 := by omega
    subst e
    rw [cd_Bd_0] at h
    exact h
  · refine pk_le k 4 (fun q2 => ?_) (fun q2 => ?_)
    · obtain ⟨j, rfl⟩ : ∃ j, k = j + 1 := ⟨k - 1, by omega⟩
      rw [nI_pred]
      refine cy_ct a m (by omega) ?_
      have z := cy_bo26 a m C q2 hc h (cd_nb a j 32 + 1) 0 (by omega) (Nat.zero_le _)
      rw [Nat.pow_zero, Nat.mod_one] at z
      exact ⟨_, z⟩
    · have e : k = 5 := by omega
      subst e
      rw [cd_Bd_5] at h
      exact h
end
section
/-! the reference: marks, holes, fillings, least -/
def cd_Mk (T : Nat → Nat) (M c : Nat) (m : Nat → Int32) : Prop := ∀ v, v < M → (m v = 0 ↔ cd_hs T v c = false)
theorem cd_Mk_u {T : Nat → Nat} {M c : Nat} {m : Nat → Int32} (h : cd_Mk T M c m) : cd_Mk T M (c + 1) (upd m (T c) 1) := by
  intro v hv
  have e : cd_hs T v (c + 1) = (cd_hs T v c || (T c == v)) := rfl
  by_cases q : v = T c
  · subst q
    rw [pk_us, e, beq_self_eq_true, Bool.or_true]
    exact ⟨fun z => absurd z cw_10, fun z => absurd z (by decide)⟩
  · have e2 : (T c == v) = false := by
      rw [beq_eq_false_iff_ne]
      exact fun z => q z.symm
    rw [pk_un q, e, e2, Bool.or_false]
    exact h v hv
theorem cy_mk43 {post : Int32 → SY → Prop} (a : Nat → Int32) {k : Nat} (C : cd_Cl a) (hk : k ≤ 4) (h : ∀ m, cd_Mk (cd_Bd a (k + 1) 32) (2 ^ cd_nb a k 32) (2 ^ cd_nb a (k + 1) 32) m → post (nI (cd_fr (cd_Bd a (k + 1) 32) (2 ^ cd_nb a (k + 1) 32))) (a, m)) : ∀ n c m, 2 ^ cd_nb a (k + 1) 32 < n + c → c ≤ 2 ^ cd_nb a (k + 1) 32 → cd_Mk (cd_Bd a (k + 1) 32) (2 ^ cd_nb a k 32) c m → wY_mark_43 post (nI k) (nI (2 ^ cd_nb a (k + 1) 32)) n (nI (cd_fr (cd_Bd a (k + 1) 32) c)) (nI c) a m := by
  have hp := cd_p10 a (by omega : k + 1 < 6)
  have hp2 := cd_p10 a (by omega : k < 6)
  intro n
  induction n with
  | zero => intro c m h1 h2; omega
  | succ n ih =>
    intro c m h1 h2 h3
    refine pk_le (2 ^ cd_nb a (k + 1) 32) c (fun q => ?_) (fun q => ?_)
    · have e : c = 2 ^ cd_nb a (k + 1) 32 := by omega
      rw [e] at h3 ⊢
      exact h m h3
    · rw [nI_1 k]
      refine cy_bo a m C (by omega) (by omega) ?_
      have hT := cd_Bd_31 C (by omega : k + 1 < 6) c
      have hT2 := cd_Bd_lt (k := k) C c 32
      have hb := h3 _ hT2
      refine ⟨vp_in_nI hT (by omega), ?_⟩
      rw [nI_clamp (by omega : cd_Bd a (k + 1) 32 c < 2 ^ 31), cw_nb1]
      have hs : cd_fr (cd_Bd a (k + 1) 32) (c + 1) = cd_fr (cd_Bd a (k + 1) 32) c + (if (!(cd_hs (cd_Bd a (k + 1) 32) (cd_Bd a (k + 1) 32 c) c)) = true then 1 else 0) := rfl
      have hs0 : cd_hs (cd_Bd a (k + 1) 32) (cd_Bd a (k + 1) 32 c) c = false → cd_fr (cd_Bd a (k + 1) 32) (c + 1) = cd_fr (cd_Bd a (k + 1) 32) c + 1 := fun w => by
        rw [hs, w]
        rfl
      have hs1 : cd_hs (cd_Bd a (k + 1) 32) (cd_Bd a (k + 1) 32 c) c = true → cd_fr (cd_Bd a (k + 1) 32) (c + 1) = cd_fr (cd_Bd a (k + 1) 32) c := fun w => by
        rw [hs, w]
        rfl
      refine br_c (fun z => ?_) (fun z => ?_)
      · have hs := hs0 (hb.mp z)
        refine nm_r (e' := nI (cd_fr (cd_Bd a (k + 1) 32) (c + 1))) (by rw [nI_1, hs]) ⟨vp_in_nI hT (by omega), nm_e (nm_r (nI_1 c) (ih (c + 1) _ (by omega) (by omega) (cd_Mk_u h3)))⟩
      · have hh : cd_hs (cd_Bd a (k + 1) 32) (cd_Bd a (k + 1) 32 c) c = true := by
          cases w : cd_hs (cd_Bd a (k + 1) 32) (cd_Bd a (k + 1) 32 c) c
          · exact absurd (hb.mpr w) z
          · rfl
        rw [← hs1 hh]
        exact ⟨vp_in_nI hT (by omega), nm_e (nm_r (nI_1 c) (ih (c + 1) _ (by omega) (by omega) (cd_Mk_u h3)))⟩
theorem cy_mk20 {post : Int32 → SY → Prop} (a : Nat → Int32) {k : Nat} (C : cd_Cl a) (hk : k ≤ 4) (h : ∀ m, cd_Mk (cd_Bd a (k + 1) 32) (2 ^ cd_nb a k 32) (2 ^ cd_nb a (k + 1) 32) m → post (nI (cd_fr (cd_Bd a (k + 1) 32) (2 ^ cd_nb a (k + 1) 32))) (a, m)) : ∀ n c m, 2 ^ cd_nb a k 32 < n + c → c ≤ 2 ^ cd_nb a k 32 → (∀ v, v < c → m v = 0) → wY_mark_20 post (nI k) 0 (nI (2 ^ cd_nb a k 32)) (nI (2 ^ cd_nb a (k + 1) 32)) n (nI c) a m := by
  have hp2 := cd_p10 a (by omega : k < 6)
  intro n
  induction n with
  | zero => intro c m h1 h2; omega
  | succ n ih =>
    intro c m h1 h2 h3
    refine pk_le (2 ^ cd_nb a k 32) c (fun q => ?_) (fun q => ?_)
    · refine ⟨2 ^ cd_nb a (k + 1) 32 + 1, cy_mk43 a C hk h _ 0 m (by omega) (Nat.zero_le _) (fun v hv => ?_)⟩
      exact ⟨fun _ => rfl, fun _ => h3 v (by omega)⟩
    · refine ⟨vp_in_nI (by omega) (by omega), ?_⟩
      rw [nI_clamp (by omega : c < 2 ^ 31), cw_nb0]
      refine nm_e (nm_r (nI_1 c) (ih (c + 1) _ (by omega) (by omega) (fun v hv => ?_)))
      rcases Nat.lt_or_ge v c with w | w
      · rw [pk_un (by omega)]
        exact h3 v w
      · rw [show v = c by omega, pk_us]
theorem cy_mk {post : Int32 → SY → Prop} (a m : Nat → Int32) {k : Nat} (C : cd_Cl a) (hk : k ≤ 4) (h : ∀ m, cd_Mk (cd_Bd a (k + 1) 32) (2 ^ cd_nb a k 32) (2 ^ cd_nb a (k + 1) 32) m → post (nI (cd_fr (cd_Bd a (k + 1) 32) (2 ^ cd_nb a (k + 1) 32))) (a, m)) : wpY_mark post (a, m) (nI k) := by
  unfold wpY_mark
  dsimp only
  refine cy_ch a m (by omega) ?_
  rw [nI_1 k]
  refine cy_ch a m (by omega) ?_
  exact ⟨2 ^ cd_nb a k 32 + 1, cy_mk20 a C hk h _ 0 m (by omega) (Nat.zero_le _) (fun v hv => by omega)⟩
theorem cy_ho56 {post : Int32 → SY → Prop} (a m : Nat → Int32) {f z : Nat} (hz : z ≤ 10) (hf : f ≤ z) (h : post (nI (z - f)) (a, m)) : ∀ n b, 10 < n + b → b ≤ z - f → wY_holes_56 post (nI (2 ^ f)) (nI (2 ^ z)) a m n (nI b) := by
  intro n
  induction n with
  | zero => intro b h1 h2; omega
  | succ n ih =>
    intro b h1 h2
    refine pk_le 10 b (fun q => ?_) (fun q => ?_)
    · rw [show b = z - f by omega]
      exact h
    · have e : 2 ^ f * 2 ^ b = 2 ^ (f + b) := (Nat.pow_add 2 f b).symm
      have h20 : 2 ^ (f + b) ≤ 1024 := Nat.pow_le_pow_right (n := 2) (j := 10) (by omega) (by omega)
      have h21 : 2 ^ z ≤ 1024 := Nat.pow_le_pow_right (n := 2) (j := 10) (by omega) (by omega)
      rw [ca_shl (by omega : b < 31) (by rw [e]; omega), e]
      refine pk_le (2 ^ z) (2 ^ (f + b)) (fun w => ?_) (fun w => ?_) rfl rfl (by omega) (by omega)
      · have := (Nat.pow_le_pow_iff_right (a := 2) (by omega)).mp w
        rw [show b = z - f by omega]
        exact h
      · have := (Nat.pow_lt_pow_iff_right (a := 2) (by omega)).mp w
        exact nm_r (nI_1 b) (ih (b + 1) (by omega) (by omega))
theorem cy_ho27 {post : Int32 → SY → Prop} (a m : Nat → Int32) {k f z : Nat} (C : cd_Cl a) (hk : k ≤ 4) (hz : z ≤ 10) (hf : f ≤ z) (hZ : cd_zr (cd_Bd a k 32) (2 ^ cd_nb a k 32) = 2 ^ z) (h : post (nI (z - f)) (a, m)) : ∀ n c, 2 ^ cd_nb a k 32 < n + c → c ≤ 2 ^ cd_nb a k 32 → wY_holes_27 post (nI k) (nI (2 ^ f)) (nI (2 ^ cd_nb a k 32)) a m n (nI (cd_zr (cd_Bd a k 32) c)) (nI c) := by
  have hp := cd_p10 a (by omega : k < 6)
  intro n
  induction n with
  | zero => intro c h1 h2; omega
  | succ n ih =>
    intro c h1 h2
    refine pk_le (2 ^ cd_nb a k 32) c (fun q => ?_) (fun q => ?_)
    · rw [show c = 2 ^ cd_nb a k 32 by omega, hZ]
      exact ⟨11, cy_ho56 a m hz hf h 11 0 (by omega) (Nat.zero_le _)⟩
    · refine cy_bo a m C (by omega) (by omega) ?_
      have hT := cd_Bd_31 C (by omega : k < 6) c
      refine pk_eq (cd_Bd a k 32 c) 0 (fun e => ?_) (fun e => ?_)
      · refine nm_r (e' := nI (cd_zr (cd_Bd a k 32) (c + 1))) ?_ (nm_r (nI_1 c) (ih (c + 1) (by omega) (by omega)))
        rw [nI_1, cd_zr, cd_zr, cd_cn_s, if_pos (by rw [beq_iff_eq]; exact e)]
      · have e2 : cd_zr (cd_Bd a k 32) c = cd_zr (cd_Bd a k 32) (c + 1) := by
          rw [cd_zr, cd_zr, cd_cn_s, if_neg (by rw [beq_iff_eq]; exact e), Nat.add_zero]
        refine nm_r (nI_1 c) ?_
        rw [e2]
        exact ih (c + 1) (by omega) (by omega)
theorem cy_ho {post : Int32 → SY → Prop} (a m : Nat → Int32) {k z z' : Nat} (C : cd_Cl a) (hk : k ≤ 4) (h1 : z ≤ cd_nb a k 32) (h2 : cd_zr (cd_Bd a k 32) (2 ^ cd_nb a k 32) = 2 ^ z) (h3 : cd_fr (cd_Bd a (k + 1) 32) (2 ^ cd_nb a (k + 1) 32) = 2 ^ (cd_nb a (k + 1) 32 - z')) (h4 : cd_nb a (k + 1) 32 - z' ≤ z) (h : ∀ m, post (nI (z - (cd_nb a (k + 1) 32 - z'))) (a, m)) : wpY_holes post (a, m) (nI k) := by
  have h10 := cd_nb_10 a (by omega : k < 6)
  unfold wpY_holes
  dsimp only
  refine cy_bad_t hk (br_t rfl ?_)
  refine cy_mk a m C hk (fun m' hm => ?_)
  rw [h3]
  dsimp only
  refine cy_ch a m' (by omega) ?_
  exact ⟨2 ^ cd_nb a k 32 + 1, cy_ho27 a m' C hk (by omega) h4 h2 (h m') _ 0 (by omega) (Nat.zero_le _)⟩
theorem cy_fi_t {post : Int32 → Prop} (a m : Nat → Int32) {k ch e : Nat} (C : cd_Cl a) (hk : k ≤ 4) (hc : ch < 2 ^ 31) (he : e < 2 ^ cd_nb a (k + 1) 32) (hq : cd_Bd a (k + 1) 32 e = ch) (hn : ∀ d, d < e → ¬ cd_Bd a (k + 1) 32 d = ch) (h : post (nI e)) : ∀ n c, 2 ^ cd_nb a (k + 1) 32 < n + c → c ≤ e → wY_filling_22 post (nI k) (nI ch) (nI (2 ^ cd_nb a (k + 1) 32)) a m n (nI c) := by
  have hp := cd_p10 a (by omega : k + 1 < 6)
  intro n
  induction n with
  | zero => intro c h1 h2; omega
  | succ n ih =>
    intro c h1 h2
    refine pk_le (2 ^ cd_nb a (k + 1) 32) c (fun q => by omega) (fun q => ?_)
    rw [nI_1 k]
    refine cy_bo a m C (by omega) (by omega) ?_
    have hT := cd_Bd_31 C (by omega : k + 1 < 6) c
    refine pk_eq (cd_Bd a (k + 1) 32 c) ch (fun z => ?_) (fun z => ?_)
    · have e2 : c = e := by
        rcases Nat.lt_or_ge c e with w | w
        · exact absurd z (hn c w)
        · omega
      rw [e2]
      exact h
    · refine nm_r (nI_1 c) (ih (c + 1) (by omega) ?_)
      rcases Nat.lt_or_ge c e with w | w
      · omega
      · exact absurd (by rw [show c = e by omega]; exact hq) z
theorem cy_fi_f {post : Int32 → Prop} (a m : Nat → Int32) {k ch : Nat} (C : cd_Cl a) (hk : k ≤ 4) (hc : ch < 2 ^ 31) (hn : ∀ d, d < 2 ^ cd_nb a (k + 1) 32 → ¬ cd_Bd a (k + 1) 32 d = ch) (h : post (-2)) : ∀ n c, 2 ^ cd_nb a (k + 1) 32 < n + c → c ≤ 2 ^ cd_nb a (k + 1) 32 → wY_filling_22 post (nI k) (nI ch) (nI (2 ^ cd_nb a (k + 1) 32)) a m n (nI c) := by
  have hp := cd_p10 a (by omega : k + 1 < 6)
  intro n
  induction n with
  | zero => intro c h1 h2; omega
  | succ n ih =>
    intro c h1 h2
    refine pk_le (2 ^ cd_nb a (k + 1) 32) c (fun q => h) (fun q => ?_)
    rw [nI_1 k]
    refine cy_bo a m C (by omega) (by omega) ?_
    have hT := cd_Bd_31 C (by omega : k + 1 < 6) c
    exact pk_eq (cd_Bd a (k + 1) 32 c) ch (fun z => absurd z (hn c q)) (fun z => nm_r (nI_1 c) (ih (c + 1) (by omega) (by omega)))
theorem cy_le26 {post : Int32 → SY → Prop} (a m : Nat → Int32) {M ch L : Nat} (hM : M ≤ 1024) (hc : ch < 2 ^ 10) (hL : L < M) (h1 : ¬ m (L ^^^ ch) = 0) (h2 : ∀ c, c < L → m (c ^^^ ch) = 0) (h : post (nI L) (a, m)) : ∀ n c, M < n + c → c ≤ L → wY_least_26 post (nI ch) (nI M) a m n (nI c) := by
  intro n
  induction n with
  | zero => intro c g1 g2; omega
  | succ n ih =>
    intro c g1 g2
    refine pk_le M c (fun q => by omega) (fun q => ?_)
    have hx := Nat.xor_lt_two_pow (n := 10) (by omega : c < 2 ^ 10) hc
    rw [nx_xor]
    refine ⟨vp_in_nI (by omega) (by omega), ?_⟩
    rw [nI_clamp (by omega : c ^^^ ch < 2 ^ 31)]
    rcases Nat.lt_or_ge c L with w | w
    · exact br_t (h2 c w) (nm_r (nI_1 c) (ih (c + 1) (by omega) (by omega)))
    · have e : c = L := by omega
      subst e
      exact br_f h1 h
theorem cy_al {post : Int32 → Prop} (a m : Nat → Int32) (h : post (cd_al a 32)) : ∀ n t, 32 < n + t → 1 ≤ t → t ≤ 32 → wY_alternating_4 post a m n (cd_al a t) (nI t) := by
  intro n
  induction n with
  | zero => intro t h1 h2 h3; omega
  | succ n ih =>
    intro t h1 h2 h3
    refine pk_le 32 t (fun q => ?_) (fun q => ?_)
    · rw [show t = 32 by omega]
      exact h
    · refine ⟨vp_in_nI q (by omega), ?_⟩
      rw [nI_clamp (by omega : t < 2 ^ 31)]
      have hd5 := cd_dm5 t
      refine br_c (fun e => nm_r (nI_1 t) ?_) (fun e => ?_)
      · rw [← cd_al_z e]
        exact ih (t + 1) (by omega) (by omega) (by omega)
      · have ha := cd_al_n e h2 q
        refine cy_pt q ⟨by decide, ?_⟩
        refine pk_eq (cd_dm t % 2) 1 (fun z => ?_) (fun z => ?_) (pk_rem (d := 2) (by omega) (by omega) (by omega)) rfl (by omega) (by omega)
        · rw [if_pos z] at ha
          exact nm_r ha.symm (nm_r (nI_1 t) (ih (t + 1) (by omega) (by omega) (by omega)))
        · rw [if_neg z] at ha
          exact nm_r ha.symm (nm_r (nI_1 t) (ih (t + 1) (by omega) (by omega) (by omega)))
/-- the class's sum by dimensions -/
theorem cx_al {post : Int32 → Prop} (a b : Nat → Int32) (h : post (cd_al a 32)) : wX_alternating_4 post a b 6 0 0 := by
  refine br_f (by decide) (cw_hod a b (k := 0) (by omega) ⟨by decide, br_t (by decide) (nm_e (nm_e ?_))⟩)
  refine br_f (by decide) (cw_hod a b (k := 1) (by omega) ⟨by decide, br_f (by decide) (nm_e (nm_e ?_))⟩)
  refine br_f (by decide) (cw_hod a b (k := 2) (by omega) ⟨by decide, br_t (by decide) (nm_e (nm_e ?_))⟩)
  refine br_f (by decide) (cw_hod a b (k := 3) (by omega) ⟨by decide, br_f (by decide) (nm_e (nm_e ?_))⟩)
  refine br_f (by decide) (cw_hod a b (k := 4) (by omega) ⟨by decide, br_t (by decide) (nm_e (nm_e ?_))⟩)
  refine br_t (by decide) ?_
  rw [Int32.zero_add]
  exact h
end
section
/-! add and remove in step: the same array on both sides -/
theorem co_and {t S : Nat} (ht : t < 2 ^ 31) : nI t &&& nI S = nI t ↔ S &&& t = t := by
  rw [nx_and, Nat.and_comm, ← nx_and]
  exact ca_and S t ht
theorem co_sub {t s S : Nat} (h1 : t &&& s = t) (h2 : S &&& s = s) : S &&& t = t := by
  rw [← h1, Nat.and_comm t s, ← Nat.and_assoc, h2]
theorem co_le {t s : Nat} (h : t &&& s = t) : t ≤ s := by
  rw [← h]
  exact Nat.and_le_right
theorem co_add (b m : Nat → Int32) {S : Nat} (a0 : Nat → Int32) (C0 : cd_Cl a0) : ∀ (d t : Nat) (a : Nat → Int32) (r : Int32), t + d = 32 → 1 ≤ t → (∀ s, (¬ a s = 0) ↔ (¬ a0 s = 0 ∨ (1 ≤ s ∧ s < t ∧ S &&& s = s))) → ∃ (r' : Int32) (a' : Nat → Int32), cd_Cl a' ∧ (∀ post : Int32 → SX → Prop, post r' (a', b) → wX_add_13 post (nI S) (d + 1) r (nI t) a b) ∧ (∀ post : Int32 → SY → Prop, post r' (a', m) → wY_add_17 post (nI S) (d + 1) r (nI t) a m) := by
  intro d
  induction d with
  | zero =>
    intro t a r h1 h2 h3
    have e : t = 32 := by omega
    subst e
    refine ⟨r, a, ?_, fun post h => br_t (by decide) h, fun post h => br_t (by decide) h⟩
    intro s t hs ht hst hh
    rw [h3] at hh ⊢
    have hle := co_le hst
    rcases hh with q | ⟨q1, q2, q3⟩
    · exact Or.inl (C0 s t hs ht hst q)
    · exact Or.inr ⟨ht, by omega, co_sub hst q3⟩
  | succ d ih =>
    intro t a r h1 h2 h3
    have h32 : ¬ (32 : Int32) ≤ nI t := nI_ge (b := 32) (by omega) (by omega)
    have hin : vp_in (nI t) 32 := vp_in_nI (by omega) (by omega)
    have hcl : (nI t).toNatClampNeg = t := nI_clamp (by omega)
    by_cases hc : S &&& t = t
    · by_cases hz : a t = 0
      · obtain ⟨r', a', C, hX, hY⟩ := ih (t + 1) (upd a t 1) (r + 1) (by omega) (by omega) (by
          intro s
          by_cases q : s = t
          · subst q
            rw [pk_us]
            exact ⟨fun _ => Or.inr ⟨h2, by omega, hc⟩, fun _ => cw_10⟩
          · rw [pk_un q, h3]
            constructor
            · intro z
              exact z.elim Or.inl (fun w => Or.inr ⟨w.1, by omega, w.2.2⟩)
            · intro z
              exact z.elim Or.inl (fun w => Or.inr ⟨w.1, by omega, w.2.2⟩))
        refine ⟨r', a', C, fun post h => br_f h32 ?_, fun post h => br_f h32 ?_⟩
        · refine br_t ((ca_and S t (by omega)).mpr hc) (br_f cw_10 ⟨hin, ?_⟩)
          rw [hcl, cw_nb1]
          exact br_t hz ⟨hin, nm_e (nm_e (nm_r (nI_1 t) (hX post h)))⟩
        · refine br_t ((co_and (by omega)).mpr hc) ⟨hin, ?_⟩
          rw [hcl, cw_nb1]
          exact br_t hz ⟨hin, nm_e (nm_e (nm_r (nI_1 t) (hY post h)))⟩
      · obtain ⟨r', a', C, hX, hY⟩ := ih (t + 1) a r (by omega) (by omega) (by
          intro s
          rw [h3]
          constructor
          · intro z
            exact z.elim Or.inl (fun w => Or.inr ⟨w.1, by omega, w.2.2⟩)
          · intro z
            rcases z with z | ⟨w1, w2, w3⟩
            · exact Or.inl z
            · by_cases q : s = t
              · subst q
                exact (h3 s).mp hz
              · exact Or.inr ⟨w1, by omega, w3⟩)
        refine ⟨r', a', C, fun post h => br_f h32 ?_, fun post h => br_f h32 ?_⟩
        · refine br_t ((ca_and S t (by omega)).mpr hc) (br_f cw_10 ⟨hin, ?_⟩)
          rw [hcl]
          exact br_f hz (nm_r (nI_1 t) (hX post h))
        · refine br_t ((co_and (by omega)).mpr hc) ⟨hin, ?_⟩
          rw [hcl]
          exact br_f hz (nm_r (nI_1 t) (hY post h))
    · obtain ⟨r', a', C, hX, hY⟩ := ih (t + 1) a r (by omega) (by omega) (by
        intro s
        rw [h3]
        constructor
        · intro z
          exact z.elim Or.inl (fun w => Or.inr ⟨w.1, by omega, w.2.2⟩)
        · intro z
          rcases z with z | ⟨w1, w2, w3⟩
          · exact Or.inl z
          · by_cases q : s = t
            · subst q
              exact absurd w3 hc
            · exact Or.inr ⟨w1, by omega, w3⟩)
      refine ⟨r', a', C, fun post h => br_f h32 ?_, fun post h => br_f h32 ?_⟩
      · exact br_f (fun z => hc ((ca_and S t (by omega)).mp z)) (br_t rfl (nm_r (nI_1 t) (hX post h)))
      · exact br_f (fun z => hc ((co_and (by omega)).mp z)) (nm_r (nI_1 t) (hY post h))
theorem co_rem (b m : Nat → Int32) {S : Nat} (hS : S < 32) (a0 : Nat → Int32) (C0 : cd_Cl a0) : ∀ (d t : Nat) (a : Nat → Int32) (r : Int32), t + d = 32 → 1 ≤ t → (∀ s, (¬ a s = 0) ↔ (¬ a0 s = 0 ∧ ¬ (1 ≤ s ∧ s < t ∧ s &&& S = S))) → ∃ (r' : Int32) (a' : Nat → Int32), cd_Cl a' ∧ (∀ post : Int32 → SX → Prop, post r' (a', b) → wX_remove_13 post (nI S) (d + 1) r (nI t) a b) ∧ (∀ post : Int32 → SY → Prop, post r' (a', m) → wY_remove_17 post (nI S) (d + 1) r (nI t) a m) := by
  intro d
  induction d with
  | zero =>
    intro t a r h1 h2 h3
    have e : t = 32 := by omega
    subst e
    refine ⟨r, a, ?_, fun post h => br_t (by decide) h, fun post h => br_t (by decide) h⟩
    intro s t hs ht hst hh
    rw [h3] at hh ⊢
    have hle := co_le hst
    refine ⟨C0 s t hs ht hst hh.1, fun w => hh.2 ⟨by omega, hs, ?_⟩⟩
    have e2 : s &&& (t &&& S) = t &&& S := by rw [← Nat.and_assoc, Nat.and_comm s t, hst]
    rw [w.2.2] at e2
    exact e2
  | succ d ih =>
    intro t a r h1 h2 h3
    have h32 : ¬ (32 : Int32) ≤ nI t := nI_ge (b := 32) (by omega) (by omega)
    have hin : vp_in (nI t) 32 := vp_in_nI (by omega) (by omega)
    have hcl : (nI t).toNatClampNeg = t := nI_clamp (by omega)
    have hca := ca_and t S (by omega)
    by_cases hc : t &&& S = S
    · by_cases hz : a t = 0
      · obtain ⟨r', a', C, hX, hY⟩ := ih (t + 1) a r (by omega) (by omega) (by
          intro s
          by_cases q : s = t
          · subst q
            exact ⟨fun z => absurd hz z, fun z => absurd ⟨h2, by omega, hc⟩ z.2⟩
          · rw [h3]
            exact ⟨fun z => ⟨z.1, fun w => z.2 ⟨w.1, by omega, w.2.2⟩⟩, fun z => ⟨z.1, fun w => z.2 ⟨w.1, by omega, w.2.2⟩⟩⟩)
        refine ⟨r', a', C, fun post h => br_f h32 ?_, fun post h => br_f h32 ?_⟩
        · refine br_t (hca.mpr hc) (br_f cw_10 ⟨hin, ?_⟩)
          rw [hcl]
          exact br_t hz (nm_r (nI_1 t) (hX post h))
        · refine br_t (hca.mpr hc) ⟨hin, ?_⟩
          rw [hcl]
          exact br_t hz (nm_r (nI_1 t) (hY post h))
      · obtain ⟨r', a', C, hX, hY⟩ := ih (t + 1) (upd a t 0) (r + 1) (by omega) (by omega) (by
          intro s
          by_cases q : s = t
          · subst q
            rw [pk_us]
            exact ⟨fun z => absurd rfl z, fun z => absurd ⟨h2, by omega, hc⟩ z.2⟩
          · rw [pk_un q, h3]
            exact ⟨fun z => ⟨z.1, fun w => z.2 ⟨w.1, by omega, w.2.2⟩⟩, fun z => ⟨z.1, fun w => z.2 ⟨w.1, by omega, w.2.2⟩⟩⟩)
        refine ⟨r', a', C, fun post h => br_f h32 ?_, fun post h => br_f h32 ?_⟩
        · refine br_t (hca.mpr hc) (br_f cw_10 ⟨hin, ?_⟩)
          rw [hcl, cw_nb0]
          exact br_f hz ⟨hin, nm_e (nm_e (nm_r (nI_1 t) (hX post h)))⟩
        · refine br_t (hca.mpr hc) ⟨hin, ?_⟩
          rw [hcl, cw_nb0]
          exact br_f hz ⟨hin, nm_e (nm_e (nm_r (nI_1 t) (hY post h)))⟩
    · obtain ⟨r', a', C, hX, hY⟩ := ih (t + 1) a r (by omega) (by omega) (by
        intro s
        rw [h3]
        refine ⟨fun z => ⟨z.1, fun w => ?_⟩, fun z => ⟨z.1, fun w => z.2 ⟨w.1, by omega, w.2.2⟩⟩⟩
        by_cases q : s = t
        · subst q
          exact hc w.2.2
        · exact z.2 ⟨w.1, by omega, w.2.2⟩)
      refine ⟨r', a', C, fun post h => br_f h32 ?_, fun post h => br_f h32 ?_⟩
      · exact br_f (fun z => hc (hca.mp z)) (br_t rfl (nm_r (nI_1 t) (hX post h)))
      · exact br_f (fun z => hc (hca.mp z)) (nm_r (nI_1 t) (hY post h))
end
section
/-- the same held simplices on both sides, with every simplex all its faces; the worksheets are free -/
def i_Rel (_ : Nat) (u : SX) (v : SY) : Prop := ∃ a b m, u = (a, b) ∧ v = (a, m) ∧ cd_Cl a
theorem i_up {k : Nat} {u : SX} {v : SY} (h : i_Rel k u v) : i_Rel (k + 3) u v := h
theorem i_vc0 : wpX_init (fun u => wpY_init (fun v => i_Rel 0 u v)) := ⟨_, _, _, rfl, rfl, fun s t _ _ _ h => absurd rfl h⟩
theorem co_rel {k : Nat} {a b m : Nat → Int32} (C : cd_Cl a) : i_Rel k (a, b) (a, m) := ⟨a, b, m, rfl, rfl, C⟩
theorem i_vc_add {k : Nat} {u : SX} {v : SY} (I : i_Rel k u v) (hk : k + 3 ≤ 1536) (v1 : Int32) : wpX_add (fun r u' => wpY_add (fun r' v' => r' = r ∧ i_Rel (k + 3) u' v') v v1) u v1 := by
  obtain ⟨a, b, m, rfl, rfl, C⟩ := I
  unfold wpX_add
  dsimp only
  by_cases h0 : v1 < 0
  · have h1 : v1 < 1 := Int32.lt_trans h0 (by decide)
    refine br_t h1 (br_t rfl ?_)
    unfold wpY_add
    dsimp only
    exact br_t h1 ⟨rfl, co_rel C⟩
  · obtain ⟨S, hS, rfl⟩ := nI_of h0
    refine pk_lt S 1 (fun z => br_t rfl ?_) (fun z => pk_le 32 S (fun w => br_t rfl ?_) (fun w => br_f cw_10 ?_))
    · unfold wpY_add
      dsimp only
      exact pk_lt S 1 (fun _ => ⟨rfl, co_rel C⟩) (fun q => by omega)
    · unfold wpY_add
      dsimp only
      exact pk_lt S 1 (fun q => by omega) (fun _ => pk_le S 31 (fun q => by omega) (fun _ => ⟨rfl, co_rel C⟩))
    · obtain ⟨r', a', C', hX, hY⟩ := co_add b m (S := S) a C 31 1 a 0 (by omega) (by omega) (fun s => ⟨fun z => Or.inl z, fun z => z.elim id (fun w => by omega)⟩)
      refine ⟨32, hX _ ?_⟩
      unfold wpY_add
      dsimp only
      exact pk_lt S 1 (fun q => by omega) (fun _ => pk_le S 31 (fun _ => ⟨32, hY _ ⟨rfl, co_rel C'⟩⟩) (fun q => by omega))
theorem i_vc_remove {k : Nat} {u : SX} {v : SY} (I : i_Rel k u v) (hk : k + 3 ≤ 1536) (v1 : Int32) : wpX_remove (fun r u' => wpY_remove (fun r' v' => r' = r ∧ i_Rel (k + 3) u' v') v v1) u v1 := by
  obtain ⟨a, b, m, rfl, rfl, C⟩ := I
  unfold wpX_remove
  dsimp only
  by_cases h0 : v1 < 0
  · have h1 : v1 < 1 := Int32.lt_trans h0 (by decide)
    refine br_t h1 (br_t rfl ?_)
    unfold wpY_remove
    dsimp only
    exact br_t h1 ⟨rfl, co_rel C⟩
  · obtain ⟨S, hS, rfl⟩ := nI_of h0
    refine pk_lt S 1 (fun z => br_t rfl ?_) (fun z => pk_le 32 S (fun w => br_t rfl ?_) (fun w => br_f cw_10 ?_))
    · unfold wpY_remove
      dsimp only
      exact pk_lt S 1 (fun _ => ⟨rfl, co_rel C⟩) (fun q => by omega)
    · unfold wpY_remove
      dsimp only
      exact pk_lt S 1 (fun q => by omega) (fun _ => pk_le S 31 (fun q => by omega) (fun _ => ⟨rfl, co_rel C⟩))
    · obtain ⟨r', a', C', hX, hY⟩ := co_rem b m (S := S) w a C 31 1 a 0 (by omega) (by omega) (fun s => ⟨fun z => ⟨z, fun w => by omega⟩, fun z => z.1⟩)
      refine ⟨32, hX _ ?_⟩
      unfold wpY_remove
      dsimp only
      exact pk_lt S 1 (fun q => by omega) (fun _ => pk_le S 31 (fun _ => ⟨32, hY _ ⟨rfl, co_rel C'⟩⟩) (fun q => by omega))
theorem i_vc_count {k : Nat} {u : SX} {v : SY} (I : i_Rel k u v) (hk : k + 3 ≤ 1536) (v1 : Int32) : wpX_count (fun r => wpY_count (fun r' => r' = r ∧ i_Rel (k + 3) u v) v v1) u v1 := by
  obtain ⟨a, b, m, rfl, rfl, C⟩ := I
  unfold wpX_count
  dsimp only
  rcases cw_dim v1 with hv | ⟨j, hj, rfl⟩
  · refine cw_xd_f hv (br_t rfl ?_)
    unfold wpY_count
    dsimp only
    exact cy_bad_f hv (br_f cw_10 ⟨rfl, co_rel C⟩)
  · exact cw_xd_t hj (br_f cw_10 (cw_hod a b (by omega) (cy_ct a m hj ⟨rfl, co_rel C⟩)))
theorem i_vc_simplex {k : Nat} {u : SX} {v : SY} (I : i_Rel k u v) (hk : k + 3 ≤ 1536) (v1 : Int32) (v2 : Int32) : wpX_simplex (fun r => wpY_simplex (fun r' => r' = r ∧ i_Rel (k + 3) u v) v v1 v2) u v1 v2 := by
  obtain ⟨a, b, m, rfl, rfl, C⟩ := I
  unfold wpX_simplex
  dsimp only
  rcases cw_dim v1 with hv | ⟨j, hj, rfl⟩
  · refine cw_xd_f hv (br_t rfl ?_)
    unfold wpY_simplex
    dsimp only
    exact cy_bad_f hv (br_f cw_10 ⟨rfl, co_rel C⟩)
  · refine cw_xd_t hj (br_f cw_10 ?_)
    by_cases h2 : v2 < 0
    · have z := cw_xsn (post := fun r => wpY_simplex (fun r' => r' = r ∧ i_Rel (k + 3) (a, b) (a, m)) (a, m) (nI j) v2) a b hj h2 (by
        unfold wpY_simplex
        dsimp only
        exact cy_bad_t hj (br_t rfl (br_f (Int32.not_le.mpr h2) ⟨rfl, co_rel C⟩))) 32 1 (by omega) (by omega)
      rw [cd_nb_1] at z
      exact ⟨32, z⟩
    · obtain ⟨i, hi, rfl⟩ := nI_of h2
      have z := cw_xsi (post := fun r => wpY_simplex (fun r' => r' = r ∧ i_Rel (k + 3) (a, b) (a, m)) (a, m) (nI j) (nI i)) a b hj hi (fun q => cy_si a m hj hi (fun _ => ⟨rfl, co_rel C⟩) (fun w => by omega)) (fun q => cy_si a m hj hi (fun w => by omega) (fun _ => ⟨rfl, co_rel C⟩)) 32 1 (by omega) (by omega) (by rw [cd_nb_1]; omega)
      rw [cd_nb_1] at z
      exact ⟨32, z⟩
theorem i_vc_boundary {k : Nat} {u : SX} {v : SY} (I : i_Rel k u v) (hk : k + 3 ≤ 1536) (v1 : Int32) (v2 : Int32) : wpX_boundary (fun r u' => wpY_boundary (fun r' => r' = r ∧ i_Rel (k + 3) u' v) v v1 v2) u v1 v2 := by
  obtain ⟨a, b, m, rfl, rfl, C⟩ := I
  unfold wpX_boundary
  dsimp only
  rcases cw_chain a b m v1 v2 with ⟨j, c, hj, hc, rfl, rfl⟩ | ⟨hX, hY⟩
  · have hp := cd_p10 a (by omega : j < 6)
    refine cw_xch a b hj hc (br_f cw_10 ?_)
    refine cw_lb a b (by omega) (fun b' hb => ?_)
    dsimp only
    refine pk_le (2 ^ cd_nb a j 32) c (fun z => by omega) (fun _ => ⟨vp_in_nI (by omega) (by omega), ?_⟩)
    rw [nI_clamp (by omega : c < 2 ^ 31), hb c hc]
    unfold wpY_boundary
    dsimp only
    exact cy_nc a m hj hc (br_t rfl (cy_bo a m C (by omega) (by omega) ⟨rfl, co_rel C⟩))
  · refine hX _ (br_t rfl ?_)
    unfold wpY_boundary
    dsimp only
    exact hY _ (br_f cw_10 ⟨rfl, co_rel C⟩)
theorem i_vc_holes {k : Nat} {u : SX} {v : SY} (I : i_Rel k u v) (hk : k + 3 ≤ 1536) (v1 : Int32) : wpX_holes (fun r u' => wpY_holes (fun r' v' => r' = r ∧ i_Rel (k + 3) u' v') v v1) u v1 := by
  obtain ⟨a, b, m, rfl, rfl, C⟩ := I
  rcases cw_dim v1 with hv | ⟨j, hj, rfl⟩
  · unfold wpX_holes
    dsimp only
    refine cw_xd_f hv (br_t rfl ?_)
    unfold wpY_holes
    dsimp only
    exact cy_bad_f hv (br_f cw_10 ⟨rfl, co_rel C⟩)
  · obtain ⟨z, z', g1, g2, g3, g4, g5, g6⟩ := cd_holes C j
    exact cw_xholes a b C hj g1 g2 g3 g4 g6 (fun b' => cy_ho a m C hj g1 g3 g5 g6 (fun m' => ⟨rfl, co_rel C⟩))
theorem i_vc_filled {k : Nat} {u : SX} {v : SY} (I : i_Rel k u v) (hk : k + 3 ≤ 1536) (v1 : Int32) (v2 : Int32) : wpX_filled (fun r u' => wpY_filled (fun r' v' => r' = r ∧ i_Rel (k + 3) u' v') v v1 v2) u v1 v2 := by
  obtain ⟨a, b, m, rfl, rfl, C⟩ := I
  unfold wpX_filled
  dsimp only
  rcases cw_chain a b m v1 v2 with ⟨j, c, hj, hc, rfl, rfl⟩ | ⟨hX, hY⟩
  · have hp := cd_p10 a (by omega : j < 6)
    refine cw_xch a b hj hc (br_f cw_10 ?_)
    rcases cd_find (cd_Bd a (j + 1) 32) c (2 ^ cd_nb a (j + 1) 32) with ⟨e, he, h1, h2⟩ | hn
    · refine cw_lf_t a b C hj (by omega) he h1 h2 (fun b' => ?_)
      have hp2 := cd_p10 a (by omega : j + 1 < 6)
      dsimp only
      refine br_f (nI_pos (by omega)) ?_
      unfold wpY_filled
      dsimp only
      refine cy_nc a m hj hc (br_t rfl ?_)
      refine cy_mk a m C hj (fun m' hm => ?_)
      dsimp only
      refine ⟨vp_in_nI (by omega) (by omega), ?_⟩
      rw [nI_clamp (by omega : c < 2 ^ 31)]
      have hh := (cd_hs_iff (cd_Bd a (j + 1) 32) c (2 ^ cd_nb a (j + 1) 32)).mpr ⟨e, he, h1⟩
      refine br_f (fun z => ?_) ⟨rfl, co_rel C⟩
      have := (hm c hc).mp z
      rw [hh] at this
      exact absurd this (by decide)
    · refine cw_lf_f a b C hj (by omega) hn (fun b' => ?_)
      dsimp only
      refine br_t (by decide) ?_
      unfold wpY_filled
      dsimp only
      refine cy_nc a m hj hc (br_t rfl ?_)
      refine cy_mk a m C hj (fun m' hm => ?_)
      dsimp only
      refine ⟨vp_in_nI (by omega) (by omega), ?_⟩
      rw [nI_clamp (by omega : c < 2 ^ 31)]
      refine br_t ((hm c hc).mpr ?_) ⟨rfl, co_rel C⟩
      cases w : cd_hs (cd_Bd a (j + 1) 32) c (2 ^ cd_nb a (j + 1) 32)
      · rfl
      · rw [cd_hs_iff] at w
        obtain ⟨d, hd, q⟩ := w
        exact absurd q (hn d hd)
  · refine hX _ (br_t rfl ?_)
    unfold wpY_filled
    dsimp only
    exact hY _ (br_f cw_10 ⟨rfl, co_rel C⟩)
theorem i_vc_filling {k : Nat} {u : SX} {v : SY} (I : i_Rel k u v) (hk : k + 3 ≤ 1536) (v1 : Int32) (v2 : Int32) : wpX_filling (fun r u' => wpY_filling (fun r' => r' = r ∧ i_Rel (k + 3) u' v) v v1 v2) u v1 v2 := by
  obtain ⟨a, b, m, rfl, rfl, C⟩ := I
  unfold wpX_filling
  dsimp only
  rcases cw_chain a b m v1 v2 with ⟨j, c, hj, hc, rfl, rfl⟩ | ⟨hX, hY⟩
  · have hp := cd_p10 a (by omega : j < 6)
    refine cw_xch a b hj hc (br_f cw_10 ?_)
    rcases cd_find (cd_Bd a (j + 1) 32) c (2 ^ cd_nb a (j + 1) 32) with ⟨e, he, h1, h2⟩ | hn
    · refine cw_lf_t a b C hj (by omega) he h1 h2 (fun b' => ?_)
      dsimp only
      unfold wpY_filling
      dsimp only
      refine cy_nc a m hj hc (br_t rfl ?_)
      rw [nI_1 j]
      refine cy_ch a m (by omega) ?_
      exact ⟨2 ^ cd_nb a (j + 1) 32 + 1, cy_fi_t a m C hj (by omega) he h1 h2 ⟨rfl, co_rel C⟩ _ 0 (by omega) (Nat.zero_le _)⟩
    · refine cw_lf_f a b C hj (by omega) hn (fun b' => ?_)
      dsimp only
      unfold wpY_filling
      dsimp only
      refine cy_nc a m hj hc (br_t rfl ?_)
      rw [nI_1 j]
      refine cy_ch a m (by omega) ?_
      exact ⟨2 ^ cd_nb a (j + 1) 32 + 1, cy_fi_f a m C hj (by omega) hn ⟨rfl, co_rel C⟩ _ 0 (by omega) (Nat.zero_le _)⟩
  · refine hX _ (br_t rfl ?_)
    unfold wpY_filling
    dsimp only
    exact hY _ (br_f cw_10 ⟨rfl, co_rel C⟩)
theorem i_vc_least {k : Nat} {u : SX} {v : SY} (I : i_Rel k u v) (hk : k + 3 ≤ 1536) (v1 : Int32) (v2 : Int32) : wpX_least (fun r u' => wpY_least (fun r' v' => r' = r ∧ i_Rel (k + 3) u' v') v v1 v2) u v1 v2 := by
  obtain ⟨a, b, m, rfl, rfl, C⟩ := I
  rcases cw_chain a b m v1 v2 with ⟨j, c, hj, hc, rfl, rfl⟩ | ⟨hX, hY⟩
  · have hp := cd_p10 a (by omega : j < 6)
    refine cw_xle a b C hj hc (fun b' => ?_)
    have hl := (cd_lv_le (cd_Bd a (j + 1) 32) c (2 ^ cd_nb a (j + 1) 32)).1
    have hs := cd_lv_spec (cd_Bd a (j + 1) 32) c (2 ^ cd_nb a (j + 1) 32) (Nat.two_pow_pos _) (cd_Bd_z a (j + 1) 32)
    generalize cd_lv (cd_Bd a (j + 1) 32) c (2 ^ cd_nb a (j + 1) 32) = L at hl hs ⊢
    unfold wpY_least
    dsimp only
    refine cy_nc a m hj hc (br_t rfl ?_)
    refine cy_mk a m C hj (fun m' hm => ?_)
    dsimp only
    refine cy_ch a m' (by omega) ?_
    refine ⟨2 ^ cd_nb a j 32 + 1, cy_le26 a m' hp (by omega) (by omega) (fun z => ?_) (fun d hd => ?_) ⟨rfl, co_rel C⟩ _ 0 (by omega) (Nat.zero_le _)⟩
    · have := (hm _ (Nat.xor_lt_two_pow (by omega) hc)).mp z
      rw [hs.1] at this
      exact absurd this (by decide)
    · exact (hm _ (Nat.xor_lt_two_pow (by omega) hc)).mpr (hs.2 d hd)
  · unfold wpX_least
    dsimp only
    refine hX _ (br_t rfl ?_)
    unfold wpY_least
    dsimp only
    exact hY _ (br_f cw_10 ⟨rfl, co_rel C⟩)
theorem i_vc_alternating {k : Nat} {u : SX} {v : SY} (I : i_Rel k u v) (hk : k + 3 ≤ 1536) : wpX_alternating (fun r => wpY_alternating (fun r' => r' = r ∧ i_Rel (k + 3) u v) v) u := by
  obtain ⟨a, b, m, rfl, rfl, C⟩ := I
  refine ⟨6, cx_al a b ?_⟩
  have z := cy_al (post := fun r' => r' = cd_al a 32 ∧ i_Rel (k + 3) (a, b) (a, m)) a m ⟨rfl, co_rel C⟩ 32 1 (by omega) (by omega) (by omega)
  have e : cd_al a 1 = 0 := by
    unfold cd_al
    rw [cd_nb_1, cd_nb_1, cd_nb_1, cd_nb_1, cd_nb_1]
    decide
  rw [e] at z
  exact ⟨32, z⟩
end
