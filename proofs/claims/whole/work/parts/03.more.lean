/-! the alternating sum -/
def cd_al (a : Nat → Int32) (S : Nat) : Int32 := nI (cd_nb a 0 S) + -nI (cd_nb a 1 S) + nI (cd_nb a 2 S) + -nI (cd_nb a 3 S) + nI (cd_nb a 4 S)
theorem cd_hd_no {a : Nat → Int32} {k s : Nat} (h : a s = 0) : ¬ cd_hd a k s = true := fun z => (cd_hd_iff.mp z).2.2.1 h
theorem cd_hd_nk {a : Nat → Int32} {k s d : Nat} (h : cd_dm s = d) (hk : d ≠ k + 1) : ¬ cd_hd a k s = true := fun z => hk (by rw [← h]; exact (cd_hd_iff.mp z).2.2.2)
theorem cd_dm_1 : ∀ s, s < 32 → 1 ≤ s → 1 ≤ cd_dm s := by decide +kernel
theorem cd_al_z {a : Nat → Int32} {S : Nat} (h : a S = 0) : cd_al a (S + 1) = cd_al a S := by
  unfold cd_al
  rw [cd_nb_f (cd_hd_no h), cd_nb_f (cd_hd_no h), cd_nb_f (cd_hd_no h), cd_nb_f (cd_hd_no h), cd_nb_f (cd_hd_no h)]
theorem cd_r1 (p q r s t : Int32) : p + 1 + -q + r + -s + t = p + -q + r + -s + t + 1 := by grind
theorem cd_r2 (p q r s t : Int32) : p + -(q + 1) + r + -s + t = p + -q + r + -s + t + -1 := by grind
theorem cd_r3 (p q r s t : Int32) : p + -q + (r + 1) + -s + t = p + -q + r + -s + t + 1 := by grind
theorem cd_r4 (p q r s t : Int32) : p + -q + r + -(s + 1) + t = p + -q + r + -s + t + -1 := by grind
theorem cd_r5 (p q r s t : Int32) : p + -q + r + -s + (t + 1) = p + -q + r + -s + t + 1 := by grind
theorem cd_al_n {a : Nat → Int32} {S : Nat} (h : ¬ a S = 0) (h1 : 1 ≤ S) (h2 : S < 32) : cd_al a (S + 1) = cd_al a S + (if cd_dm S % 2 = 1 then 1 else -1) := by
  have h3 := cd_dm5 S
  have h4 := cd_dm_1 S h2 h1
  have hh : ∀ k, cd_dm S = k + 1 → cd_hd a k S = true := fun k e => cd_hd_iff.mpr ⟨h1, h2, h, e⟩
  unfold cd_al
  rcases (by omega : cd_dm S = 1 ∨ cd_dm S = 2 ∨ cd_dm S = 3 ∨ cd_dm S = 4 ∨ cd_dm S = 5) with e | e | e | e | e
  · rw [cd_nb_t (hh 0 e), cd_nb_f (cd_hd_nk (k := 1) e (by omega)), cd_nb_f (cd_hd_nk (k := 2) e (by omega)), cd_nb_f (cd_hd_nk (k := 3) e (by omega)), cd_nb_f (cd_hd_nk (k := 4) e (by omega)), e, if_pos (by omega), ← nI_1]
    exact cd_r1 _ _ _ _ _
  · rw [cd_nb_f (cd_hd_nk (k := 0) e (by omega)), cd_nb_t (hh 1 e), cd_nb_f (cd_hd_nk (k := 2) e (by omega)), cd_nb_f (cd_hd_nk (k := 3) e (by omega)), cd_nb_f (cd_hd_nk (k := 4) e (by omega)), e, if_neg (by omega), ← nI_1]
    exact cd_r2 _ _ _ _ _
  · rw [cd_nb_f (cd_hd_nk (k := 0) e (by omega)), cd_nb_f (cd_hd_nk (k := 1) e (by omega)), cd_nb_t (hh 2 e), cd_nb_f (cd_hd_nk (k := 3) e (by omega)), cd_nb_f (cd_hd_nk (k := 4) e (by omega)), e, if_pos (by omega), ← nI_1]
    exact cd_r3 _ _ _ _ _
  · rw [cd_nb_f (cd_hd_nk (k := 0) e (by omega)), cd_nb_f (cd_hd_nk (k := 1) e (by omega)), cd_nb_f (cd_hd_nk (k := 2) e (by omega)), cd_nb_t (hh 3 e), cd_nb_f (cd_hd_nk (k := 4) e (by omega)), e, if_neg (by omega), ← nI_1]
    exact cd_r4 _ _ _ _ _
  · rw [cd_nb_f (cd_hd_nk (k := 0) e (by omega)), cd_nb_f (cd_hd_nk (k := 1) e (by omega)), cd_nb_f (cd_hd_nk (k := 2) e (by omega)), cd_nb_f (cd_hd_nk (k := 3) e (by omega)), cd_nb_t (hh 4 e), e, if_pos (by omega), ← nI_1]
    exact cd_r5 _ _ _ _ _
/-! the least of a coset, the least preimage -/
def cd_lv (T : Nat → Nat) (ch : Nat) : Nat → Nat
  | 0 => ch
  | c + 1 => if ch ^^^ T c < cd_lv T ch c then ch ^^^ T c else cd_lv T ch c
theorem cd_lv_s (T : Nat → Nat) (ch c : Nat) : cd_lv T ch (c + 1) = if ch ^^^ T c < cd_lv T ch c then ch ^^^ T c else cd_lv T ch c := rfl
theorem cd_lv_le (T : Nat → Nat) (ch : Nat) : ∀ C, cd_lv T ch C ≤ ch ∧ ∀ d, d < C → cd_lv T ch C ≤ ch ^^^ T d := by
  intro C
  induction C with
  | zero => exact ⟨Nat.le_refl _, fun d hd => by omega⟩
  | succ C ih =>
    rw [cd_lv_s]
    by_cases h : ch ^^^ T C < cd_lv T ch C
    · rw [if_pos h]
      refine ⟨by omega, fun d hd => ?_⟩
      rcases Nat.lt_or_ge d C with q | q
      · have := ih.2 d q
        omega
      · rw [show d = C by omega]
        exact Nat.le_refl _
    · rw [if_neg h]
      refine ⟨ih.1, fun d hd => ?_⟩
      rcases Nat.lt_or_ge d C with q | q
      · exact ih.2 d q
      · rw [show d = C by omega]
        omega
theorem cd_lv_in (T : Nat → Nat) (ch : Nat) : ∀ C, cd_lv T ch C = ch ∨ ∃ d, d < C ∧ cd_lv T ch C = ch ^^^ T d := by
  intro C
  induction C with
  | zero => exact Or.inl rfl
  | succ C ih =>
    rw [cd_lv_s]
    by_cases h : ch ^^^ T C < cd_lv T ch C
    · rw [if_pos h]
      exact Or.inr ⟨C, by omega, rfl⟩
    · rw [if_neg h]
      rcases ih with q | ⟨d, hd, q⟩
      · exact Or.inl q
      · exact Or.inr ⟨d, by omega, q⟩
/-- the least of the coset is hit, and nothing below it is -/
theorem cd_lv_spec (T : Nat → Nat) (ch C : Nat) (hC : 0 < C) (h0 : T 0 = 0) : cd_hs T (cd_lv T ch C ^^^ ch) C = true ∧ ∀ c, c < cd_lv T ch C → cd_hs T (c ^^^ ch) C = false := by
  constructor
  · rw [cd_hs_iff]
    rcases cd_lv_in T ch C with q | ⟨d, hd, q⟩
    · exact ⟨0, hC, by rw [q, h0, Nat.xor_self]⟩
    · exact ⟨d, hd, by rw [q, Nat.xor_comm ch (T d), cd_xk]⟩
  · intro c hc
    cases e : cd_hs T (c ^^^ ch) C
    · rfl
    · rw [cd_hs_iff] at e
      obtain ⟨d, hd, q⟩ := e
      have h := (cd_lv_le T ch C).2 d hd
      rw [q, Nat.xor_comm c ch, ← Nat.xor_assoc, Nat.xor_self, Nat.zero_xor] at h
      omega
theorem cd_find (T : Nat → Nat) (ch : Nat) : ∀ C, (∃ c, c < C ∧ T c = ch ∧ ∀ d, d < c → ¬ T d = ch) ∨ (∀ c, c < C → ¬ T c = ch) := by
  intro C
  induction C with
  | zero => exact Or.inr (fun c hc => by omega)
  | succ C ih =>
    rcases ih with ⟨c, hc, h1, h2⟩ | h
    · exact Or.inl ⟨c, by omega, h1, h2⟩
    · by_cases e : T C = ch
      · exact Or.inl ⟨C, by omega, e, h⟩
      · refine Or.inr (fun c hc => ?_)
        rcases Nat.lt_or_ge c C with q | q
        · exact h c q
        · rw [show c = C by omega]
          exact e
