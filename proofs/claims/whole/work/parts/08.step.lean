/-! add and remove in step: the same array on both sides -/
theorem co_and {t S : Nat} (ht : t < 2 ^ 31) : nI t &&& nI S = nI t ↔ S &&& t = t := by
  rw [nx_and, Nat.and_comm, ← nx_and]
  exact ca_and S t ht
theorem co_sub {t s S : Nat} (h1 : t &&& s = t) (h2 : S &&& s = s) : S &&& t = t := by
  rw [← h1, Nat.and_comm t s, ← Nat.and_assoc, h2]
theorem co_le {t s : Nat} (h : t &&& s = t) : t ≤ s := by
  rw [← h]
  exact Nat.and_le_right
theorem co_add (b m : Nat → Int32) {S : Nat} (a0 : Nat → Int32) (C0 : cd_Cl a0) : ∀ (d t : Nat) (a : Nat → Int32) (r : Int32), t + d = 32 → 1 ≤ t → (∀ s, (¬ a s = 0) ↔ (¬ a0 s = 0 ∨ (1 ≤ s ∧ s < t ∧ S &&& s = s))) → ∃ (r' : Int32) (a' : Nat → Int32), cd_Cl a' ∧ (∀ post : Int32 → SX → Prop, post r' (a', b) → wX_add_13 post (nI S) (d + 1) r (nI t) a b) ∧ (∀ post : Int32 → SY → Prop, post r' (a', m) → wY_add_17 post (nI S) (d + 1) r (nI t) a m) := by
  intro d
  induction d with
  | zero =>
    intro t a r h1 h2 h3
    have e : t = 32 := by omega
    subst e
    refine ⟨r, a, ?_, fun post h => br_t (by decide) h, fun post h => br_t (by decide) h⟩
    intro s t hs ht hst hh
    rw [h3] at hh ⊢
    have hle := co_le hst
    rcases hh with q | ⟨q1, q2, q3⟩
    · exact Or.inl (C0 s t hs ht hst q)
    · exact Or.inr ⟨ht, by omega, co_sub hst q3⟩
  | succ d ih =>
    intro t a r h1 h2 h3
    have h32 : ¬ (32 : Int32) ≤ nI t := nI_ge (b := 32) (by omega) (by omega)
    have hin : vp_in (nI t) 32 := vp_in_nI (by omega) (by omega)
    have hcl : (nI t).toNatClampNeg = t := nI_clamp (by omega)
    by_cases hc : S &&& t = t
    · by_cases hz : a t = 0
      · obtain ⟨r', a', C, hX, hY⟩ := ih (t + 1) (upd a t 1) (r + 1) (by omega) (by omega) (by
          intro s
          by_cases q : s = t
          · subst q
            rw [pk_us]
            exact ⟨fun _ => Or.inr ⟨h2, by omega, hc⟩, fun _ => cw_10⟩
          · rw [pk_un q, h3]
            constructor
            · intro z
              exact z.elim Or.inl (fun w => Or.inr ⟨w.1, by omega, w.2.2⟩)
            · intro z
              exact z.elim Or.inl (fun w => Or.inr ⟨w.1, by omega, w.2.2⟩))
        refine ⟨r', a', C, fun post h => br_f h32 ?_, fun post h => br_f h32 ?_⟩
        · refine br_t ((ca_and S t (by omega)).mpr hc) (br_f cw_10 ⟨hin, ?_⟩)
          rw [hcl, cw_nb1]
          exact br_t hz ⟨hin, nm_e (nm_e (nm_r (nI_1 t) (hX post h)))⟩
        · refine br_t ((co_and (by omega)).mpr hc) ⟨hin, ?_⟩
          rw [hcl, cw_nb1]
          exact br_t hz ⟨hin, nm_e (nm_e (nm_r (nI_1 t) (hY post h)))⟩
      · obtain ⟨r', a', C, hX, hY⟩ := ih (t + 1) a r (by omega) (by omega) (by
          intro s
          rw [h3]
          constructor
          · intro z
            exact z.elim Or.inl (fun w => Or.inr ⟨w.1, by omega, w.2.2⟩)
          · intro z
            rcases z with z | ⟨w1, w2, w3⟩
            · exact Or.inl z
            · by_cases q : s = t
              · subst q
                exact (h3 s).mp hz
              · exact Or.inr ⟨w1, by omega, w3⟩)
        refine ⟨r', a', C, fun post h => br_f h32 ?_, fun post h => br_f h32 ?_⟩
        · refine br_t ((ca_and S t (by omega)).mpr hc) (br_f cw_10 ⟨hin, ?_⟩)
          rw [hcl]
          exact br_f hz (nm_r (nI_1 t) (hX post h))
        · refine br_t ((co_and (by omega)).mpr hc) ⟨hin, ?_⟩
          rw [hcl]
          exact br_f hz (nm_r (nI_1 t) (hY post h))
    · obtain ⟨r', a', C, hX, hY⟩ := ih (t + 1) a r (by omega) (by omega) (by
        intro s
        rw [h3]
        constructor
        · intro z
          exact z.elim Or.inl (fun w => Or.inr ⟨w.1, by omega, w.2.2⟩)
        · intro z
          rcases z with z | ⟨w1, w2, w3⟩
          · exact Or.inl z
          · by_cases q : s = t
            · subst q
              exact absurd w3 hc
            · exact Or.inr ⟨w1, by omega, w3⟩)
      refine ⟨r', a', C, fun post h => br_f h32 ?_, fun post h => br_f h32 ?_⟩
      · exact br_f (fun z => hc ((ca_and S t (by omega)).mp z)) (br_t rfl (nm_r (nI_1 t) (hX post h)))
      · exact br_f (fun z => hc ((co_and (by omega)).mp z)) (nm_r (nI_1 t) (hY post h))
theorem co_rem (b m : Nat → Int32) {S : Nat} (hS : S < 32) (a0 : Nat → Int32) (C0 : cd_Cl a0) : ∀ (d t : Nat) (a : Nat → Int32) (r : Int32), t + d = 32 → 1 ≤ t → (∀ s, (¬ a s = 0) ↔ (¬ a0 s = 0 ∧ ¬ (1 ≤ s ∧ s < t ∧ s &&& S = S))) → ∃ (r' : Int32) (a' : Nat → Int32), cd_Cl a' ∧ (∀ post : Int32 → SX → Prop, post r' (a', b) → wX_remove_13 post (nI S) (d + 1) r (nI t) a b) ∧ (∀ post : Int32 → SY → Prop, post r' (a', m) → wY_remove_17 post (nI S) (d + 1) r (nI t) a m) := by
  intro d
  induction d with
  | zero =>
    intro t a r h1 h2 h3
    have e : t = 32 := by omega
    subst e
    refine ⟨r, a, ?_, fun post h => br_t (by decide) h, fun post h => br_t (by decide) h⟩
    intro s t hs ht hst hh
    rw [h3] at hh ⊢
    have hle := co_le hst
    refine ⟨C0 s t hs ht hst hh.1, fun w => hh.2 ⟨by omega, hs, ?_⟩⟩
    have e2 : s &&& (t &&& S) = t &&& S := by rw [← Nat.and_assoc, Nat.and_comm s t, hst]
    rw [w.2.2] at e2
    exact e2
  | succ d ih =>
    intro t a r h1 h2 h3
    have h32 : ¬ (32 : Int32) ≤ nI t := nI_ge (b := 32) (by omega) (by omega)
    have hin : vp_in (nI t) 32 := vp_in_nI (by omega) (by omega)
    have hcl : (nI t).toNatClampNeg = t := nI_clamp (by omega)
    have hca := ca_and t S (by omega)
    by_cases hc : t &&& S = S
    · by_cases hz : a t = 0
      · obtain ⟨r', a', C, hX, hY⟩ := ih (t + 1) a r (by omega) (by omega) (by
          intro s
          by_cases q : s = t
          · subst q
            exact ⟨fun z => absurd hz z, fun z => absurd ⟨h2, by omega, hc⟩ z.2⟩
          · rw [h3]
            exact ⟨fun z => ⟨z.1, fun w => z.2 ⟨w.1, by omega, w.2.2⟩⟩, fun z => ⟨z.1, fun w => z.2 ⟨w.1, by omega, w.2.2⟩⟩⟩)
        refine ⟨r', a', C, fun post h => br_f h32 ?_, fun post h => br_f h32 ?_⟩
        · refine br_t (hca.mpr hc) (br_f cw_10 ⟨hin, ?_⟩)
          rw [hcl]
          exact br_t hz (nm_r (nI_1 t) (hX post h))
        · refine br_t (hca.mpr hc) ⟨hin, ?_⟩
          rw [hcl]
          exact br_t hz (nm_r (nI_1 t) (hY post h))
      · obtain ⟨r', a', C, hX, hY⟩ := ih (t + 1) (upd a t 0) (r + 1) (by omega) (by omega) (by
          intro s
          by_cases q : s = t
          · subst q
            rw [pk_us]
            exact ⟨fun z => absurd rfl z, fun z => absurd ⟨h2, by omega, hc⟩ z.2⟩
          · rw [pk_un q, h3]
            exact ⟨fun z => ⟨z.1, fun w => z.2 ⟨w.1, by omega, w.2.2⟩⟩, fun z => ⟨z.1, fun w => z.2 ⟨w.1, by omega, w.2.2⟩⟩⟩)
        refine ⟨r', a', C, fun post h => br_f h32 ?_, fun post h => br_f h32 ?_⟩
        · refine br_t (hca.mpr hc) (br_f cw_10 ⟨hin, ?_⟩)
          rw [hcl, cw_nb0]
          exact br_f hz ⟨hin, nm_e (nm_e (nm_r (nI_1 t) (hX post h)))⟩
        · refine br_t (hca.mpr hc) ⟨hin, ?_⟩
          rw [hcl, cw_nb0]
          exact br_f hz ⟨hin, nm_e (nm_e (nm_r (nI_1 t) (hY post h)))⟩
    · obtain ⟨r', a', C, hX, hY⟩ := ih (t + 1) a r (by omega) (by omega) (by
        intro s
        rw [h3]
        refine ⟨fun z => ⟨z.1, fun w => ?_⟩, fun z => ⟨z.1, fun w => z.2 ⟨w.1, by omega, w.2.2⟩⟩⟩
        by_cases q : s = t
        · subst q
          exact hc w.2.2
        · exact z.2 ⟨w.1, by omega, w.2.2⟩)
      refine ⟨r', a', C, fun post h => br_f h32 ?_, fun post h => br_f h32 ?_⟩
      · exact br_f (fun z => hc (hca.mp z)) (br_t rfl (nm_r (nI_1 t) (hX post h)))
      · exact br_f (fun z => hc (hca.mp z)) (nm_r (nI_1 t) (hY post h))
