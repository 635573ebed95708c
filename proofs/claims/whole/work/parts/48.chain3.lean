section CHI
variable {N : NSt} {x y g : Nat}
theorem ch_mid : ∀ {k a}, ch N x y g k = some a → ∃ b, nC N a = some (b, if k % 2 = 0 then x else y)
  | 0, a, h => by
    obtain ⟨b, h1, _⟩ := ct_some h
    exact ⟨b, h1⟩
  | k + 1, a, h => by
    unfold ch at h
    cases e : ch N x y g k with
    | none => rw [e] at h; cases h
    | some c =>
      rw [e] at h
      have h' : (if k % 2 = 0 then cf N (c / nL N) y else ct N (bx N c / nL N) x) = some a := h
      by_cases q : k % 2 = 0
      · rw [if_pos q] at h'
        obtain ⟨b, h1, _⟩ := cf_some h'
        exact ⟨b, by rw [if_neg (by omega)]; exact h1⟩
      · rw [if_neg q] at h'
        obtain ⟨b, h1, _⟩ := ct_some h'
        exact ⟨b, by rw [if_pos (by omega)]; exact h1⟩
theorem ch_prev {k a : Nat} (h : ch N x y g (k + 1) = some a) : ∃ c, ch N x y g k = some c ∧ ((k % 2 = 0 ∧ a / nL N = c / nL N) ∨ (k % 2 = 1 ∧ bx N a / nL N = bx N c / nL N)) := by
  unfold ch at h
  cases e : ch N x y g k with
  | none => rw [e] at h; cases h
  | some c =>
    rw [e] at h
    have h' : (if k % 2 = 0 then cf N (c / nL N) y else ct N (bx N c / nL N) x) = some a := h
    refine ⟨c, rfl, ?_⟩
    by_cases q : k % 2 = 0
    · rw [if_pos q] at h'
      obtain ⟨b, _, h2⟩ := cf_some h'
      exact Or.inl ⟨q, h2⟩
    · rw [if_neg q] at h'
      obtain ⟨b, h1, h2⟩ := ct_some h'
      rw [← bx_eq h1] at h2
      exact Or.inr ⟨by omega, h2⟩
theorem ch_inj (hw : NWf N) (hxy : x ≠ y) (hg : ct N g y = none) : ∀ (i j a : Nat), i < j → ch N x y g i = some a → ch N x y g j = some a → False := by
  intro i
  induction i with
  | zero =>
    intro j a hij hi hj
    obtain ⟨b, m1⟩ := ch_mid hi
    obtain ⟨b2, m2⟩ := ch_mid hj
    rw [m1] at m2
    obtain ⟨j, rfl⟩ : ∃ k, j = k + 1 := ⟨j - 1, by omega⟩
    by_cases q : (j + 1) % 2 = 0
    · obtain ⟨c, h1, h2 | h2⟩ := ch_prev hj
      · omega
      · obtain ⟨bb, k1, k2⟩ := ct_some (show ct N g x = some a from hi)
        obtain ⟨bc, m3⟩ := ch_mid h1
        rw [if_neg (by omega)] at m3
        refine ct_none hw hg c bc m3 ?_
        rw [← bx_eq m3, ← h2.2, bx_eq k1, k2]
    · rw [if_pos rfl, if_neg q] at m2
      cases m2
      exact hxy rfl
  | succ i ih =>
    intro j a hij hi hj
    obtain ⟨b, m1⟩ := ch_mid hi
    obtain ⟨b2, m2⟩ := ch_mid hj
    obtain ⟨j, rfl⟩ : ∃ k, j = k + 1 := ⟨j - 1, by omega⟩
    have par : i % 2 = j % 2 := by
      rw [m1] at m2
      by_cases q : (i + 1) % 2 = 0
      · by_cases q2 : (j + 1) % 2 = 0
        · omega
        · rw [if_pos q, if_neg q2] at m2
          cases m2
          exact absurd rfl hxy
      · by_cases q2 : (j + 1) % 2 = 0
        · rw [if_neg q, if_pos q2] at m2
          cases m2
          exact absurd rfl hxy
        · omega
    obtain ⟨c, h1, h2⟩ := ch_prev hi
    obtain ⟨d, h3, h4⟩ := ch_prev hj
    obtain ⟨bc, m3⟩ := ch_mid h1
    obtain ⟨bd, m4⟩ := ch_mid h3
    have ecd : c = d := by
      rw [par] at m3
      rcases h2 with ⟨p1, h2⟩ | ⟨p1, h2⟩
      · rcases h4 with ⟨p2, h4⟩ | ⟨p2, h4⟩
        · exact (NWf_L hw).2.1 c d bc bd _ m3 m4 (h2.symm.trans h4)
        · omega
      · rcases h4 with ⟨p2, h4⟩ | ⟨p2, h4⟩
        · omega
        · refine (NWf_L hw).2.2 c d bc bd _ m3 m4 ?_
          rw [← bx_eq m3, ← bx_eq m4]
          exact h2.symm.trans h4
    subst ecd
    exact ih j c (by omega) h1 h3
end CHI
