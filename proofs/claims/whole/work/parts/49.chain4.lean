section CHL
variable {N : NSt} {x y g : Nat}
theorem ch_lt (hw : NWf N) {k a : Nat} (h : ch N x y g k = some a) : a < nR N * nL N := by
  obtain ⟨b, m⟩ := ch_mid h
  exact ((NWf_L hw).1 a b _ m).1
theorem ch_none_up {k : Nat} (h : ch N x y g k = none) : ch N x y g (k + 1) = none := by
  unfold ch
  rw [h]
/-- the chain ends: its length -/
theorem ch_len (hw : NWf N) (hxy : x ≠ y) (hg : ct N g y = none) : ∃ n, n ≤ nR N * nL N ∧ ch N x y g n = none ∧ ∀ k, k < n → ∃ a, ch N x y g k = some a := by
  have key : ∀ n, (∀ k, k < n → ∃ a, ch N x y g k = some a) → n ≤ nR N * nL N := by
    intro n h
    refine pigeon _ n (fun k => (ch N x y g k).getD 0) (fun i hi => ?_) (fun i j hi hj e => ?_)
    · obtain ⟨a, ha⟩ := h i hi
      show (ch N x y g i).getD 0 < _
      rw [ha]
      exact ch_lt hw ha
    · obtain ⟨a, ha⟩ := h i hi
      obtain ⟨b, hb⟩ := h j hj
      have e' : (ch N x y g i).getD 0 = (ch N x y g j).getD 0 := e
      rw [ha, hb] at e'
      have e2 : a = b := e'
      subst e2
      rcases Nat.lt_trichotomy i j with q | q | q
      · exact (ch_inj hw hxy hg i j a q ha hb).elim
      · exact q
      · exact (ch_inj hw hxy hg j i a q hb ha).elim
  have fin : ∀ n, (∃ m, m ≤ n ∧ ch N x y g m = none ∧ ∀ k, k < m → ∃ a, ch N x y g k = some a) ∨ ∀ k, k < n → ∃ a, ch N x y g k = some a := by
    intro n
    induction n with
    | zero => exact Or.inr (fun k hk => absurd hk (Nat.not_lt_zero _))
    | succ n ih =>
      rcases ih with ⟨m, h1, h2⟩ | h
      · exact Or.inl ⟨m, by omega, h2⟩
      · cases e : ch N x y g n with
        | none => exact Or.inl ⟨n, by omega, e, h⟩
        | some a =>
          refine Or.inr (fun k hk => ?_)
          by_cases q : k = n
          · exact ⟨a, by rw [q]; exact e⟩
          · exact h k (by omega)
  rcases fin (nR N * nL N + 1) with ⟨m, _, h2, h3⟩ | h
  · exact ⟨m, key m h3, h2, h3⟩
  · have := key _ h
    omega
end CHL
