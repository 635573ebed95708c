/-! the chain of calls between two middle ones -/
theorem pigeon : ∀ (m n : Nat) (f : Nat → Nat), (∀ i, i < n → f i < m) → (∀ i j, i < n → j < n → f i = f j → i = j) → n ≤ m
  | 0, n, f, h1, _ => by
    cases n with
    | zero => exact Nat.le_refl 0
    | succ n => exact absurd (h1 0 (by omega)) (Nat.not_lt_zero _)
  | m + 1, n, f, h1, h2 => by
    cases n with
    | zero => omega
    | succ n =>
      have : n ≤ m := by
        refine pigeon m n (fun i => if f i = m then f n else f i) (fun i hi => ?_) (fun i j hi hj e => ?_)
        · show (if f i = m then f n else f i) < m
          by_cases q : f i = m
          · rw [if_pos q]
            have a1 := h1 n (by omega)
            have a2 : f n ≠ m := fun q2 => by
              have := h2 i n (by omega) (by omega) (q.trans q2.symm)
              omega
            omega
          · rw [if_neg q]
            have := h1 i (by omega)
            omega
        · have e' : (if f i = m then f n else f i) = (if f j = m then f n else f j) := e
          by_cases q : f i = m
          · by_cases q2 : f j = m
            · exact h2 i j (by omega) (by omega) (q.trans q2.symm)
            · rw [if_pos q, if_neg q2] at e'
              have := h2 n j (by omega) (by omega) e'
              omega
          · by_cases q2 : f j = m
            · rw [if_neg q, if_pos q2] at e'
              have := h2 i n (by omega) (by omega) e'
              omega
            · rw [if_neg q, if_neg q2] at e'
              exact h2 i j (by omega) (by omega) e'
      omega
/-- the last one below k -/
def fnd (P : Nat → Bool) : Nat → Option Nat
  | 0 => none
  | k + 1 => if P k then some k else fnd P k
theorem fnd_some {P : Nat → Bool} {a : Nat} : ∀ {k}, fnd P k = some a → P a = true ∧ a < k
  | 0, h => by cases h
  | k + 1, h => by
    unfold fnd at h
    by_cases e : P k = true
    · rw [if_pos e] at h
      cases h
      exact ⟨e, by omega⟩
    · rw [if_neg e] at h
      obtain ⟨h1, h2⟩ := fnd_some h
      exact ⟨h1, by omega⟩
theorem fnd_none {P : Nat → Bool} : ∀ {k}, fnd P k = none → ∀ a, a < k → P a = false
  | 0, _, a, h => absurd h (Nat.not_lt_zero a)
  | k + 1, h, a, ha => by
    unfold fnd at h
    by_cases e : P k = true
    · rw [if_pos e] at h
      cases h
    · rw [if_neg e] at h
      by_cases q : a = k
      · rw [q]
        exact Bool.eq_false_iff.mpr e
      · exact fnd_none h a (by omega)
