/-! orders by their first difference; the next one -/
def lxl (s : Nat) (r q : Nat → Nat) : Prop := ∃ d, d < s ∧ (∀ i, i < d → r i = q i) ∧ r d < q d
def eqv (s : Nat) (r q : Nat → Nat) : Prop := ∀ i, i < s → r i = q i
theorem lx_tri (r q : Nat → Nat) : ∀ s, eqv s r q ∨ lxl s r q ∨ lxl s q r
  | 0 => Or.inl (fun i hi => absurd hi (Nat.not_lt_zero _))
  | s + 1 => by
    rcases lx_tri r q s with h | ⟨d, h1, h2⟩ | ⟨d, h1, h2⟩
    · rcases Nat.lt_trichotomy (r s) (q s) with e | e | e
      · exact Or.inr (Or.inl ⟨s, by omega, h, e⟩)
      · refine Or.inl (fun i hi => ?_)
        by_cases q : i = s
        · rw [q]
          exact e
        · exact h i (by omega)
      · exact Or.inr (Or.inr ⟨s, by omega, fun i hi => (h i hi).symm, e⟩)
    · exact Or.inr (Or.inl ⟨d, by omega, h2⟩)
    · exact Or.inr (Or.inr ⟨d, by omega, h2⟩)
def pos (s : Nat) (A : Nat → Nat → Nat) (r : Nat → Nat) : Prop := ∀ i, i < s → 0 < A i (r i)
def isL (s : Nat) (A : Nat → Nat → Nat) (r : Nat → Nat) : Prop := prm s r ∧ pos s A r ∧ ∀ q, prm s q → pos s A q → ¬ lxl s q r
theorem isL_eq {s : Nat} {A : Nat → Nat → Nat} {r q : Nat → Nat} (h : isL s A r) (h2 : isL s A q) : eqv s r q := by
  rcases lx_tri r q s with e | e | e
  · exact e
  · exact (h2.2.2 r h.1 h.2.1 e).elim
  · exact (h.2.2 q h2.1 h2.2.1 e).elim
theorem id_least {s : Nat} {q : Nat → Nat} (h : prm s q) : ¬ lxl s q (fun i => i) := by
  rintro ⟨d, h1, h2, h3⟩
  have h3' : q d < d := h3
  have e : q (q d) = q d := h2 _ h3'
  have := h.2 _ _ (by omega) h1 e
  omega
def pi (s k j i : Nat) : Nat := if i < k then i else if i = k then j else if s + k - i = j then k else s + k - i
def nxt (s : Nat) (r : Nat → Nat) (k j : Nat) : Nat → Nat := fun i => r (pi s k j i)
section NX
variable {s k j : Nat} {r : Nat → Nat}
theorem dec_of (h : ∀ i, k < i → i + 1 < s → r (i + 1) < r i) : ∀ {a b : Nat}, k < a → a < b → b < s → r b < r a := by
  intro a b ha hab
  obtain ⟨d, rfl⟩ : ∃ d, b = a + 1 + d := ⟨b - (a + 1), by omega⟩
  clear hab
  induction d with
  | zero => exact fun hb => h a ha hb
  | succ d ih =>
    intro hb
    have h1 := ih (by omega)
    have h2 := h (a + 1 + d) (by omega) (by omega)
    have e : a + 1 + (d + 1) = a + 1 + d + 1 := by omega
    rw [e]
    omega
theorem pi_lt (hk : k + 1 < s) (hj : k < j ∧ j < s) {i : Nat} (hi : i < s) : pi s k j i < s := by
  unfold pi
  split
  · omega
  · split
    · omega
    · split <;> omega
theorem pi_inj (hk : k + 1 < s) (hj : k < j ∧ j < s) {a b : Nat} (ha : a < s) (hb : b < s) (h : pi s k j a = pi s k j b) : a = b := by
  unfold pi at h
  split at h <;> split at h <;> (try split at h) <;> (try split at h) <;> (try split at h) <;> (try split at h) <;> omega
theorem nxt_prm (hr : prm s r) (hk : k + 1 < s) (hj : k < j ∧ j < s) : prm s (nxt s r k j) :=
  ⟨fun i hi => hr.1 _ (pi_lt hk hj hi), fun a b ha hb e => pi_inj hk hj ha hb (hr.2 _ _ (pi_lt hk hj ha) (pi_lt hk hj hb) e)⟩
theorem nxt_a {i : Nat} (h : i < k) : nxt s r k j i = r i := by
  unfold nxt pi
  rw [if_pos h]
theorem nxt_k : nxt s r k j k = r j := by
  unfold nxt pi
  rw [if_neg (by omega), if_pos rfl]
theorem nxt_lt (hk : k + 1 < s) (hj2 : r k < r j) : lxl s r (nxt s r k j) := ⟨k, by omega, fun i hi => (nxt_a hi).symm, by rw [nxt_k]; exact hj2⟩
theorem q_at {q : Nat → Nat} (hr : prm s r) (hq : prm s q) {d : Nat} (hd : d < s) (ha : ∀ i, i < d → r i = q i) : ∃ e, d ≤ e ∧ e < s ∧ q d = r e := by
  obtain ⟨e, h1, h2⟩ := prm_sur hr (hq.1 d hd)
  refine ⟨e, ?_, h1, h2.symm⟩
  refine Nat.le_of_not_lt (fun h => ?_)
  rw [ha e h] at h2
  have := hq.2 e d h1 hd h2
  omega
theorem nxt_last {q : Nat → Nat} (hr : prm s r) (hq : prm s q) (hdec : ∀ i, i + 1 < s → r (i + 1) < r i) : ¬ lxl s r q := by
  rintro ⟨d, h1, h2, h3⟩
  obtain ⟨e, e1, e2, e3⟩ := q_at hr hq h1 h2
  by_cases q0 : e = d
  · rw [q0] at e3
    omega
  · have dec : ∀ a b, a < b → b < s → r b < r a := by
      intro a b hab
      obtain ⟨c, rfl⟩ : ∃ c, b = a + 1 + c := ⟨b - (a + 1), by omega⟩
      clear hab
      induction c with
      | zero => exact fun hb => hdec a hb
      | succ c ih =>
        intro hb
        have h1 := ih (by omega)
        have h2 := hdec (a + 1 + c) (by omega)
        have e : a + 1 + (c + 1) = a + 1 + c + 1 := by omega
        rw [e]
        omega
    have := dec d e (by omega) e2
    omega
theorem nxt_min {q : Nat → Nat} (hr : prm s r) (hq : prm s q) (hk : k + 1 < s) (hj : k < j ∧ j < s) (hdec : ∀ i, k < i → i + 1 < s → r (i + 1) < r i) (hj2 : r k < r j) (hj3 : ∀ i, j < i → i < s → r i < r k) (h : lxl s r q) : ¬ lxl s q (nxt s r k j) := by
  have dec : ∀ {a b : Nat}, k < a → a < b → b < s → r b < r a := fun {a b} => dec_of hdec
  obtain ⟨d, d1, d2, d3⟩ := h
  rintro ⟨e, e1, e2, e3⟩
  obtain ⟨f, f1, f2, f3⟩ := q_at hr hq d1 d2
  have fd : f ≠ d := fun q0 => by rw [q0] at f3; omega
  rcases Nat.lt_trichotomy d k with dk | dk | dk
  · -- they differ ahead of k
    have rd : nxt s r k j d = r d := nxt_a dk
    rcases Nat.lt_trichotomy e d with g | g | g
    · rw [nxt_a (by omega), d2 e g] at e3
      omega
    · rw [g, rd] at e3
      omega
    · have := e2 d g
      rw [rd] at this
      omega
  · subst dk
    have fj : f ≤ j := Nat.le_of_not_lt (fun g => by have := hj3 f g f2; omega)
    have rj : r j ≤ q d := by
      by_cases g : f = j
      · rw [f3, g]
        exact Nat.le_refl _
      · have := dec (a := f) (b := j) (by omega) (by omega) hj.2
        omega
    rcases Nat.lt_trichotomy e d with g | g | g
    · rw [nxt_a g, d2 e g] at e3
      omega
    · rw [g, nxt_k] at e3
      omega
    · -- behind k the next one rises
      have hn := nxt_prm (r := r) hr hk hj
      obtain ⟨c, c1, c2, c3⟩ := q_at hn hq e1 (fun i hi => (e2 i hi).symm)
      have ce : c ≠ e := fun q0 => by rw [q0] at c3; omega
      have rise : nxt s r d j e < nxt s r d j c := by
        unfold nxt pi
        rw [if_neg (by omega), if_neg (by omega), if_neg (show ¬ c < d by omega), if_neg (show ¬ c = d by omega)]
        by_cases g1 : s + d - e = j
        · rw [if_pos g1, if_neg (by omega)]
          have := dec (a := s + d - c) (b := j) (by omega) (by omega) hj.2
          omega
        · rw [if_neg g1]
          by_cases g2 : s + d - c = j
          · rw [if_pos g2]
            exact hj3 _ (by omega) (by omega)
          · rw [if_neg g2]
            exact dec (by omega) (by omega) (by omega)
      omega
  · have := dec (a := d) (b := f) dk (by omega) f2
    omega
end NX
def cde (r : Nat → Nat) : Nat → Nat
  | 0 => 0
  | n + 1 => cde r n * 6 + r n
theorem cde_lt {s : Nat} {r q : Nat → Nat} (hr : ∀ i, i < s → r i < 6) (h : lxl s r q) : cde r s < cde q s := by
  obtain ⟨d, h1, h2, h3⟩ := h
  have e : ∀ n, n ≤ d → cde r n = cde q n := by
    intro n
    induction n with
    | zero => exact fun _ => rfl
    | succ n ih =>
      intro hn
      show cde r n * 6 + r n = cde q n * 6 + q n
      rw [ih (by omega), h2 n (by omega)]
  have g : ∀ c, d + 1 + c ≤ s → cde r (d + 1 + c) < cde q (d + 1 + c) := by
    intro c
    induction c with
    | zero =>
      intro _
      show cde r d * 6 + r d < cde q d * 6 + q d
      rw [e d (Nat.le_refl _)]
      omega
    | succ c ih =>
      intro hc
      have i1 := ih (by omega)
      have i2 := hr (d + 1 + c) (by omega)
      show cde r (d + 1 + c) * 6 + r (d + 1 + c) < cde q (d + 1 + c) * 6 + q (d + 1 + c)
      omega
  have := g (s - (d + 1)) (by omega)
  rw [show d + 1 + (s - (d + 1)) = s by omega] at this
  exact this
theorem cde_b {r : Nat → Nat} : ∀ {n : Nat}, (∀ i, i < n → r i < 6) → cde r n < 6 ^ n
  | 0, _ => by show 0 < 6 ^ 0; decide
  | n + 1, h => by
    have h1 := cde_b (n := n) (fun i hi => h i (by omega))
    have h2 := h n (by omega)
    show cde r n * 6 + r n < 6 ^ (n + 1)
    rw [Nat.pow_succ]
    omega
