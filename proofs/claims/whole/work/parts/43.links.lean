/-! the links of a net: which calls are linked now -/
abbrev CMap : Type := Nat → Option (Nat × Nat)
def LRep (l r m : Nat) (C : CMap) (t6 t8 t9 : Nat → Int32) : Prop :=
  (∀ a, a < r * l → t6 a = match C a with | none => -1000000 | some q => nI q.2) ∧
  (∀ x f, x < m → f < r → (t8 (x * r + f) = -1 ∧ ∀ a b, C a = some (b, x) → a / l ≠ f) ∨ ∃ a b, t8 (x * r + f) = nI a ∧ C a = some (b, x) ∧ a / l = f) ∧
  (∀ x f, x < m → f < r → (t9 (x * r + f) = -1 ∧ ∀ a b, C a = some (b, x) → b / l ≠ f) ∨ ∃ a b, t9 (x * r + f) = nI a ∧ C a = some (b, x) ∧ b / l = f)
def LWf (l r m : Nat) (C : CMap) : Prop :=
  (∀ a b x, C a = some (b, x) → a < r * l ∧ b < r * l ∧ x < m) ∧
  (∀ a a2 b b2 x, C a = some (b, x) → C a2 = some (b2, x) → a / l = a2 / l → a = a2) ∧
  (∀ a a2 b b2 x, C a = some (b, x) → C a2 = some (b2, x) → b / l = b2 / l → a = a2)
def BRep (N : NSt) (ln : Nat → Nat) (t : St) : Prop :=
  (sF t 0 = nI (nM N) ∧ sF t 1 = nI (nL N) ∧ sF t 2 = nI (nR N) ∧ sF t 3 = nI (nR N * nL N) ∧ sF t 13 = nI (cnt (fun x => !nD N x) (nM N)) ∧ sF t 14 = nI (cnt (fun a => (nC N a).isSome) (nR N * nL N))) ∧
  (ln 4 = nM N ∧ ln 5 = nR N * nL N ∧ ln 6 = nR N * nL N ∧ ln 7 = nR N * nL N ∧ ln 8 = nM N * nR N ∧ ln 9 = nM N * nR N ∧ ln 10 = nR N * nL N ∧ ln 11 = nR N * nL N ∧ ln 12 = nR N * nL N) ∧
  (∀ x, x < nM N → sA t 4 x = if nD N x then 1 else 0) ∧
  (∀ a, a < nR N * nL N → sA t 5 a = match nC N a with | none => -1000000 | some q => nI q.1) ∧
  (∀ b, b < nR N * nL N → (sA t 7 b = 1 ∧ ∃ a x, nC N a = some (b, x)) ∨ (sA t 7 b = 0 ∧ ∀ a x, nC N a ≠ some (b, x)))
theorem CRep_iff {N : NSt} {ln : Nat → Nat} {t : St} : CRep N ln t ↔ BRep N ln t ∧ LRep (nL N) (nR N) (nM N) (nC N) (sA t 6) (sA t 8) (sA t 9) :=
  ⟨fun ⟨h0, h1, h4, h5, h6, h7, h8, h9⟩ => ⟨⟨h0, h1, h4, h5, h7⟩, h6, h8, h9⟩, fun ⟨⟨h0, h1, h4, h5, h7⟩, h6, h8, h9⟩ => ⟨h0, h1, h4, h5, h6, h7, h8, h9⟩⟩
theorem NWf_L {N : NSt} (hw : NWf N) : LWf (nL N) (nR N) (nM N) (nC N) := by
  obtain ⟨_, _, _, h4, h5, _, h7, h8⟩ := hw
  refine ⟨fun a b x h => ⟨?_, (h5 a b x h).1, (h5 a b x h).2.1⟩, h7, h8⟩
  refine Nat.lt_of_not_le (fun q => ?_)
  rw [h4 a q] at h
  cases h
theorem idx_inj {r x f x2 f2 : Nat} (hf : f < r) (hf2 : f2 < r) (h : x * r + f = x2 * r + f2) : x = x2 ∧ f = f2 := by
  have e1 : (x * r + f) / r = x := by
    rw [Nat.mul_comm, Nat.mul_add_div (by omega), Nat.div_eq_of_lt hf, Nat.add_zero]
  have e2 : (x2 * r + f2) / r = x2 := by
    rw [Nat.mul_comm, Nat.mul_add_div (by omega), Nat.div_eq_of_lt hf2, Nat.add_zero]
  have e : x = x2 := by rw [← e1, ← e2, h]
  subst e
  exact ⟨rfl, by omega⟩
theorem idx_lt {r m x f : Nat} (hx : x < m) (hf : f < r) : x * r + f < m * r := by
  have : x * r + r ≤ m * r := by
    rw [← Nat.succ_mul]
    exact Nat.mul_le_mul_right r hx
  omega
theorem div_sw {l r a : Nat} (h : a < r * l) : a / l < r := Nat.div_lt_of_lt_mul (by rw [Nat.mul_comm]; exact h)
theorem up_none {C : CMap} {a a2 : Nat} {q : Nat × Nat} (h : va_up C a none a2 = some q) : a2 ≠ a ∧ C a2 = some q := by
  by_cases e : a2 = a
  · subst e
    rw [show va_up C a2 none a2 = none from if_pos rfl] at h
    cases h
  · rw [va_up_ne _ _ e] at h
    exact ⟨e, h⟩
theorem LWf_leave {l r m : Nat} {C : CMap} (h : LWf l r m C) (a : Nat) : LWf l r m (va_up C a none) :=
  ⟨fun a2 b x k => h.1 a2 b x (up_none k).2, fun a2 a3 b b2 x k k2 => h.2.1 a2 a3 b b2 x (up_none k).2 (up_none k2).2, fun a2 a3 b b2 x k k2 => h.2.2 a2 a3 b b2 x (up_none k).2 (up_none k2).2⟩
theorem LRep_leave {l r m : Nat} {C : CMap} {t6 t8 t9 : Nat → Int32} (hw : LWf l r m C) (h : LRep l r m C t6 t8 t9) {a b x : Nat} (hC : C a = some (b, x)) : LRep l r m (va_up C a none) (upd t6 a (-1000000)) (upd t8 (x * r + a / l) (-1)) (upd t9 (x * r + b / l) (-1)) := by
  obtain ⟨h6, h8, h9⟩ := h
  obtain ⟨ka, kb, kx⟩ := hw.1 a b x hC
  refine ⟨fun a2 ha2 => ?_, fun x2 f hx2 hf => ?_, fun x2 f hx2 hf => ?_⟩
  · unfold upd
    by_cases e : a2 = a
    · rw [if_pos e, e, show va_up C a none a = none from if_pos rfl]
    · rw [if_neg e, va_up_ne _ _ e]
      exact h6 a2 ha2
  · by_cases e : x2 = x ∧ f = a / l
    · obtain ⟨rfl, rfl⟩ := e
      refine Or.inl ⟨upd_same _ _ _, fun a2 b2 k q => ?_⟩
      obtain ⟨k1, k2⟩ := up_none k
      exact k1 (hw.2.1 a2 a b2 b x2 k2 hC q)
    · rw [upd_other _ _ (fun q => e (idx_inj hf (div_sw ka) q))]
      rcases h8 x2 f hx2 hf with ⟨k1, k2⟩ | ⟨a2, b2, k1, k2, k3⟩
      · exact Or.inl ⟨k1, fun a2 b2 k => k2 a2 b2 (up_none k).2⟩
      · refine Or.inr ⟨a2, b2, k1, ?_, k3⟩
        rw [va_up_ne _ _ (fun q => ?_)]
        · exact k2
        · subst q
          rw [hC] at k2
          cases k2
          exact e ⟨rfl, k3.symm⟩
  · by_cases e : x2 = x ∧ f = b / l
    · obtain ⟨rfl, rfl⟩ := e
      refine Or.inl ⟨upd_same _ _ _, fun a2 b2 k q => ?_⟩
      obtain ⟨k1, k2⟩ := up_none k
      exact k1 (hw.2.2 a2 a b2 b x2 k2 hC q)
    · rw [upd_other _ _ (fun q => e (idx_inj hf (div_sw kb) q))]
      rcases h9 x2 f hx2 hf with ⟨k1, k2⟩ | ⟨a2, b2, k1, k2, k3⟩
      · exact Or.inl ⟨k1, fun a2 b2 k => k2 a2 b2 (up_none k).2⟩
      · refine Or.inr ⟨a2, b2, k1, ?_, k3⟩
        rw [va_up_ne _ _ (fun q => ?_)]
        · exact k2
        · subst q
          rw [hC] at k2
          cases k2
          exact e ⟨rfl, k3.symm⟩
