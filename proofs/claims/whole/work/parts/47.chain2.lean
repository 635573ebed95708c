def bx (N : NSt) (a : Nat) : Nat := match nC N a with | none => 0 | some q => q.1
def mdl (N : NSt) (a x : Nat) : Bool := match nC N a with | none => false | some q => decide (q.2 = x)
/-- the call at the middle one x from the switch in f, to the switch out g -/
def cf (N : NSt) (f x : Nat) : Option Nat := fnd (fun a => mdl N a x && decide (a / nL N = f)) (nR N * nL N)
def ct (N : NSt) (g x : Nat) : Option Nat := fnd (fun a => mdl N a x && decide (bx N a / nL N = g)) (nR N * nL N)
theorem mdl_iff {N : NSt} {a x : Nat} : mdl N a x = true ↔ ∃ b, nC N a = some (b, x) := by
  unfold mdl
  cases h : nC N a with
  | none => exact ⟨fun q => (nomatch q), fun ⟨b, q⟩ => (nomatch q)⟩
  | some z =>
    obtain ⟨b, y⟩ := z
    constructor
    · intro q
      have : y = x := of_decide_eq_true q
      exact ⟨b, by rw [this]⟩
    · rintro ⟨b2, q⟩
      cases q
      exact decide_eq_true rfl
theorem bx_eq {N : NSt} {a b x : Nat} (h : nC N a = some (b, x)) : bx N a = b := by
  unfold bx
  rw [h]
section CH
variable {N : NSt}
theorem cf_some {f x a : Nat} (h : cf N f x = some a) : ∃ b, nC N a = some (b, x) ∧ a / nL N = f := by
  have := (fnd_some h).1
  simp only [Bool.and_eq_true, decide_eq_true_eq, mdl_iff] at this
  obtain ⟨⟨b, h1⟩, h2⟩ := this
  exact ⟨b, h1, h2⟩
theorem ct_some {g x a : Nat} (h : ct N g x = some a) : ∃ b, nC N a = some (b, x) ∧ b / nL N = g := by
  have := (fnd_some h).1
  simp only [Bool.and_eq_true, decide_eq_true_eq, mdl_iff] at this
  obtain ⟨⟨b, h1⟩, h2⟩ := this
  rw [bx_eq h1] at h2
  exact ⟨b, h1, h2⟩
theorem cf_none (hw : NWf N) {f x : Nat} (h : cf N f x = none) : ∀ a b, nC N a = some (b, x) → a / nL N ≠ f := by
  intro a b k q
  have := fnd_none h a ((NWf_L hw).1 a b x k).1
  rw [mdl_iff.mpr ⟨b, k⟩, decide_eq_true q] at this
  cases this
theorem ct_none (hw : NWf N) {g x : Nat} (h : ct N g x = none) : ∀ a b, nC N a = some (b, x) → b / nL N ≠ g := by
  intro a b k q
  have := fnd_none h a ((NWf_L hw).1 a b x k).1
  rw [mdl_iff.mpr ⟨b, k⟩, bx_eq k, decide_eq_true q] at this
  cases this
theorem cf_eq (hw : NWf N) {a b x : Nat} (h : nC N a = some (b, x)) : cf N (a / nL N) x = some a := by
  cases e : cf N (a / nL N) x with
  | none => exact absurd rfl (cf_none hw e a b h)
  | some a2 =>
    obtain ⟨b2, h1, h2⟩ := cf_some e
    rw [(NWf_L hw).2.1 a2 a b2 b x h1 h h2]
theorem ct_eq (hw : NWf N) {a b x : Nat} (h : nC N a = some (b, x)) : ct N (b / nL N) x = some a := by
  cases e : ct N (b / nL N) x with
  | none => exact absurd rfl (ct_none hw e a b h)
  | some a2 =>
    obtain ⟨b2, h1, h2⟩ := ct_some e
    rw [(NWf_L hw).2.2 a2 a b2 b x h1 h h2]
end CH
/-- the chain's elements: at even places of the middle one x, at odd ones of y -/
def ch (N : NSt) (x y g : Nat) : Nat → Option Nat
  | 0 => ct N g x
  | k + 1 => match ch N x y g k with
    | none => none
    | some a => if k % 2 = 0 then cf N (a / nL N) y else ct N (bx N a / nL N) x
