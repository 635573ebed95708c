section WM
variable {N : NSt} {p : Nat} {M : St}
theorem m_call36 {a : Nat} (hp : p < 6) (ha : a < 36) : vp_in (((36 : Int32) * nI p) + nI a) 216 ∧ (((36 : Int32) * nI p) + nI a).toNatClampNeg = 36 * p + a := by
  rw [show (36 : Int32) = nI 36 from rfl, nI_mul, nI_add, nI_clamp (by omega)]
  exact ⟨vp_in_nI (by omega) (by omega), rfl⟩
def accU (o : Option Nat) (j : Nat) : Int32 := match o with | none => -1000000 | some a => if a < j then nI a else -1000000
theorem m_from (hp : p < 6) (hw : NWf N) (hm : MRep N p (sA M 5) (sA M 6) (sA M 7) (sA M 8) (sA M 9) (sA M 10)) {f x : Nat} (hf : f < nR N) (hx : x < nM N) {Q : Int32 → Prop} (h : Q (enM (cf N f x))) : pX6_callFrom M (nI p) (nI f) (nI x) Q := by
  have hr := rn_le hw
  have k3 := hw.1
  have kl := hw.2.1
  have hfl : f * nL N + nL N ≤ nR N * nL N := by
    rw [← Nat.succ_mul]
    exact Nat.mul_le_mul_right _ hf
  unfold pX6_callFrom
  refine ⟨in6 hp, ?_⟩
  rintro _ rfl
  rw [cl6 hp, hm.1.2.1, nI_mul]
  unfold lX6_callFrom_14
  have e0 : accU (cf N f x) (f * nL N) = -1000000 := by
    unfold accU
    cases e : cf N f x with
    | none => rfl
    | some a =>
      obtain ⟨b, h1, h2⟩ := cf_some e
      have : f * nL N ≤ a := by rw [← h2]; exact Nat.div_mul_le_self a (nL N)
      exact if_neg (by omega)
  have eN : accU (cf N f x) (f * nL N + nL N) = enM (cf N f x) := by
    unfold accU enM
    cases e : cf N f x with
    | none => rfl
    | some a =>
      obtain ⟨b, h1, h2⟩ := cf_some e
      have : a < f * nL N + nL N := by
        rw [← h2, ← Nat.succ_mul, Nat.mul_comm]
        exact Nat.lt_mul_div_succ a (by omega)
      exact if_pos this
  rw [← e0]
  refine lp_from (α := Int32) (f * nL N) (nL N) (by omega) (fun k => accU (cf N f x) (f * nL N + k)) (fun k K hk hK => ?_) (fun K => ?_)
  · show bX6_callFrom_14 M (nI p) (nI f) (nI x) _ _ (accU (cf N f x) (f * nL N + k)) (nI (f * nL N + k))
    unfold bX6_callFrom_14
    have hK' : K (accU (cf N f x) (f * nL N + k + 1), nI (f * nL N + k + 1)) := hK
    obtain ⟨v1, v2⟩ := m_call36 (p := p) (a := f * nL N + k) hp (by omega)
    rw [cl6 hp, hm.1.2.1, nI_s1, nI_mul, v2, hm.2.2.1 (f * nL N + k) (by omega), nI_s1]
    have hdiv : (f * nL N + k) / nL N = f := by
      rw [Nat.mul_comm, Nat.mul_add_div (by omega), Nat.div_eq_of_lt hk, Nat.add_zero]
    have step : ∀ v, v = accU (cf N f x) (f * nL N + k + 1) → K (v, nI (f * nL N + k + 1)) := by
      rintro _ rfl
      exact hK'
    have keep : (∀ b, nC N (f * nL N + k) ≠ some (b, x)) → accU (cf N f x) (f * nL N + k) = accU (cf N f x) (f * nL N + k + 1) := by
      intro hno
      unfold accU
      cases e : cf N f x with
      | none => rfl
      | some a =>
        obtain ⟨b, h1, h2⟩ := cf_some e
        have : a ≠ f * nL N + k := fun q => hno b (by rw [← q]; exact h1)
        show (if a < f * nL N + k then nI a else -1000000) = if a < f * nL N + k + 1 then nI a else -1000000
        by_cases q : a < f * nL N + k
        · rw [if_pos q, if_pos (by omega)]
        · rw [if_neg q, if_neg (by omega)]
    refine ⟨in6 hp, fun q => absurd q (nI_ge (b := (f + 1) * nL N) (by rw [Nat.succ_mul]; omega) (by rw [Nat.succ_mul]; omega)), fun _ => ⟨v1, ?_⟩⟩
    cases hd : nC N (f * nL N + k) with
    | none =>
      refine ⟨fun _ => ?_, fun q => absurd rfl q⟩
      rintro _ rfl
      exact step _ (keep (fun b q => by rw [hd] at q; cases q))
    | some z =>
      obtain ⟨b, x2⟩ := z
      obtain ⟨kb, kx, _⟩ := hw.2.2.2.2.1 _ b x2 hd
      refine ⟨fun q => absurd q (nI_none (by omega)), fun _ => ⟨v1, ?_⟩⟩
      rw [hm.2.2.2 _ b x2 (by omega) hd]
      refine ⟨fun q => ?_, fun q => ?_⟩
      · rintro _ rfl
        have ex : x2 = x := (nI_eq_iff (by omega) (by omega)).mp q
        refine step _ ?_
        rw [ex] at hd
        have := cf_eq hw hd
        rw [hdiv] at this
        rw [this]
        exact (if_pos (by omega)).symm
      · rintro _ rfl
        refine step _ (keep (fun b2 q2 => q ?_))
        rw [hd] at q2
        cases q2
        rfl
  · show bX6_callFrom_14 M (nI p) (nI f) (nI x) _ _ (accU (cf N f x) (f * nL N + nL N)) (nI (f * nL N + nL N))
    unfold bX6_callFrom_14
    rw [cl6 hp, hm.1.2.1, nI_s1, nI_mul, eN]
    refine ⟨in6 hp, fun _ => h, fun q => absurd (nI_le (a := (f + 1) * nL N) (by rw [Nat.succ_mul]; omega) (by omega)) q⟩
end WM
