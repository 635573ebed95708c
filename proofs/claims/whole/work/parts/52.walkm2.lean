section WM2
variable {N : NSt} {p : Nat} {M : St}
theorem m_to (hp : p < 6) (hw : NWf N) (hm : MRep N p (sA M 5) (sA M 6) (sA M 7) (sA M 8) (sA M 9) (sA M 10)) {g x : Nat} (hg : g < nR N) (hx : x < nM N) {Q : Int32 → Prop} (h : Q (enM (ct N g x))) : pX6_callTo M (nI p) (nI g) (nI x) Q := by
  have hr := rn_le hw
  have k3 := hw.1
  have k4 := hw.2.2.1
  have kl := hw.2.1
  unfold pX6_callTo lX6_callTo_7
  have e0 : accU (ct N g x) 0 = -1000000 := by
    unfold accU
    cases e : ct N g x with
    | none => rfl
    | some a => exact if_neg (by omega)
  have eN : accU (ct N g x) (nR N * nL N) = enM (ct N g x) := by
    unfold accU enM
    cases e : ct N g x with
    | none => rfl
    | some a =>
      obtain ⟨b, h1, h2⟩ := ct_some e
      exact if_pos ((NWf_L hw).1 a b x h1).1
  rw [← e0]
  refine lp_cnt (α := Int32) (nR N * nL N) (by omega) (fun k => accU (ct N g x) k) (fun k K hk hK => ?_) (fun K => ?_)
  · show bX6_callTo_7 M (nI p) (nI g) (nI x) _ _ (accU (ct N g x) k) (nI k)
    unfold bX6_callTo_7
    have hK' : K (accU (ct N g x) (k + 1), nI (k + 1)) := hK
    obtain ⟨v1, v2⟩ := m_call36 (p := p) (a := k) hp (by omega)
    rw [cl6 hp, hm.1.2.1, hm.1.2.2, nI_mul, v2, hm.2.2.1 k (by omega), nI_s1]
    have step : ∀ v, v = accU (ct N g x) (k + 1) → K (v, nI (k + 1)) := by
      rintro _ rfl
      exact hK'
    have keep : (∀ b, nC N k = some (b, x) → b / nL N ≠ g) → accU (ct N g x) k = accU (ct N g x) (k + 1) := by
      intro hno
      unfold accU
      cases e : ct N g x with
      | none => rfl
      | some a =>
        obtain ⟨b, h1, h2⟩ := ct_some e
        have : a ≠ k := fun q => hno b (by rw [← q]; exact h1) h2
        show (if a < k then nI a else -1000000) = if a < k + 1 then nI a else -1000000
        by_cases q : a < k
        · rw [if_pos q, if_pos (by omega)]
        · rw [if_neg q, if_neg (by omega)]
    refine ⟨in6 hp, in6 hp, fun q => absurd q (nI_ge (b := nR N * nL N) hk (by omega)), fun _ => ⟨v1, ?_⟩⟩
    rintro _ rfl
    cases hd : nC N k with
    | none =>
      refine ⟨fun _ => ?_, fun q => absurd rfl q⟩
      rintro _ rfl
      exact step _ (keep (fun b q => by rw [hd] at q; cases q))
    | some z =>
      obtain ⟨b, x2⟩ := z
      obtain ⟨kb, kx, _⟩ := hw.2.2.2.2.1 _ b x2 hd
      refine ⟨fun q => absurd q (nI_none (by omega)), fun _ => ⟨in6 hp, nI_ne0 (by omega) (by omega), ?_⟩⟩
      show ((nI b / nI (nL N)) = nI g → _) ∧ _
      rw [nI_div (by omega) (by omega), hm.2.2.2 _ b x2 (by omega) hd]
      have hbl : b / nL N < nR N := div_sw kb
      refine ⟨fun q => ⟨v1, fun q2 => ?_, fun q2 => ?_⟩, fun q => ?_⟩
      · rintro _ rfl
        have eg : b / nL N = g := (nI_eq_iff (by omega) (by omega)).mp q
        have ex : x2 = x := (nI_eq_iff (by omega) (by omega)).mp q2
        refine step _ ?_
        rw [ex] at hd
        have := ct_eq hw hd
        rw [eg] at this
        rw [this]
        exact (if_pos (by omega)).symm
      · rintro _ rfl
        refine step _ (keep (fun b2 q3 => absurd ?_ q2))
        rw [hd] at q3
        cases q3
        rfl
      · rintro _ rfl
        refine step _ (keep (fun b2 q3 q4 => q ?_))
        rw [hd] at q3
        cases q3
        rw [q4]
  · show bX6_callTo_7 M (nI p) (nI g) (nI x) _ _ (accU (ct N g x) (nR N * nL N)) (nI (nR N * nL N))
    unfold bX6_callTo_7
    rw [cl6 hp, hm.1.2.1, hm.1.2.2, nI_mul, eN]
    exact ⟨in6 hp, in6 hp, fun _ => h, fun q => absurd (nI_le (a := nR N * nL N) (Nat.le_refl _) (by omega)) q⟩
end WM2
