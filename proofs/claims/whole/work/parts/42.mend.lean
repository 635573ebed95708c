theorem nar_b0 : vp_nar .boolean 0 = 0 := by decide
theorem nar_b1 : vp_nar .boolean 1 = 1 := by decide
theorem Nd_same {N : NSt} {x : Nat} (hd : nD N x = false) : Nd N x false = N := by
  obtain ⟨m, l, r, d, c⟩ := N
  unfold Nd nM nL nR nD nC
  simp only [Prod.mk.injEq, true_and, and_true]
  funext y
  by_cases e : y = x
  · rw [if_pos e, e]; exact hd.symm
  · rw [if_neg e]
theorem st_16 : stepOK_16 Rel := by
  intro T M a1 a2 h
  obtain ⟨hS, hN, hA, hF⟩ := h
  simp only [pX5_mend, pX6_mend, pl5_iff, pl6_iff, within_iff, in_iff, forall_eq, Int32.toInt_toInt64, l64_0, l64_1, l32_0, l32_1, pX6_look, pX5_found, pX6_found, pX5_fine]
  by_cases h1 : 0 ≤ a1.toInt ∧ a1.toInt ≤ 5
  · obtain ⟨p, hp, rfl⟩ := nI_rg (n := 6) h1.1 (by omega) (by omega)
    simp only [if_pos h1, one_ne, imp_F, not_F, imp_T, true_and, cl6 hp, in6 hp, sA_uF]
    rcases net_at hN hp with ⟨e1, e2⟩ | ⟨o, a, l, t, N, e1, hw, hc, hm⟩
    · simp only [e1, e2, none_n, ob_n, imp_T, and_true, zero_eq, not_T, imp_F]
      exact ⟨fun q => absurd q (by decide), fun _ => ⟨hS, hN, hA, rfl⟩⟩
    · have le0 : ((0 : Int32) ≤ 0) ↔ True := by decide
      have hm12 := hw.1
      simp only [e1, some_n, ob_e, imp_F, true_and, hm.1.1, m_ne0 hw, not_F, imp_T, c_hasMiddle hw hc, le0, not_T, and_true, tI_pred (n := nM N) (by omega)]
      by_cases h3 : 0 ≤ a2.toInt ∧ a2.toInt ≤ ((nM N : Nat) : Int) - 1
      · obtain ⟨x, hx, rfl⟩ := nI_rg (n := nM N) h3.1 (by omega) (by omega)
        have ix : ((12 : Int32) * nI p) + nI x = nI (12 * p + x) := by
          rw [show (12 : Int32) = nI 12 from rfl, nI_mul, nI_add]
        have vi : vp_in (nI (12 * p + x)) 72 := vp_in_nI (by omega) (by omega)
        have l4 : l 4 = nM N := hc.2.1.1
        have v4 : vp_in (nI x) (l 4) := by rw [l4]; exact vp_in_nI hx (by omega)
        have c4 := hc.2.2.1 x hx
        have d8 := hm.2.1 x hx
        simp only [if_pos h3, one_ne, imp_F, not_F, imp_T, true_and, nI_clamp (show x < 2 ^ 31 by omega), pX1_reviveMiddle, forall_eq, c4, dead_bit, nar_b0, v4, ix, vi, nI_clamp (show 12 * p + x < 2 ^ 31 by omega), sA_uF, d8, zero_eq, not_T, and_true]
        have key : ∀ (l2 : Nat → Nat) (t2 : St), CRep (Nd N x false) l2 t2 → Rel (uX (uN T p (some (o, a, l2, t2))) (uF (tX (uN T p (some (o, a, l2, t2)))) 5 0)) (uA (uF (uF M 0 0) 1 0) 8 (upd (sA M 8) (12 * p + x) 0)) := by
          intro l2 t2 h2
          refine ⟨hS, ?_, hA, rfl⟩
          refine RN_up hN (p := p) ⟨Nd N x false, mend_wf hw x, h2, set_mrep (v := false) hx hw hm⟩ (fun j hj e => ⟨rfl, rfl, rfl⟩) (fun j k hj e hk => ?_) (fun j k hj e hk => ⟨rfl, rfl⟩)
          exact upd_other _ _ (by omega)
        refine ⟨fun q => ?_, fun q => ?_⟩
        · refine ⟨fun _ => key l t ?_, fun q2 => absurd q q2⟩
          rw [Nd_same q]
          exact hc
        · have hdx : nD N x = true := by
            cases hh : nD N x with
            | true => rfl
            | false => exact absurd hh q
          refine ⟨fun q2 => absurd q2 q, fun _ => key l _ ?_⟩
          exact mend_crep hx hdx hw hc
      · simp only [if_neg h3, zero_eq, imp_F, not_T, imp_T, and_true, true_and]
        exact ⟨hS, hN, hA, hF⟩
  · simp only [if_neg h1, zero_eq, imp_F, not_T, imp_T, and_true, true_and]
    exact ⟨hS, hN, hA, hF⟩
