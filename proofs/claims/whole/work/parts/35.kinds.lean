theorem RN_up {g : Nat → Option Ob} {md ln ou dd out by_ md2 ln2 ou2 dd2 out2 by2 : Nat → Int32} (h : RN g md ln ou dd out by_) {p : Nat} {z : Option Ob} (hz : match z with | none => md2 p = 0 | some z => ∃ N, NWf N ∧ CRep N z.2.2.1 z.2.2.2 ∧ MRep N p md2 ln2 ou2 dd2 out2 by2)
    (h1 : ∀ j, j < 6 → j ≠ p → md2 j = md j ∧ ln2 j = ln j ∧ ou2 j = ou j) (h2 : ∀ j k, j < 6 → j ≠ p → k < 12 → dd2 (12 * j + k) = dd (12 * j + k)) (h3 : ∀ j k, j < 6 → j ≠ p → k < 36 → out2 (36 * j + k) = out (36 * j + k) ∧ by2 (36 * j + k) = by_ (36 * j + k)) : RN (va_up g p z) md2 ln2 ou2 dd2 out2 by2 := by
  intro j hj
  by_cases e : j = p
  · subst e
    rw [show va_up g j z j = z from if_pos rfl]
    exact hz
  · rw [va_up_ne _ _ e]
    have := h j hj
    obtain ⟨a1, a2, a3⟩ := h1 j hj e
    cases hg : g j with
    | none =>
      rw [hg] at this
      show md2 j = 0
      rw [a1]
      exact this
    | some w =>
      rw [hg] at this
      obtain ⟨N, k1, k2, ⟨m1, m2, m3⟩, m4, m5, m6⟩ := this
      have hM := k1.1
      refine ⟨N, k1, k2, ⟨by rw [a1]; exact m1, by rw [a2]; exact m2, by rw [a3]; exact m3⟩, fun x hx => ?_, fun a ha => ?_, fun a b x ha hc => ?_⟩
      · rw [h2 j x hj e (by omega)]
        exact m4 x hx
      · rw [(h3 j a hj e ha).1]
        exact m5 a ha
      · rw [(h3 j a hj e ha).2]
        exact m6 a b x ha hc
theorem st_5 : stepOK_5 Rel := by
  intro T M a1 h
  obtain ⟨hS, hN, hA, hF⟩ := h
  simp only [pX5_clear, pX6_clear, pl5_iff, pl6_iff, forall_eq]
  by_cases h1 : 0 ≤ a1.toInt ∧ a1.toInt ≤ 5
  · obtain ⟨p, hp, rfl⟩ := nI_rg (n := 6) h1.1 (by omega) (by omega)
    simp only [if_pos h1, one_ne, imp_F, not_F, imp_T, true_and, cl6 hp, in6 hp, sA_uF]
    have hN2 : RN (va_up (tN T) p none) (upd (sA M 5) p 0) (sA M 6) (sA M 7) (sA M 8) (sA M 9) (sA M 10) := RN_up hN (z := none) (upd_same _ _ _) (fun j hj e => ⟨upd_other _ _ e, rfl, rfl⟩) (fun j k hj e hk => rfl) (fun j k hj e hk => ⟨rfl, rfl⟩)
    rcases net_at hN hp with ⟨e1, e2⟩ | ⟨o, a, l, t, N, e1, hw, hc, hm⟩
    · simp only [e1, e2, none_n, ob_n, imp_T, and_true]
      exact ⟨fun _ => ⟨hS, hN2, hA, hF⟩, fun q => absurd (by decide) q⟩
    · simp only [e1, some_n, ob_e, imp_F, true_and, hm.1.1, m_pos hw, imp_F, not_F, imp_T, and_true]
      exact ⟨hS, hN2, hA, hF⟩
  · simp only [if_neg h1, zero_eq, imp_F, not_T, imp_T, and_true, true_and]
    exact ⟨hS, hN, hA, hF⟩
theorem st_6 : stepOK_6 Rel := by
  intro T M a1 h
  obtain ⟨hS, hN, hA, hF⟩ := h
  simp only [pX5_kind, pX6_kind, pl5_iff, pl6_iff, forall_eq, pX6_look, pX5_found, pX6_found, pX5_fine]
  by_cases h1 : 0 ≤ a1.toInt ∧ a1.toInt ≤ 5
  · obtain ⟨p, hp, rfl⟩ := nI_rg (n := 6) h1.1 (by omega) (by omega)
    simp only [if_pos h1, one_ne, imp_F, not_F, imp_T, true_and, cl6 hp, in6 hp, sA_uF]
    rcases net_at hN hp with ⟨e1, e2⟩ | ⟨o, a, l, t, N, e1, hw, hc, hm⟩
    · simp only [e1, e2, none_n, ob_n, imp_T, and_true, zero_eq, not_T, imp_F]
      exact ⟨fun q => absurd q (by decide), fun _ => ⟨hS, hN, hA, rfl⟩⟩
    · simp only [e1, some_n, ob_e, imp_F, true_and]
      refine c_kind hw hc ?_
      simp only [hm.1.1, m_ne0 hw, imp_F, not_F, imp_T, true_and]
      refine ⟨fun _ => m_kind (M := uF (uF M 0 0) 1 0) hp hw hm ⟨rfl, hS, hN, hA, rfl⟩, fun q => absurd (by decide) q⟩
  · simp only [if_neg h1, zero_eq, imp_F, not_T, imp_T, and_true, true_and]
    exact ⟨hS, hN, hA, hF⟩
theorem l32_3 : (3 : Int32).toInt = 3 := by decide
theorem l64_3 : (3 : Int64).toInt = 3 := by decide
theorem ca_bit (a b : Int32) : caF a b = 0 ∨ caF a b = 1 := by
  unfold caF
  by_cases h : b = 0 ∨ a = b ∨ (b = 1 ∧ a = 2)
  · rw [if_pos h]; exact Or.inr rfl
  · rw [if_neg h]; exact Or.inl rfl
theorem st_7 : stepOK_7 Rel := by
  intro T M a1 a2 h
  obtain ⟨hS, hN, hA, hF⟩ := h
  simp only [pX5_is, pX6_is, pl5_iff, pl6_iff, kd5_iff, in_iff, forall_eq, Int32.toInt_toInt64, l64_0, l64_3]
  by_cases h1 : 0 ≤ a1.toInt ∧ a1.toInt ≤ 5
  · obtain ⟨p, hp, rfl⟩ := nI_rg (n := 6) h1.1 (by omega) (by omega)
    by_cases h2 : 0 ≤ a2.toInt ∧ a2.toInt ≤ 3
    · simp only [if_pos h1, if_pos h2, one_ne, imp_F, not_F, imp_T, true_and, cl6 hp, in6 hp, sA_uF]
      rcases net_at hN hp with ⟨e1, e2⟩ | ⟨o, a, l, t, N, e1, hw, hc, hm⟩
      · simp only [e1, e2, none_n, ob_n, imp_T, and_true]
        exact ⟨fun _ => ⟨hS, hN, hA, hF⟩, fun q => absurd (by decide) q⟩
      · simp only [e1, some_n, ob_e, imp_F, true_and]
        refine c_kind hw hc ?_
        simp only [hm.1.1, m_pos hw, imp_F, not_F, imp_T, true_and, caF_iff]
        rcases ca_bit (kdN N) a2 with q | q
        · simp only [q, zero_eq, not_T, imp_F, imp_T, and_true]
          refine m_kind (M := uF M 0 0) hp hw hm ?_
          rw [isOf_iff, q]
          exact ⟨fun _ => ⟨hS, hN, hA, hF⟩, fun q => absurd rfl q⟩
        · simp only [q, one_ne, not_F, imp_F, imp_T, true_and]
          refine m_kind (M := uF M 0 0) hp hw hm ?_
          rw [isOf_iff, q]
          exact ⟨fun q => absurd q (by decide), fun _ => ⟨hS, hN, hA, hF⟩⟩
    · simp only [if_pos h1, if_neg h2, one_ne, zero_eq, imp_F, not_F, not_T, imp_T, and_true, true_and]
      exact ⟨hS, hN, hA, hF⟩
  · simp only [if_neg h1, zero_eq, imp_F, not_T, imp_T, and_true, true_and]
    exact ⟨hS, hN, hA, hF⟩
theorem st_8 : stepOK_8 Rel := by
  intro T M a1 a2 h
  obtain ⟨hS, hN, hA, hF⟩ := h
  simp only [pX5_as, pX6_as, pl5_iff, pl6_iff, kd5_iff, in_iff, forall_eq, Int32.toInt_toInt64, l64_0, l64_3, pX6_look, pX5_found, pX6_found, pX5_fine]
  by_cases h1 : 0 ≤ a1.toInt ∧ a1.toInt ≤ 5
  · obtain ⟨p, hp, rfl⟩ := nI_rg (n := 6) h1.1 (by omega) (by omega)
    by_cases h2 : 0 ≤ a2.toInt ∧ a2.toInt ≤ 3
    · simp only [if_pos h1, if_pos h2, one_ne, imp_F, not_F, imp_T, true_and, cl6 hp, in6 hp, sA_uF]
      rcases net_at hN hp with ⟨e1, e2⟩ | ⟨o, a, l, t, N, e1, hw, hc, hm⟩
      · simp only [e1, e2, none_n, ob_n, imp_T, and_true, zero_eq, not_T, imp_F]
        exact ⟨fun q => absurd q (by decide), fun _ => ⟨hS, hN, hA, rfl⟩⟩
      · simp only [e1, some_n, ob_e, imp_F, true_and]
        refine c_kind hw hc ?_
        simp only [hm.1.1, m_ne0 hw, imp_F, not_F, imp_T, true_and, caF_iff, hc.1.2.2.2.2.1]
        rcases ca_bit (kdN N) a2 with q | q
        · simp only [q, zero_eq, not_T, imp_F, imp_T, and_true]
          refine ⟨fun _ => m_kind (M := uF (uF M 0 0) 1 0) hp hw hm ?_, fun q => absurd (by decide) q⟩
          rw [isOf_iff, q]
          exact ⟨fun _ => ⟨hS, hN, hA, rfl⟩, fun q => absurd rfl q⟩
        · simp only [q, one_ne, not_F, imp_F, imp_T, true_and]
          refine ⟨fun _ => m_kind (M := uF (uF M 0 0) 1 0) hp hw hm ?_, fun q => absurd (by decide) q⟩
          rw [isOf_iff, q]
          exact ⟨fun q => absurd q (by decide), fun _ => m_alive (M := uF (uF M 0 0) 1 0) hp hw hm ⟨rfl, hS, hN, hA, rfl⟩⟩
    · simp only [if_pos h1, if_neg h2, one_ne, zero_eq, imp_F, not_F, not_T, imp_T, and_true, true_and]
      exact ⟨hS, hN, hA, hF⟩
  · simp only [if_neg h1, zero_eq, imp_F, not_T, imp_T, and_true, true_and]
    exact ⟨hS, hN, hA, hF⟩
