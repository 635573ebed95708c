/-- the net with the call of line a set to v -/
def Nc (N : NSt) (a : Nat) (v : Option (Nat × Nat)) : NSt := (nM N, nL N, nR N, nD N, va_up (nC N) a v)
theorem end_wf {N : NSt} (hw : NWf N) (a : Nat) : NWf (Nc N a none) := by
  obtain ⟨h1, h2, h3, h4, h5, h6, h7, h8⟩ := hw
  refine ⟨h1, h2, h3, fun a2 k => ?_, fun a2 b x k => h5 a2 b x (up_none k).2, fun a2 a3 b x x2 k k2 => h6 a2 a3 b x x2 (up_none k).2 (up_none k2).2, fun a2 a3 b b2 x k k2 => h7 a2 a3 b b2 x (up_none k).2 (up_none k2).2, fun a2 a3 b b2 x k k2 => h8 a2 a3 b b2 x (up_none k).2 (up_none k2).2⟩
  show va_up (nC N) a none a2 = none
  by_cases e : a2 = a
  · exact if_pos e
  · rw [va_up_ne _ _ e]
    exact h4 a2 k
theorem end_mrep {N : NSt} {p a : Nat} {md ln ou dd out by_ : Nat → Int32} (ha : a < 36) (hm : MRep N p md ln ou dd out by_) : MRep (Nc N a none) p md ln ou dd (upd out (36 * p + a) (-1000000)) by_ := by
  obtain ⟨h1, h2, h3, h4⟩ := hm
  refine ⟨h1, h2, fun a2 k => ?_, fun a2 b x k k2 => h4 a2 b x k (up_none k2).2⟩
  show upd out (36 * p + a) (-1000000) (36 * p + a2) = match va_up (nC N) a none a2 with | none => -1000000 | some q => nI q.1
  unfold upd
  by_cases e : a2 = a
  · rw [if_pos (by omega), e, show va_up (nC N) a none a = none from if_pos rfl]
  · rw [if_neg (by omega), va_up_ne _ _ e]
    exact h3 a2 k
theorem c_takeOff {N : NSt} {ln : Nat → Nat} {t : St} (hw : NWf N) (hc : CRep N ln t) {a : Nat} (ka : a < nR N * nL N) {Q : St → Prop} (h : ∀ t', CRep (Nc N a none) ln t' → sA t' 11 = sA t 11 → sA t' 12 = sA t 12 → Q t') : pX1_takeOff ln t (nI a) Q := by
  have k2 := rn_le hw
  obtain ⟨hb, hl⟩ := CRep_iff.mp hc
  have hb0 := hb
  obtain ⟨⟨f0, f1, f2, f3, f13, f14⟩, ⟨g4, g5, g6, g7, g8, g9, gr⟩, h4, h5, h7⟩ := hb0
  have e5 := h5 a ka
  unfold pX1_takeOff
  rw [g5, g7, nI_clamp (by omega)]
  refine ⟨vp_in_nI ka (by omega), ?_⟩
  rintro _ rfl
  cases hd : nC N a with
  | none =>
    rw [hd] at e5
    refine ⟨fun _ => h t ?_ rfl rfl, fun q => absurd e5 q⟩
    have : Nc N a none = N := by
      unfold Nc
      rw [← hd, va_upself]
      rfl
    rw [this]
    exact hc
  | some z =>
    obtain ⟨b, x⟩ := z
    rw [hd] at e5
    have e5' : sA t 5 a = nI b := e5
    obtain ⟨kb, kx, kd⟩ := hw.2.2.2.2.1 a b x hd
    rw [e5']
    refine ⟨fun q => absurd q (nI_none (by omega)), fun _ => ?_⟩
    refine c_leave hw hb (NWf_L hw) hl hd e5' (fun t8 t9 t6 hl2 => ⟨vp_in_nI ka (by omega), ?_⟩)
    rintro _ rfl
    refine ⟨vp_in_nI kb (by omega), ?_⟩
    rintro _ rfl _ rfl
    refine h _ (CRep_iff.mpr ⟨⟨⟨f0, f1, f2, f3, f13, ?_⟩, ⟨g4, g5, g6, g7, g8, g9, gr⟩, h4, fun a2 k => ?_, fun b2 k => ?_⟩, hl2⟩) rfl rfl
    · show sF t 14 - 1 = nI (cnt (fun j => (va_up (nC N) a none j).isSome) (nR N * nL N))
      rw [f14, cnt_up (f := fun j => (va_up (nC N) a none j).isSome) (g := fun j => (nC N j).isSome) (x := a) (by rw [show va_up (nC N) a none a = none from if_pos rfl]; rfl) (by rw [hd]; rfl) (fun j hj => by rw [va_up_ne _ _ hj]) (nR N * nL N) ka]
      exact nI_sub (b := 1) (by omega)
    · show upd (sA t 5) a (-1000000) a2 = match va_up (nC N) a none a2 with | none => -1000000 | some q => nI q.1
      unfold upd
      by_cases e : a2 = a
      · rw [if_pos e, e, show va_up (nC N) a none a = none from if_pos rfl]
      · rw [if_neg e, va_up_ne _ _ e]
        exact h5 a2 k
    · show (upd (sA t 7) (nI b).toNatClampNeg (vp_nar .boolean 0) b2 = 1 ∧ ∃ a2 x2, va_up (nC N) a none a2 = some (b2, x2)) ∨ (upd (sA t 7) (nI b).toNatClampNeg (vp_nar .boolean 0) b2 = 0 ∧ ∀ a2 x2, va_up (nC N) a none a2 ≠ some (b2, x2))
      rw [nI_clamp (by omega), nar_b0]
      by_cases e : b2 = b
      · subst e
        refine Or.inr ⟨upd_same _ _ _, fun a2 x2 q => ?_⟩
        obtain ⟨q1, q2⟩ := up_none q
        exact q1 (hw.2.2.2.2.2.1 a2 a b2 x2 x q2 hd)
      · rw [upd_other _ _ e]
        rcases h7 b2 k with ⟨q1, a2, x2, q2⟩ | ⟨q1, q2⟩
        · refine Or.inl ⟨q1, a2, x2, ?_⟩
          rw [va_up_ne _ _ (fun q => ?_)]
          · exact q2
          · rw [q, hd] at q2
            cases q2
            exact e rfl
        · exact Or.inr ⟨q1, fun a2 x2 q => q2 a2 x2 (up_none q).2⟩
theorem st_12 : stepOK_12 Rel := by
  intro T M a1 a2 h
  obtain ⟨hS, hN, hA, hF⟩ := h
  simp only [pX5_end, pX6_end, pl5_iff, pl6_iff, within_iff, in_iff, forall_eq, Int32.toInt_toInt64, l64_0, l64_1, l32_0, l32_1, pX6_look, pX5_found, pX6_found, pX5_fine]
  by_cases h1 : 0 ≤ a1.toInt ∧ a1.toInt ≤ 5
  · obtain ⟨p, hp, rfl⟩ := nI_rg (n := 6) h1.1 (by omega) (by omega)
    simp only [if_pos h1, one_ne, imp_F, not_F, imp_T, true_and, cl6 hp, in6 hp, sA_uF]
    rcases net_at hN hp with ⟨e1, e2⟩ | ⟨o, a, l, t, N, e1, hw, hc, hm⟩
    · simp only [e1, e2, none_n, ob_n, imp_T, and_true, zero_eq, not_T, imp_F]
      exact ⟨fun q => absurd q (by decide), fun _ => ⟨hS, hN, hA, rfl⟩⟩
    · have hM : MRep N p (sA (uF (uF M 0 0) 1 0) 5) (sA (uF (uF M 0 0) 1 0) 6) (sA (uF (uF M 0 0) 1 0) 7) (sA (uF (uF M 0 0) 1 0) 8) (sA (uF (uF M 0 0) 1 0) 9) (sA (uF (uF M 0 0) 1 0) 10) := hm
      have le0 : ((0 : Int32) ≤ 0) ↔ True := by decide
      simp only [e1, some_n, ob_e, imp_F, true_and, hm.1.1, m_ne0 hw, not_F, imp_T, c_hasLine hw hc, m_isLine hp hw hM, le0, not_T, and_true]
      by_cases h3 : 0 ≤ a2.toInt ∧ a2.toInt ≤ ((nR N * nL N : Nat) : Int) - 1
      · have hr := rn_le hw
        obtain ⟨c, hc2, rfl⟩ := nI_rg (n := nR N * nL N) h3.1 (by omega) (by omega)
        have e5 := hc.2.2.2.1 c hc2
        have d5 := hm.2.2.1 c (by omega)
        have ix : ((36 : Int32) * nI p) + nI c = nI (36 * p + c) := by
          rw [show (36 : Int32) = nI 36 from rfl, nI_mul, nI_add]
        have vi : vp_in (nI (36 * p + c)) 216 := vp_in_nI (by omega) (by omega)
        have l5 : l 5 = nR N * nL N := hc.2.1.2.1
        have v5 : vp_in (nI c) (l 5) := by rw [l5]; exact vp_in_nI hc2 (by omega)
        simp only [if_pos h3, one_ne, imp_F, not_F, imp_T, true_and, nI_clamp (show c < 2 ^ 31 by omega), ix, vi, v5, nI_clamp (show 36 * p + c < 2 ^ 31 by omega), sA_uF, e5, d5]
        refine c_takeOff hw hc hc2 (fun t' hc' _ _ => ⟨hS, ?_, hA, rfl⟩)
        refine RN_up hN (p := p) ⟨Nc N c none, end_wf hw c, hc', end_mrep (by omega) hm⟩ (fun j hj e => ⟨rfl, rfl, rfl⟩) (fun j k hj e hk => rfl) (fun j k hj e hk => ⟨?_, rfl⟩)
        exact upd_other _ _ (by omega)
      · simp only [if_neg h3, zero_eq, imp_F, not_T, imp_T, and_true, true_and]
        exact ⟨hS, hN, hA, hF⟩
  · simp only [if_neg h1, zero_eq, imp_F, not_T, imp_T, and_true, true_and]
    exact ⟨hS, hN, hA, hF⟩
