/-! the model's die -/
section DM
variable {N : NSt} {p : Nat} {M : St}
theorem m_j161 (hp : p < 6) (hw : NWf N) {x a : Nat} (ha : a < 36) {f17 f9 : Nat → Int32} (h17 : ∀ j, j < a → f17 j = if mdl N j x = true then nI (bx N j) else -1000000) (h9 : ∀ j, j < 36 → f9 (36 * p + j) = match nC (kN N x a) j with | none => -1000000 | some q => nI q.1) (h9b : ∀ j k, j ≠ p → k < 36 → f9 (36 * j + k) = sA M 9 (36 * j + k)) {x2 u0 : Int32} (hu : u0 = if mdl N a x = true then nI (bx N a) else -1000000) {K : St → Int32 → Prop} (h : ∀ g17 g9, (∀ j, j < a + 1 → g17 j = if mdl N j x = true then nI (bx N j) else -1000000) → (∀ j, j < 36 → g9 (36 * p + j) = match nC (kN N x (a + 1)) j with | none => -1000000 | some q => nI q.1) → (∀ j k, j ≠ p → k < 36 → g9 (36 * j + k) = sA M 9 (36 * j + k)) → K (uA (uA M 17 g17) 9 g9) (nI (a + 1))) : jX6_die_161 K (uA (uA M 17 f17) 9 f9) (nI p) x2 (nI a) u0 (nI a) := by
  obtain ⟨v1, v2⟩ := m_call36 (p := p) (a := a) hp ha
  have va : vp_in (nI a) 36 := vp_in_nI ha (by omega)
  unfold jX6_die_161
  refine ⟨va, ?_⟩
  rintro _ rfl
  rw [v2, nI_clamp (by omega), nI_s1]
  have hn : ∀ j, j < a + 1 → upd f17 a u0 j = if mdl N j x = true then nI (bx N j) else -1000000 := by
    intro j hj
    by_cases e : j = a
    · rw [e, upd_same]
      exact hu
    · rw [upd_other _ _ e]
      exact h17 j (by omega)
  have es : ∀ g9, uA (uA (uA (uA M 17 f17) 9 f9) 17 (upd f17 a u0)) 9 g9 = uA (uA M 17 (upd f17 a u0)) 9 g9 := by
    intro g9
    unfold uA
    simp only [Prod.mk.injEq, true_and, and_true]
    funext j
    unfold va_up
    by_cases e : j = 9
    · simp only [if_pos e]
    · by_cases e2 : j = 17
      · simp only [if_neg e, if_pos e2]
      · simp only [if_neg e, if_neg e2]
  refine ⟨va, fun q => ⟨v1, v1, ?_⟩, fun q => ⟨v1, ?_⟩⟩
  · rintro _ rfl _ rfl
    have q' : upd f17 a u0 a = -1000000 := q
    have hmd : mdl N a x = false := by
      cases e : mdl N a x with
      | false => rfl
      | true =>
        rw [upd_same, hu, e] at q'
        obtain ⟨b, hb⟩ := mdl_iff.mp e
        have := (NWf_L hw).1 a b x hb
        have hr := rn_le hw
        have q2 : nI (bx N a) = -1000000 := q'
        rw [bx_eq hb] at q2
        exact absurd q2 (nI_none (by omega))
    have := h (upd f17 a u0) (upd f9 (36 * p + a) (f9 (36 * p + a))) hn (fun j hj => ?_) (fun j k hj hk => ?_)
    · rw [← es] at this
      exact this
    · rw [kN_n hmd]
      by_cases e : j = a
      · rw [e, upd_same]
        exact h9 a ha
      · rw [upd_other _ _ (by omega)]
        exact h9 j hj
    · rw [upd_other _ _ (by omega)]
      exact h9b j k hj hk
  · rintro _ rfl _ rfl
    have q' : ¬ upd f17 a u0 a = -1000000 := q
    have hmd : mdl N a x = true := by
      cases e : mdl N a x with
      | true => rfl
      | false =>
        rw [upd_same, hu, e] at q'
        exact absurd rfl q'
    have := h (upd f17 a u0) (upd f9 (36 * p + a) (-1000000)) hn (fun j hj => ?_) (fun j k hj hk => ?_)
    · rw [← es] at this
      exact this
    · rw [← kN_y hmd]
      show _ = match va_up (nC (kN N x a)) a none j with | none => -1000000 | some q => nI q.1
      by_cases e : j = a
      · rw [e, upd_same, show va_up (nC (kN N x a)) a none a = none from if_pos rfl]
      · rw [upd_other _ _ (by omega), va_up_ne _ _ e]
        exact h9 j hj
    · rw [upd_other _ _ (by omega)]
      exact h9b j k hj hk
theorem m_off (hp : p < 6) (hw : NWf N) (hm : MR N p M) {x : Nat} (hx : x < nM N) {M1 : St} (h9 : sA M1 9 = sA M 9) (h10 : sA M1 10 = sA M 10) {Q : St → Prop} (h : ∀ g17 g9, (∀ j, j < 36 → g17 j = if mdl N j x = true then nI (bx N j) else -1000000) → (∀ j, j < 36 → g9 (36 * p + j) = match nC (kN N x 36) j with | none => -1000000 | some q => nI q.1) → (∀ j k, j ≠ p → k < 36 → g9 (36 * j + k) = sA M1 9 (36 * j + k)) → Q (uA (uA M1 17 g17) 9 g9)) : lX6_die_98 (nI p) (nI x) Q M1 0 := by
  have hr := rn_le hw
  have k3 := hw.1
  unfold lX6_die_98
  refine lp_of (I := fun q => ∃ a f17 f9, a ≤ 36 ∧ q = (uA (uA M1 17 f17) 9 f9, nI a) ∧ (∀ j, j < a → f17 j = if mdl N j x = true then nI (bx N j) else -1000000) ∧ (∀ j, j < 36 → f9 (36 * p + j) = match nC (kN N x a) j with | none => -1000000 | some q => nI q.1) ∧ (∀ j k, j ≠ p → k < 36 → f9 (36 * j + k) = sA M1 9 (36 * j + k))) (μ := fun q => 36 - q.2.toNatClampNeg) ?_ _ ⟨0, sA M1 17, sA M1 9, by omega, by rw [uA_self, uA_self]; rfl, fun j hj => absurd hj (Nat.not_lt_zero j), fun j hj => ?_, fun _ _ _ _ => rfl⟩
  · rintro q ⟨a, f17, f9, ha, rfl, i1, i2, i3⟩ K hK
    show bX6_die_98 (nI p) (nI x) _ _ (uA (uA M1 17 f17) 9 f9) (nI a)
    unfold bX6_die_98
    by_cases e : a = 36
    · subst e
      exact ⟨fun _ => h f17 f9 i1 i2 i3, fun q => absurd (nI_le (a := 36) (b := 36) (Nat.le_refl _) (by omega)) q⟩
    · have ha2 : a < 36 := by omega
      obtain ⟨v1, v2⟩ := m_call36 (p := p) (a := a) hp ha2
      have i9 := i2 a ha2
      rw [kN_at] at i9
      have s10 : sA (uA (uA M1 17 f17) 9 f9) 10 = sA M 10 := h10
      have s9 : sA (uA (uA M1 17 f17) 9 f9) 9 = f9 := rfl
      have next : ∀ u0, u0 = (if mdl N a x = true then nI (bx N a) else -1000000) → jX6_die_161 (fun s x5 => K (s, x5)) (uA (uA M1 17 f17) 9 f9) (nI p) (nI x) (nI a) u0 (nI a) := by
        intro u0 hu
        refine m_j161 hp hw ha2 i1 i2 i3 hu (fun g17 g9 j1 j2 j3 => ?_)
        refine hK _ ⟨a + 1, g17, g9, by omega, rfl, j1, j2, j3⟩ ?_
        show 36 - (nI (a + 1)).toNatClampNeg < 36 - (nI a).toNatClampNeg
        rw [nI_clamp (by omega), nI_clamp (by omega)]
        omega
      rw [s10, s9, v2, i9]
      refine ⟨fun q => absurd q (nI_ge (b := 36) ha2 (by omega)), fun _ => ⟨v1, fun q => ?_, fun q => ⟨v1, fun q2 => ⟨v1, ?_⟩, fun q2 => ?_⟩⟩⟩
      · refine next _ ?_
        cases e2 : mdl N a x with
        | false => rfl
        | true =>
          obtain ⟨b, hb⟩ := mdl_iff.mp e2
          have := (NWf_L hw).1 a b x hb
          rw [hb] at q
          exact absurd q (nI_none (by omega))
      · cases hd : nC N a with
        | none =>
          rw [hd] at q
          exact absurd rfl q
        | some z =>
          obtain ⟨b, y⟩ := z
          have hz := hw.2.2.2.2.1 a b y hd
          rw [hm.2.2.2 a b y ha2 hd] at q2
          have e2 : y = x := (nI_eq (by omega) (by omega)).mp q2
          subst e2
          refine next _ ?_
          rw [mdl_iff.mpr ⟨b, hd⟩, bx_eq hd]
          rfl
      · refine next _ ?_
        cases e2 : mdl N a x with
        | false => rfl
        | true =>
          obtain ⟨b, hb⟩ := mdl_iff.mp e2
          rw [hm.2.2.2 a b x ha2 hb] at q2
          exact absurd rfl q2
  · have : nC (kN N x 0) j = nC N j := by
      rw [kN_C, decide_eq_false (Nat.not_lt_zero j)]
      rfl
    rw [this, h9]
    exact hm.2.2.1 j hj
theorem m_anew (hp : p < 6) (hw : NWf N) {x : Nat} {M1 : St} (hm1 : MR (kil N x) p M1) (h17 : ∀ j, j < 36 → sA M1 17 j = if mdl N j x = true then nI (bx N j) else -1000000) {Q : Int32 → St → Prop} (h : ∀ M2, MR (reF N x 36).1 p M2 → frM p M1 M2 → Q (nI (reF N x 36).2) M2) : lX6_die_215 (nI p) (fun (s : St) (z : Int32) => Q z s) M1 0 0 := by
  have hr := rn_le hw
  unfold lX6_die_215
  refine lp_of (I := fun q => ∃ k M2, k ≤ 36 ∧ q = (M2, nI (reF N x k).2, nI k) ∧ MR (reF N x k).1 p M2 ∧ frM p M1 M2 ∧ sA M2 17 = sA M1 17) (μ := fun q => 36 - q.2.2.toNatClampNeg) ?_ _ ⟨0, M1, by omega, rfl, hm1, frM_r p M1, rfl⟩
  rintro q ⟨k, M2, hk, rfl, hm2, hf, hs⟩ K hK
  show bX6_die_215 (nI p) _ _ M2 (nI (reF N x k).2) (nI k)
  unfold bX6_die_215
  by_cases e : k = 36
  · subst e
    exact ⟨fun _ => h M2 hm2 hf, fun q => absurd (nI_le (a := 36) (b := 36) (Nat.le_refl _) (by omega)) q⟩
  · have hk2 : k < 36 := by omega
    have vk : vp_in (nI k) 36 := vp_in_nI hk2 (by omega)
    have next : ∀ M3 v, v = (reF N x (k + 1)).2 → MR (reF N x (k + 1)).1 p M3 → frM p M1 M3 → sA M3 17 = sA M1 17 → K (M3, nI v, nI (k + 1)) := by
      rintro M3 _ rfl a1 a2 a3
      refine hK _ ⟨k + 1, M3, by omega, rfl, a1, a2, a3⟩ ?_
      show 36 - (nI (k + 1)).toNatClampNeg < 36 - (nI k).toNatClampNeg
      rw [nI_clamp (by omega), nI_clamp (by omega)]
      omega
    rw [hs, nI_clamp (by omega), h17 k hk2, nI_s1, nI_s1, show nI (reF N x k).2 + 0 = nI (reF N x k).2 from nI_add _ 0]
    refine ⟨fun q => absurd q (nI_ge (b := 36) hk2 (by omega)), fun _ => ⟨vk, fun q => ?_, fun q => ⟨vk, ?_⟩⟩⟩
    · rintro _ rfl
      have hmd : mdl N k x = false := by
        cases e : mdl N k x with
        | false => rfl
        | true =>
          rw [e] at q
          obtain ⟨b, hb⟩ := mdl_iff.mp e
          have := (NWf_L hw).1 k b x hb
          have q2 : nI (bx N k) = -1000000 := q
          rw [bx_eq hb] at q2
          exact absurd q2 (nI_none (by omega))
      refine next M2 _ (by rw [re_n hmd]) (by rw [re_n hmd]; exact hm2) hf hs
    · have hmd : mdl N k x = true := by
        cases e : mdl N k x with
        | true => rfl
        | false =>
          rw [e] at q
          exact absurd rfl q
      rw [if_pos hmd]
      obtain ⟨w1, w2, w3, w4⟩ := re_free hw (x := x) (k := k) hmd
      have wk := (re_inv hw (x := x) k).1
      have em := enM_iff (o := suR (reF N x k).1 k (bx N k)) (fun a e => suR_lt wk e)
      refine m_setUp hp wk hm2 w3 w4 (fun M3 hm3 hf3 hs3 => ⟨fun q2 => ?_, fun q2 => ?_⟩)
      · rintro _ rfl _ rfl
        refine next M3 _ ?_ (by rw [re_y hmd]; exact hm3) (frM_t hf hf3) (hs3.trans hs)
        rw [re_y hmd]
        show _ = (reF N x k).2 + (if suR (reF N x k).1 k (bx N k) = none then 1 else 0)
        rw [if_pos (em.mp q2)]
      · rintro _ rfl _ rfl
        refine next M3 _ ?_ (by rw [re_y hmd]; exact hm3) (frM_t hf hf3) (hs3.trans hs)
        rw [re_y hmd]
        show _ = (reF N x k).2 + (if suR (reF N x k).1 k (bx N k) = none then 1 else 0)
        rw [if_neg (fun q3 => q2 (em.mpr q3))]
        rfl
theorem m_die (hp : p < 6) (hw : NWf N) (hm : MR N p M) {x : Nat} (hx : x < nM N) {Q : Int32 → St → Prop} (h : ∀ M2, MR (reF N x (nR N * nL N)).1 p M2 → frM p M M2 → Q (nI (reF N x (nR N * nL N)).2) M2) : lX6_die_98 (nI p) (nI x) (fun (s_209 : St) => lX6_die_215 (nI p) (fun (s_269 : St) (z269_5 : Int32) => Q z269_5 s_269) s_209 0 0) (uA M 8 (upd (sA M 8) (12 * p + x) 1)) 0 := by
  have hr := rn_le hw
  have k3 := hw.1
  have he : reF N x 36 = reF N x (nR N * nL N) := by
    have := re_gap (N := N) (x := x) (k := nR N * nL N) (36 - nR N * nL N) (fun a h1 h2 => by
      cases e : mdl N a x with
      | false => rfl
      | true => have := mdl_lt hw e; omega)
    rw [show nR N * nL N + (36 - nR N * nL N) = 36 by omega] at this
    exact this
  refine m_off hp hw hm hx (M1 := uA M 8 (upd (sA M 8) (12 * p + x) 1)) rfl rfl (fun g17 g9 j1 j2 j3 => ?_)
  refine m_anew hp hw (x := x) (M1 := uA (uA (uA M 8 (upd (sA M 8) (12 * p + x) 1)) 17 g17) 9 g9) ?_ j1 (fun M2 hm2 hf2 => ?_)
  · refine ⟨hm.1, fun y hy => ?_, fun a ha => ?_, fun a b y ha hy => ?_⟩
    · show upd (sA M 8) (12 * p + x) 1 (12 * p + y) = if (if y = x then true else nD N y) = true then 1 else 0
      unfold upd
      by_cases e : y = x
      · rw [if_pos (by omega), if_pos e]; rfl
      · rw [if_neg (by omega), if_neg e]
        exact hm.2.1 y hy
    · show g9 (36 * p + a) = _
      rw [j2 a ha, kN_end hw x (n := 36) (by omega)]
      rfl
    · show sA M 10 (36 * p + a) = nI y
      rw [kil_C] at hy
      by_cases e : mdl N a x = true
      · rw [if_pos e] at hy
        cases hy
      · rw [if_neg e] at hy
        exact hm.2.2.2 a b y ha hy
  · rw [he] at hm2
    have := h M2 hm2 ?_
    · rw [he]
      exact this
    · refine frM_t (B := uA (uA (uA M 8 (upd (sA M 8) (12 * p + x) 1)) 17 g17) 9 g9) ⟨fun k h8 h9 h10 h14 h17 => ?_, fun k _ => rfl, fun j k hj hk => ?_, fun j k hj hk => ?_⟩ hf2
      · show sA (uA (uA (uA M 8 _) 17 _) 9 _) k = sA M k
        rw [sA_uA, if_neg h9, sA_uA, if_neg h17, sA_uA, if_neg h8]
      · show upd (sA M 8) (12 * p + x) 1 (12 * j + k) = sA M 8 (12 * j + k)
        rw [upd_other _ _ (by omega)]
      · exact ⟨j3 j k hj hk, rfl⟩
end DM
theorem st_15 : stepOK_15 Rel := by
  intro T M a1 a2 hR
  have h := hR
  obtain ⟨hS, hN, hA, hF⟩ := h
  simp only [pX5_die, pX6_die, pl5_iff, pl6_iff, within_iff, in_iff, forall_eq, Int32.toInt_toInt64, l64_0, l64_1, l32_0, l32_1, pX6_look, pX5_found, pX6_found, pX5_fine]
  by_cases h1 : 0 ≤ a1.toInt ∧ a1.toInt ≤ 5
  · obtain ⟨p, hp, rfl⟩ := nI_rg (n := 6) h1.1 (by omega) (by omega)
    simp only [if_pos h1, one_ne, imp_F, not_F, imp_T, true_and, cl6 hp, in6 hp, sA_uF]
    rcases net_at hN hp with ⟨e1, e2⟩ | ⟨o, a, l, t, N, e1, hw, hc, hm⟩
    · simp only [e1, e2, none_n, ob_n, imp_T, and_true, zero_eq, not_T, imp_F]
      exact ⟨fun q => absurd q (by decide), fun _ => ⟨hS, hN, hA, rfl⟩⟩
    · have le0 : ((0 : Int32) ≤ 0) ↔ True := by decide
      have hm12 := hw.1
      have hM : MR N p (uF (uF M 0 0) 1 0) := hm
      simp only [e1, some_n, ob_e, imp_F, true_and, hm.1.1, m_ne0 hw, not_F, imp_T, c_hasMiddle hw hc, le0, not_T, and_true, tI_pred (n := nM N) (by omega)]
      by_cases h3 : 0 ≤ a2.toInt ∧ a2.toInt ≤ ((nM N : Nat) : Int) - 1
      · obtain ⟨x, hx, rfl⟩ := nI_rg (n := nM N) h3.1 (by omega) (by omega)
        have ix : ((12 : Int32) * nI p) + nI x = nI (12 * p + x) := by
          rw [show (12 : Int32) = nI 12 from rfl, nI_mul, nI_add]
        have vi : vp_in (nI (12 * p + x)) 72 := vp_in_nI (by omega) (by omega)
        have l4 : l 4 = nM N := hc.2.1.1
        have v4 : vp_in (nI x) (l 4) := by rw [l4]; exact vp_in_nI hx (by omega)
        have c4 := hc.2.2.1 x hx
        have d8 := hm.2.1 x hx
        simp only [if_pos h3, one_ne, imp_F, not_F, imp_T, true_and, nI_clamp (show x < 2 ^ 31 by omega), c4, dead_bit, nar_b1, v4, ix, vi, nI_clamp (show 12 * p + x < 2 ^ 31 by omega), d8]
        refine ⟨fun q => c_kill hw hc hx q (fun t2 hc2 => ⟨fun _ => m_die hp hw hM hx (fun M2 hm2 hf => ⟨rfl, Rel_net hR (re_inv hw _).1 hc2 hm2 hf⟩), fun q2 => absurd q q2⟩), fun q => ⟨fun q2 => absurd q2 q, fun _ => ⟨hS, hN, hA, hF⟩⟩⟩
      · simp only [if_neg h3, zero_eq, imp_F, not_T, imp_T, and_true, true_and]
        exact ⟨hS, hN, hA, hF⟩
  · simp only [if_neg h1, zero_eq, imp_F, not_T, imp_T, and_true, true_and]
    exact ⟨hS, hN, hA, hF⟩
