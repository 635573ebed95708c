/-! free, call -/
def anyT (P : Nat → Bool) : Nat → Bool
  | 0 => false
  | k + 1 => anyT P k || P k
theorem anyT_iff {P : Nat → Bool} : ∀ {n : Nat}, anyT P n = true ↔ ∃ k, k < n ∧ P k = true
  | 0 => ⟨fun h => (nomatch h), fun ⟨k, h, _⟩ => absurd h (Nat.not_lt_zero _)⟩
  | n + 1 => by
    unfold anyT
    rw [Bool.or_eq_true, anyT_iff (n := n)]
    constructor
    · rintro (⟨k, h1, h2⟩ | h)
      · exact ⟨k, by omega, h2⟩
      · exact ⟨n, by omega, h⟩
    · rintro ⟨k, h1, h2⟩
      by_cases e : k = n
      · rw [← e]
        exact Or.inr h2
      · exact Or.inl ⟨k, by omega, h2⟩
def tkn (N : NSt) (b a : Nat) : Bool := match nC N a with | none => false | some q => decide (q.1 = b)
theorem tkn_iff {N : NSt} {a b : Nat} : tkn N b a = true ↔ ∃ x, nC N a = some (b, x) := by
  unfold tkn
  cases h : nC N a with
  | none => exact ⟨fun q => (nomatch q), fun ⟨x, q⟩ => (nomatch q)⟩
  | some z =>
    obtain ⟨c, y⟩ := z
    constructor
    · intro q
      have : c = b := of_decide_eq_true q
      exact ⟨y, by rw [this]⟩
    · rintro ⟨x, q⟩
      cases q
      exact decide_eq_true rfl
def bsy (N : NSt) (a b : Nat) : Bool := (nC N a).isSome || anyT (tkn N b) 36
section BY
variable {N : NSt} {ln : Nat → Nat} {t : St} {p : Nat} {M : St}
theorem bsy_no {a b : Nat} (hw : NWf N) (h : bsy N a b = false) : nC N a = none ∧ ∀ a2 x2, nC N a2 ≠ some (b, x2) := by
  have hr := rn_le hw
  unfold bsy at h
  rw [Bool.or_eq_false_iff] at h
  refine ⟨by simpa using h.1, fun a2 x2 q => ?_⟩
  have l := ((NWf_L hw).1 a2 b x2 q).1
  have := (anyT_iff (P := tkn N b) (n := 36)).mpr ⟨a2, by omega, tkn_iff.mpr ⟨x2, q⟩⟩
  rw [h.2] at this
  cases this
theorem c_busy (hw : NWf N) (hc : CRep N ln t) {a b : Nat} (ha : a < nR N * nL N) (hb : b < nR N * nL N) {Q : Int32 → Prop} (h : Q (bI (bsy N a b))) : pX1_isBusy ln t (nI a) (nI b) Q := by
  have hr := rn_le hw
  obtain ⟨hbr, hl⟩ := CRep_iff.mp hc
  obtain ⟨⟨f0, f1, f2, f3, f13, f14⟩, ⟨g4, g5, g6, g7, gr⟩, h4, h5, h7⟩ := hbr
  unfold pX1_isBusy
  rw [g5, g7, nI_clamp (by omega), nI_clamp (by omega), h5 a ha]
  refine ⟨vp_in_nI ha (by omega), fun q => ⟨vp_in_nI hb (by omega), fun q2 => ?_, fun q2 => ?_⟩, fun q => ?_⟩
  · have e1 : nC N a = none := by
      cases hd : nC N a with
      | none => rfl
      | some z =>
        rw [hd] at q
        have := hw.2.2.2.2.1 a z.1 z.2 hd
        exact absurd q (nI_none (by omega))
    have e2 : bsy N a b = false := by
      cases e : bsy N a b with
      | false => rfl
      | true =>
        unfold bsy at e
        rw [e1] at e
        have e' : anyT (tkn N b) 36 = true := e
        obtain ⟨k, _, hk⟩ := anyT_iff.mp e'
        obtain ⟨x, hx⟩ := tkn_iff.mp hk
        rcases h7 b hb with ⟨q3, _⟩ | ⟨_, q4⟩
        · rw [q3] at q2
          exact absurd q2 (by decide)
        · exact absurd hx (q4 k x)
    rw [e2] at h
    exact h
  · rcases h7 b hb with ⟨_, a2, x2, q4⟩ | ⟨q3, _⟩
    · have l := ((NWf_L hw).1 a2 b x2 q4).1
      have e2 : bsy N a b = true := by
        unfold bsy
        rw [(anyT_iff (P := tkn N b) (n := 36)).mpr ⟨a2, by omega, tkn_iff.mpr ⟨x2, q4⟩⟩, Bool.or_true]
      rw [e2] at h
      exact h
    · exact absurd q3 q2
  · have e2 : bsy N a b = true := by
      cases hd : nC N a with
      | none => rw [hd] at q; exact absurd rfl q
      | some z =>
        unfold bsy
        rw [hd]
        rfl
    rw [e2] at h
    exact h
theorem m_taken (hp : p < 6) (hw : NWf N) (hm : MR N p M) {a b : Nat} (ha : a < nR N * nL N) (hb : b < nR N * nL N) {Q : Int32 → Prop} (h : Q (bI (bsy N a b))) : pX6_isTaken M (nI p) (nI a) (nI b) Q := by
  have hr := rn_le hw
  have key : ∀ z : Bool, Q (bI (z || anyT (tkn N b) 36)) → lX6_isTaken_26 M (nI p) (nI b) (fun (z67_4 : Int32) => (narrow .boolean (.int z67_4) = .int z67_4) ∧ Q z67_4) (bI z) 0 := by
    intro z hz
    unfold lX6_isTaken_26
    rw [show bI z = bI (z || anyT (tkn N b) 0) by rw [show anyT (tkn N b) 0 = false from rfl, Bool.or_false]]
    refine lp_cnt (α := Int32) 36 (by omega) (fun k => bI (z || anyT (tkn N b) k)) (fun k K hk hK => ?_) (fun K => ?_)
    · show bX6_isTaken_26 M (nI p) (nI b) _ _ (bI (z || anyT (tkn N b) k)) (nI k)
      have hK' : K (bI (z || (anyT (tkn N b) k || tkn N b k)), nI (k + 1)) := hK
      unfold bX6_isTaken_26
      obtain ⟨v1, v2⟩ := m_call36 (p := p) (a := k) hp hk
      rw [v2, hm.2.2.1 k hk, nI_s1]
      refine ⟨fun q => absurd q (nI_ge (b := 36) hk (by omega)), fun _ => ⟨fun q => ⟨v1, fun q2 => ?_, fun q2 => ?_⟩, fun q => ?_⟩⟩
      · rintro _ rfl
        have e : tkn N b k = true := by
          cases hd : nC N k with
          | none =>
            rw [hd] at q2
            exact absurd q2.symm (nI_none (by omega))
          | some w =>
            rw [hd] at q2
            have := hw.2.2.2.2.1 k w.1 w.2 hd
            have e2 : w.1 = b := (nI_eq (by omega) (by omega)).mp q2
            exact tkn_iff.mpr ⟨w.2, by rw [← e2]; exact hd⟩
        rw [e, Bool.or_true, Bool.or_true] at hK'
        exact hK'
      · rintro _ rfl
        have e : tkn N b k = false := by
          cases hd : tkn N b k with
          | false => rfl
          | true =>
            obtain ⟨x, hx⟩ := tkn_iff.mp hd
            rw [hx] at q2
            exact absurd rfl q2
        rw [e, Bool.or_false, bI_0.mp q] at hK'
        exact hK'
      · rintro _ rfl
        rw [← Bool.or_assoc, bI_n0 q, Bool.true_or] at hK'
        exact hK'
    · show bX6_isTaken_26 M (nI p) (nI b) _ _ (bI (z || anyT (tkn N b) 36)) (nI 36)
      unfold bX6_isTaken_26
      refine ⟨fun _ => ⟨nar_bit _, hz⟩, fun q => absurd (nI_le (a := 36) (b := 36) (Nat.le_refl _) (by omega)) q⟩
  unfold pX6_isTaken
  obtain ⟨v1, v2⟩ := m_call36 (p := p) (a := a) hp (by omega)
  rw [v2, hm.2.2.1 a (by omega)]
  refine ⟨v1, fun q => ?_, fun q => ?_⟩
  · refine key false ?_
    have e1 : nC N a = none := by
      cases hd : nC N a with
      | none => rfl
      | some z =>
        rw [hd] at q
        have := hw.2.2.2.2.1 a z.1 z.2 hd
        exact absurd q (nI_none (by omega))
    unfold bsy at h
    rw [e1] at h
    exact h
  · refine key true ?_
    unfold bsy at h
    cases hd : nC N a with
    | none => rw [hd] at q; exact absurd rfl q
    | some z =>
      rw [hd] at h
      exact h
def frR (N : NSt) (f g : Nat) : Int32 := match frs (fB N f g) (nM N) with | some _ => 0 | none => enB (bsN N f g)
theorem c_free (hw : NWf N) (hc : CRep N ln t) {a b : Nat} (ha : a < nR N * nL N) (hb : b < nR N * nL N) {Q : Int32 → St → Prop} (h : ∀ t2, CRep N ln t2 → Q (frR N (a / nL N) (b / nL N)) t2) : pX1_plan ln t (nI a) (nI b) 1 Q := by
  refine c_plan hw hc ha hb (fun x hx => ?_) (fun hno q1 => absurd q1 (by decide)) (fun hno _ => c_moves hw hc ha hb hno (fun t2 hP => ?_))
  · have := h (uF t 15 (nI x)) hc
    unfold frR at this
    rw [hx] at this
    exact this
  · have := h t2 hP.1
    unfold frR at this
    rw [hno] at this
    exact this
theorem m_free (hp : p < 6) (hw : NWf N) (hm : MR N p M) {f g : Nat} (hf : f < nR N) (hg : g < nR N) {Q : Int32 → St → Prop} (h : ∀ M2, MR N p M2 → smM M M2 → Q (frR N f g) M2) : pX6_best M (nI p) (nI f) (nI g) Q := by
  refine m_best hp hw hm hf hg (fun x M2 hx hm2 hs _ => ?_) (fun M2 hno hP => ?_)
  · have := h M2 hm2 hs
    unfold frR at this
    rw [hx] at this
    exact this
  · have := h M2 hP.1 hP.2.1
    unfold frR at this
    rw [hno] at this
    exact this
end BY
theorem Rel_net {T : TS} {M M2 : St} (hR : Rel T M) {p : Nat} {o : Nat} {a l : Nat → Nat} {t2 : St} {N2 : NSt} (hw : NWf N2) (hc : CRep N2 l t2) (hm : MR N2 p M2) (hf : frM p (uF (uF M 0 0) 1 0) M2) : Rel (uX (uN T p (some (o, a, l, t2))) (uF (tX (uN T p (some (o, a, l, t2)))) 5 0)) M2 := by
  obtain ⟨hS, hN, hA, hF⟩ := hR
  obtain ⟨f1, f2, f3, f4⟩ := hf
  have e : ∀ k, k ≠ 8 → k ≠ 9 → k ≠ 10 → k ≠ 14 → k ≠ 17 → sA M2 k = sA M k := f1
  refine ⟨?_, ?_, ?_, ?_⟩
  · rw [e 2 (by omega) (by omega) (by omega) (by omega) (by omega), e 3 (by omega) (by omega) (by omega) (by omega) (by omega), e 4 (by omega) (by omega) (by omega) (by omega) (by omega)]
    exact hS
  · refine RN_up hN (p := p) ⟨N2, hw, hc, hm⟩ (fun j hj q => ?_) (fun j k hj q hk => f3 j k q hk) (fun j k hj q hk => f4 j k q hk)
    rw [e 5 (by omega) (by omega) (by omega) (by omega) (by omega), e 6 (by omega) (by omega) (by omega) (by omega) (by omega), e 7 (by omega) (by omega) (by omega) (by omega) (by omega)]
    exact ⟨rfl, rfl, rfl⟩
  · rw [e 11 (by omega) (by omega) (by omega) (by omega) (by omega), f2 12 (by omega)]
    exact hA
  · rw [f2 1 (by omega)]
    rfl
theorem st_14 : stepOK_14 Rel := by
  intro T M a1 a2 a3 a4 hR
  have h := hR
  obtain ⟨hS, hN, hA, hF⟩ := h
  simp only [pX5_free, pX6_free, pl5_iff, pl6_iff, within_iff, in_iff, forall_eq, Int32.toInt_toInt64, l64_0, l64_1, l32_0, l32_1, pX6_look, pX5_found, pX6_found, pX5_fine]
  by_cases h1 : 0 ≤ a1.toInt ∧ a1.toInt ≤ 5
  · obtain ⟨p, hp, rfl⟩ := nI_rg (n := 6) h1.1 (by omega) (by omega)
    by_cases h2 : 0 ≤ a4.toInt ∧ a4.toInt ≤ 1
    · simp only [if_pos h1, if_pos h2, one_ne, imp_F, not_F, imp_T, true_and, cl6 hp, in6 hp, sA_uF]
      rcases net_at hN hp with ⟨e1, e2⟩ | ⟨o, a, l, t, N, e1, hw, hc, hm⟩
      · simp only [e1, e2, none_n, ob_n, imp_T, and_true, zero_eq, not_T, imp_F]
        exact ⟨fun q => absurd q (by decide), fun _ => ⟨hS, hN, hA, rfl⟩⟩
      · have hM : MR N p (uF (uF M 0 0) 1 0) := hm
        have le0 : ((0 : Int32) ≤ 0) ↔ True := by decide
        have hr := rn_le hw
        have kl := hw.2.1
        simp only [e1, some_n, ob_e, imp_F, true_and, hm.1.1, m_ne0 hw, not_F, imp_T, c_hasLine hw hc, m_isLine hp hw hM, le0, not_T, and_true]
        by_cases h3 : 0 ≤ a2.toInt ∧ a2.toInt ≤ ((nR N * nL N : Nat) : Int) - 1
        · by_cases h4 : 0 ≤ a3.toInt ∧ a3.toInt ≤ ((nR N * nL N : Nat) : Int) - 1
          · obtain ⟨c, kc, rfl⟩ := nI_rg (n := nR N * nL N) h3.1 (by omega) (by omega)
            obtain ⟨d, kd, rfl⟩ := nI_rg (n := nR N * nL N) h4.1 (by omega) (by omega)
            have n6 : ¬ nI (nL N) = 0 := nI_ne0 (by omega) (by omega)
            simp only [if_pos h3, if_pos h4, one_ne, imp_F, not_F, imp_T, true_and, hm.1.2.1, n6, nI_div (a := c) (b := nL N) (by omega) (by omega), nI_div (a := d) (b := nL N) (by omega) (by omega)]
            refine c_busy hw hc kc kd ?_
            cases hb : bsy N c d with
            | true =>
              refine ⟨fun q => absurd q (by decide), fun _ => m_taken hp hw hM kc kd ?_⟩
              rw [hb]
              exact ⟨fun q => absurd q (by decide), fun _ => ⟨hS, hN, hA, hF⟩⟩
            | false =>
              refine ⟨fun _ => ⟨fun q => c_many hw hc kc kd (m_taken hp hw hM kc kd ?_), fun q => c_free hw hc kc kd (fun t2 hc2 => m_taken hp hw hM kc kd ?_)⟩, fun q => absurd rfl q⟩
              · rw [hb]
                refine ⟨fun _ => m_many hp hw hM (div_sw kc) (div_sw kd) ⟨fun _ => ⟨rfl, hS, hN, hA, rfl⟩, fun q2 => absurd q q2⟩, fun q => absurd rfl q⟩
              · rw [hb]
                refine ⟨fun _ => m_many hp hw hM (div_sw kc) (div_sw kd) ⟨fun q2 => absurd q2 q, fun _ => m_free hp hw hM (div_sw kc) (div_sw kd) (fun M2 hm2 hs => ⟨rfl, Rel_net hR hw hc2 hm2 (smM_fr hs)⟩)⟩, fun q => absurd rfl q⟩
          · simp only [if_pos h3, if_neg h4, one_ne, zero_eq, imp_F, not_F, not_T, imp_T, and_true, true_and]
            exact ⟨hS, hN, hA, hF⟩
        · simp only [if_neg h3, zero_eq, imp_F, not_T, imp_T, and_true, true_and]
          exact ⟨hS, hN, hA, hF⟩
    · simp only [if_pos h1, if_neg h2, one_ne, zero_eq, imp_F, not_F, not_T, imp_T, and_true, true_and]
      exact ⟨hS, hN, hA, hF⟩
  · simp only [if_neg h1, zero_eq, imp_F, not_T, imp_T, and_true, true_and]
    exact ⟨hS, hN, hA, hF⟩
theorem st_11 : stepOK_11 Rel := by
  intro T M a1 a2 a3 a4 hR
  have h := hR
  obtain ⟨hS, hN, hA, hF⟩ := h
  simp only [pX5_call, pX6_call, pl5_iff, pl6_iff, within_iff, in_iff, forall_eq, Int32.toInt_toInt64, l64_0, l64_1, l32_0, l32_1, pX6_look, pX5_found, pX6_found, pX5_fine]
  by_cases h1 : 0 ≤ a1.toInt ∧ a1.toInt ≤ 5
  · obtain ⟨p, hp, rfl⟩ := nI_rg (n := 6) h1.1 (by omega) (by omega)
    by_cases h2 : 0 ≤ a4.toInt ∧ a4.toInt ≤ 1
    · simp only [if_pos h1, if_pos h2, one_ne, imp_F, not_F, imp_T, true_and, cl6 hp, in6 hp, sA_uF]
      rcases net_at hN hp with ⟨e1, e2⟩ | ⟨o, a, l, t, N, e1, hw, hc, hm⟩
      · simp only [e1, e2, none_n, ob_n, imp_T, and_true, zero_eq, not_T, imp_F]
        exact ⟨fun q => absurd q (by decide), fun _ => ⟨hS, hN, hA, rfl⟩⟩
      · have hM : MR N p (uF (uF M 0 0) 1 0) := hm
        have le0 : ((0 : Int32) ≤ 0) ↔ True := by decide
        have hr := rn_le hw
        have kl := hw.2.1
        simp only [e1, some_n, ob_e, imp_F, true_and, hm.1.1, m_ne0 hw, not_F, imp_T, c_hasLine hw hc, m_isLine hp hw hM, le0, not_T, and_true]
        by_cases h3 : 0 ≤ a2.toInt ∧ a2.toInt ≤ ((nR N * nL N : Nat) : Int) - 1
        · by_cases h4 : 0 ≤ a3.toInt ∧ a3.toInt ≤ ((nR N * nL N : Nat) : Int) - 1
          · obtain ⟨c, kc, rfl⟩ := nI_rg (n := nR N * nL N) h3.1 (by omega) (by omega)
            obtain ⟨d, kd, rfl⟩ := nI_rg (n := nR N * nL N) h4.1 (by omega) (by omega)
            have n6 : ¬ nI (nL N) = 0 := nI_ne0 (by omega) (by omega)
            simp only [if_pos h3, if_pos h4, one_ne, imp_F, not_F, imp_T, true_and, hm.1.2.1, n6, nI_div (a := c) (b := nL N) (by omega) (by omega), nI_div (a := d) (b := nL N) (by omega) (by omega)]
            refine c_busy hw hc kc kd ?_
            cases hb : bsy N c d with
            | true =>
              refine ⟨fun q => absurd q (by decide), fun _ => m_taken hp hw hM kc kd ?_⟩
              rw [hb]
              exact ⟨fun q => absurd q (by decide), fun _ => ⟨hS, hN, hA, hF⟩⟩
            | false =>
              obtain ⟨hC, hO⟩ := bsy_no hw hb
              have hsw := su_wf hw kc kd hC hO
              obtain ⟨w, kw, rfl⟩ := nI_rg (n := 2) (x := a4) h2.1 (by omega) (by omega)
              obtain rfl | rfl : w = 1 ∨ w = 0 := by omega
              · refine ⟨fun _ => ⟨fun _ => c_setUp hw hc kc kd hC hO (fun q => absurd q (by decide)) (fun _ t2 hc2 _ _ => m_taken hp hw hM kc kd ?_), fun q => absurd rfl q⟩, fun q => absurd rfl q⟩
                rw [hb]
                refine ⟨fun _ => m_best hp hw hM (div_sw kc) (div_sw kd) (fun x M2 hx hm2 hs _ => ?_) (fun M2 hno hP => ?_), fun q => absurd rfl q⟩
                · refine ⟨fun q => absurd q (by decide), fun _ => ⟨fun _ => m_setUp hp hw hm2 kc kd (fun M3 hm3 hf3 _ => ⟨rfl, Rel_net hR hsw hc2 hm3 (frM_t (smM_fr hs) hf3)⟩), fun q => absurd (by decide) q⟩⟩
                · obtain ⟨hm2, hs, _⟩ := hP
                  cases e2 : bsN N (c / nL N) (d / nL N) with
                  | none =>
                    have hpl := plN_b hno e2
                    have eN : suN N c d = N := by unfold suN; rw [hpl]
                    have eR : suR N c d = none := by unfold suR; rw [hpl]
                    rw [eR]
                    refine ⟨fun _ => ⟨rfl, Rel_net hR hw (by rw [← eN]; exact hc2) hm2 (smM_fr hs)⟩, fun q => absurd rfl q⟩
                  | some q =>
                    obtain ⟨n, x, y⟩ := q
                    obtain ⟨o1, o2, o3, _⟩ := bs_spec hw hno e2
                    refine ⟨fun q => absurd q (nI_none (by omega)), fun _ => ⟨fun q => absurd q (nI_nle o2 (by omega)), fun _ => ⟨fun q => absurd q (by decide), fun _ => m_setUp hp hw hm2 kc kd (fun M3 hm3 hf3 _ => ⟨rfl, Rel_net hR hsw hc2 hm3 (frM_t (smM_fr hs) hf3)⟩)⟩⟩⟩
              · refine ⟨fun _ => ⟨fun q => absurd q (by decide), fun _ => c_setUp hw hc kc kd hC hO (fun _ hno => m_taken hp hw hM kc kd ?_) (fun hx t2 hc2 _ _ => m_taken hp hw hM kc kd ?_)⟩, fun q => absurd rfl q⟩
                · rw [hb]
                  refine ⟨fun _ => m_best hp hw hM (div_sw kc) (div_sw kd) (fun x M2 hx hm2 hs _ => ?_) (fun M2 hno hP => ?_), fun q => absurd rfl q⟩
                  · rw [hno] at hx
                    cases hx
                  · obtain ⟨hm2, hs, _⟩ := hP
                    cases e2 : bsN N (c / nL N) (d / nL N) with
                    | none => exact ⟨fun _ => ⟨rfl, Rel_net hR hw hc hm2 (smM_fr hs)⟩, fun q => absurd rfl q⟩
                    | some q =>
                      obtain ⟨n, x, y⟩ := q
                      obtain ⟨o1, o2, o3, _⟩ := bs_spec hw hno e2
                      exact ⟨fun q => absurd q (nI_none (by omega)), fun _ => ⟨fun q => absurd q (nI_nle o2 (by omega)), fun _ => ⟨fun _ => ⟨rfl, Rel_net hR hw hc hm2 (smM_fr hs)⟩, fun q => absurd rfl q⟩⟩⟩
                · obtain ⟨x0, hx0⟩ := hx rfl
                  rw [hb]
                  refine ⟨fun _ => m_best hp hw hM (div_sw kc) (div_sw kd) (fun x M2 hx hm2 hs _ => ?_) (fun M2 hno hP => ?_), fun q => absurd rfl q⟩
                  · exact ⟨fun q => absurd q (by decide), fun _ => ⟨fun _ => m_setUp hp hw hm2 kc kd (fun M3 hm3 hf3 _ => ⟨rfl, Rel_net hR hsw hc2 hm3 (frM_t (smM_fr hs) hf3)⟩), fun q => absurd (by decide) q⟩⟩
                  · rw [hno] at hx0
                    cases hx0
          · simp only [if_pos h3, if_neg h4, one_ne, zero_eq, imp_F, not_F, not_T, imp_T, and_true, true_and]
            exact ⟨hS, hN, hA, hF⟩
        · simp only [if_neg h3, zero_eq, imp_F, not_T, imp_T, and_true, true_and]
          exact ⟨hS, hN, hA, hF⟩
    · simp only [if_pos h1, if_neg h2, one_ne, zero_eq, imp_F, not_F, not_T, imp_T, and_true, true_and]
      exact ⟨hS, hN, hA, hF⟩
  · simp only [if_neg h1, zero_eq, imp_F, not_T, imp_T, and_true, true_and]
    exact ⟨hS, hN, hA, hF⟩
