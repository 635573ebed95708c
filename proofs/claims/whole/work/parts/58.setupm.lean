/-! the model sets up a call -/
def frM (p : Nat) (M M2 : St) : Prop := (∀ k, k ≠ 8 → k ≠ 9 → k ≠ 10 → k ≠ 14 → k ≠ 17 → sA M2 k = sA M k) ∧ (∀ k, k < 13 → sF M2 k = sF M k) ∧ (∀ j k, j ≠ p → k < 12 → sA M2 8 (12 * j + k) = sA M 8 (12 * j + k)) ∧ (∀ j k, j ≠ p → k < 36 → sA M2 9 (36 * j + k) = sA M 9 (36 * j + k) ∧ sA M2 10 (36 * j + k) = sA M 10 (36 * j + k))
theorem frM_r (p : Nat) (M : St) : frM p M M := ⟨fun _ _ _ _ _ _ => rfl, fun _ _ => rfl, fun _ _ _ _ => rfl, fun _ _ _ _ => ⟨rfl, rfl⟩⟩
theorem frM_t {p : Nat} {A B C : St} (h : frM p A B) (h2 : frM p B C) : frM p A C := ⟨fun k a b c d e => (h2.1 k a b c d e).trans (h.1 k a b c d e), fun k a => (h2.2.1 k a).trans (h.2.1 k a), fun j k a b => (h2.2.2.1 j k a b).trans (h.2.2.1 j k a b), fun j k a b => ⟨(h2.2.2.2 j k a b).1.trans (h.2.2.2 j k a b).1, (h2.2.2.2 j k a b).2.trans (h.2.2.2 j k a b).2⟩⟩
theorem smM_fr {p : Nat} {A B : St} (h : smM A B) : frM p A B := ⟨fun k a b c d e => h.1 k d, h.2, fun j k _ _ => by rw [h.1 8 (by omega)], fun j k _ _ => by rw [h.1 9 (by omega), h.1 10 (by omega)]; exact ⟨rfl, rfl⟩⟩
section TM
variable {N : NSt} {p : Nat} {M : St}
theorem m_tail (hp : p < 6) (hm : MR N p M) {a b x : Nat} (ha : a < 36) (h15 : sF M 15 = nI x) {Q : St → Prop} (h : ∀ M2, MR (Nc N a (some (b, x))) p M2 → frM p M M2 → sA M2 17 = sA M 17 → Q M2) : (vp_in (((36 : Int32) * nI p) + nI a) 216) ∧ ∀ s140 : St, s140 = (uA M 9 (upd (sA M 9) (((36 : Int32) * nI p) + nI a).toNatClampNeg (nI b))) → (vp_in (((36 : Int32) * nI p) + nI a) 216) ∧ ∀ s155 : St, s155 = (uA s140 10 (upd (sA s140 10) (((36 : Int32) * nI p) + nI a).toNatClampNeg (sF s140 15))) → Q s155 := by
  obtain ⟨v1, v2⟩ := m_call36 (p := p) (a := a) hp ha
  rw [v2]
  refine ⟨v1, ?_⟩
  rintro _ rfl
  refine ⟨v1, ?_⟩
  rintro _ rfl
  show Q (uA (uA M 9 (upd (sA M 9) (36 * p + a) (nI b))) 10 (upd (sA M 10) (36 * p + a) (sF M 15)))
  rw [h15]
  obtain ⟨h1, h2, h3, h4⟩ := hm
  refine h _ ⟨h1, h2, fun a2 k => ?_, fun a2 b2 x2 k k2 => ?_⟩ ⟨fun k _ h9 h10 _ _ => ?_, fun k _ => rfl, fun j k _ _ => rfl, fun j k hj hk => ⟨upd_other _ _ (by omega), upd_other _ _ (by omega)⟩⟩ rfl
  · show upd (sA M 9) (36 * p + a) (nI b) (36 * p + a2) = match va_up (nC N) a (some (b, x)) a2 with | none => -1000000 | some q => nI q.1
    unfold upd
    by_cases e : a2 = a
    · rw [if_pos (by omega), e, show va_up (nC N) a (some (b, x)) a = some (b, x) from if_pos rfl]
    · rw [if_neg (by omega), va_up_ne _ _ e]
      exact h3 a2 k
  · show upd (sA M 10) (36 * p + a) (nI x) (36 * p + a2) = nI x2
    unfold upd
    rcases up_some k2 with ⟨rfl, e⟩ | ⟨n1, k3⟩
    · cases e
      exact if_pos rfl
    · rw [if_neg (by omega)]
      exact h4 a2 b2 x2 k k3
  · show sA (uA (uA M 9 _) 10 _) k = sA M k
    rw [sA_uA, if_neg h10, sA_uA, if_neg h9]
theorem m_turn (hp : p < 6) (hw : NWf N) (hm : MR N p M) {x y g : Nat} (hx : x < nM N) (hy : y < nM N) (hxy : x ≠ y) (hg : ct N g y = none) {x2 x3 x4 : Int32} (h13 : sF M 13 = nI (chN N x y g)) (h14 : ∀ k a, k < chN N x y g → ch N x y g k = some a → sA M 14 k = nI a) (h15 : sF M 15 = nI x) (h16 : sF M 16 = nI y) {Q : St → Prop} (h : ∀ M2, MR (swp N x y g) p M2 → frM p M M2 → sA M2 17 = sA M 17 → sF M2 15 = nI x → Q M2) : lX6_setUp_62 (nI p) x2 x3 x4 Q M 0 := by
  have k2 := rn_le hw
  have k3 := hw.1
  obtain ⟨n1, n2, n3⟩ := chN_spec hw hxy hg
  unfold lX6_setUp_62
  refine lp_of (I := fun q => ∃ k f, k ≤ chN N x y g ∧ q = (uA M 10 f, nI k) ∧ (∀ a b z, a < 36 → nC N a = some (b, z) → f (36 * p + a) = nI (if mem (ch N x y g) a k = true then sw2 x y z else z)) ∧ ∀ j i, j ≠ p → i < 36 → f (36 * j + i) = sA M 10 (36 * j + i)) (μ := fun q => chN N x y g - q.2.toNatClampNeg) ?_ _ ⟨0, sA M 10, by omega, by rw [uA_self]; rfl, fun a b z ha hz => hm.2.2.2 a b z ha hz, fun _ _ _ _ => rfl⟩
  rintro q ⟨k, f, hk, rfl, hf, hf2⟩ K hK
  show bX6_setUp_62 (nI p) x2 x3 x4 _ _ (uA M 10 f) (nI k)
  unfold bX6_setUp_62
  show (sF M 13 ≤ nI k → _) ∧ (¬ sF M 13 ≤ nI k → (vp_in (nI k) 40) ∧ (vp_in (nI k) 40) ∧ (vp_in ((36 * nI p) + (sA M 14 (nI k).toNatClampNeg)) 216) ∧ (f ((36 * nI p) + (sA M 14 (nI k).toNatClampNeg)).toNatClampNeg = sF M 15 → (vp_in ((36 * nI p) + (sA M 14 (nI k).toNatClampNeg)) 216) ∧ ∀ s122 : St, s122 = (uA (uA M 10 f) 10 (upd f ((36 * nI p) + (sA M 14 (nI k).toNatClampNeg)).toNatClampNeg (sF M 16))) → _) ∧ (¬ f ((36 * nI p) + (sA M 14 (nI k).toNatClampNeg)).toNatClampNeg = sF M 15 → (vp_in ((36 * nI p) + (sA M 14 (nI k).toNatClampNeg)) 216) ∧ ∀ s122 : St, s122 = (uA (uA M 10 f) 10 (upd f ((36 * nI p) + (sA M 14 (nI k).toNatClampNeg)).toNatClampNeg (sF M 15))) → _))
  rw [h13, h15, h16, nI_clamp (by omega)]
  by_cases e : k = chN N x y g
  · subst e
    refine ⟨fun _ => h _ ⟨hm.1, hm.2.1, fun a ha => ?_, fun a b z ha hz => ?_⟩ ⟨fun j _ _ h10 _ _ => if_neg h10, fun _ _ => rfl, fun _ _ _ _ => rfl, fun j i hj hi => ⟨rfl, hf2 j i hj hi⟩⟩ rfl h15, fun q => absurd (nI_le (Nat.le_refl _) (by omega)) q⟩
    · show sA M 9 (36 * p + a) = _
      rw [hm.2.2.1 a ha]
      have := swp_fst (N := N) (x := x) (y := y) (g := g) a
      revert this
      cases nC (swp N x y g) a <;> cases nC N a <;> intro q
      · rfl
      · cases q
      · cases q
      · exact congrArg nI (Option.some.inj q).symm
    · show f (36 * p + a) = nI z
      rw [swp_C] at hz
      by_cases e : mem (ch N x y g) a (chN N x y g) = true
      · rw [if_pos e] at hz
        cases hq : nC N a with
        | none => rw [hq] at hz; cases hz
        | some q =>
          obtain ⟨q1, q2⟩ := q
          rw [hq] at hz
          have hz' : some (q1, sw2 x y q2) = some (b, z) := hz
          cases hz'
          rw [hf a _ _ ha hq, if_pos e]
      · rw [if_neg e] at hz
        rw [hf a _ _ ha hz, if_neg e]
  · have hkn : k < chN N x y g := by omega
    obtain ⟨c, hck⟩ := n3 k hkn
    obtain ⟨bc, hmc⟩ := ch_mid hck
    have kc := (NWf_L hw).1 c bc _ hmc
    have hzz : (if k % 2 = 0 then x else y) < 2 ^ 31 := by
      have := kc.2.2
      omega
    rw [h14 k c hkn hck]
    obtain ⟨v1, v2⟩ := m_call36 (p := p) (a := c) hp (by omega)
    have fc : f (36 * p + c) = nI (if k % 2 = 0 then x else y) := by
      rw [hf c _ _ (by omega) hmc, ch_nmem hw hxy hg hck (Nat.le_refl _)]
      rfl
    rw [v2, fc, nI_s1]
    have next : ∀ v, v = sw2 x y (if k % 2 = 0 then x else y) → K (uA (uA M 10 f) 10 (upd f (36 * p + c) (nI v)), nI (k + 1)) := by
      rintro _ rfl
      refine hK _ ⟨k + 1, upd f (36 * p + c) (nI (sw2 x y (if k % 2 = 0 then x else y))), by omega, by rw [uA_uA], fun a b z ha hz => ?_, fun j i hj hi => ?_⟩ ?_
      · rw [mem_s hck]
        by_cases e2 : a = c
        · subst e2
          rw [if_pos rfl]
          rw [hmc] at hz
          cases hz
          rw [if_pos rfl]
          exact upd_same _ _ _
        · rw [if_neg e2, upd_other _ _ (by omega)]
          exact hf a b z ha hz
      · rw [upd_other _ _ (by omega)]
        exact hf2 j i hj hi
      · show chN N x y g - (nI (k + 1)).toNatClampNeg < chN N x y g - (nI k).toNatClampNeg
        rw [nI_clamp (by omega), nI_clamp (by omega)]
        omega
    refine ⟨fun q => absurd q (nI_ge hkn (by omega)), fun _ => ⟨vp_in_nI (by omega) (by omega), vp_in_nI (by omega) (by omega), v1, fun q => ⟨v1, ?_⟩, fun q => ⟨v1, ?_⟩⟩⟩
    · rintro _ rfl _ rfl
      have q2 := (nI_eq hzz (by omega)).mp q
      exact next y (by unfold sw2; rw [if_pos q2])
    · rintro _ rfl _ rfl
      have q2 : ¬ (if k % 2 = 0 then x else y) = x := fun q3 => q (by rw [q3])
      exact next x (by unfold sw2; rw [if_neg q2])
theorem m_setUp (hp : p < 6) (hw : NWf N) (hm : MR N p M) {a b : Nat} (ha : a < nR N * nL N) (hb : b < nR N * nL N) {Q : Int32 → St → Prop} (h : ∀ M2, MR (suN N a b) p M2 → frM p M M2 → sA M2 17 = sA M 17 → Q (enM (suR N a b)) M2) : pX6_setUp M (nI p) (nI a) (nI b) Q := by
  have k2 := rn_le hw
  have kl := hw.2.1
  unfold pX6_setUp
  rw [cl6 hp, hm.1.2.1, nI_div (by omega) (by omega), nI_div (by omega) (by omega)]
  refine ⟨in6 hp, nI_ne0 (by omega) (by omega), in6 hp, nI_ne0 (by omega) (by omega), ?_⟩
  refine m_best hp hw hm (div_sw ha) (div_sw hb) (fun x M2 hx hm2 hs h15 => ?_) (fun M2 hno hP => ?_)
  · refine ⟨fun q => absurd q (by decide), fun _ => ⟨fun _ => ?_, fun q => absurd (by decide) q⟩⟩
    have hpl := plN_a hx
    have hN : suN N a b = Nc N a (some (b, x)) := by unfold suN; rw [hpl]
    have hR : suR N a b = some 0 := by unfold suR; rw [hpl]
    refine m_tail hp hm2 (by omega) h15 (fun M3 hm3 hf3 h17 => ?_)
    have := h M3 (by rw [hN]; exact hm3) (frM_t (smM_fr hs) hf3) (h17.trans (hs.1 17 (by omega)))
    rw [hR] at this
    exact this
  · obtain ⟨hm2, hs, h15⟩ := hP
    cases e2 : bsN N (a / nL N) (b / nL N) with
    | none =>
      have hpl := plN_b hno e2
      have hN : suN N a b = N := by unfold suN; rw [hpl]
      have hR : suR N a b = none := by unfold suR; rw [hpl]
      refine ⟨fun _ => ?_, fun q => absurd rfl q⟩
      have := h M2 (by rw [hN]; exact hm2) (smM_fr hs) (hs.1 17 (by omega))
      rw [hR] at this
      exact this
    | some q =>
      obtain ⟨n, x, y⟩ := q
      have hpl := plN_c hno e2
      obtain ⟨o1, o2, o3, ox, oy, oxy, dx, dy, hf, hg⟩ := bs_spec hw hno e2
      have hN : suN N a b = Nc (swp N x y (b / nL N)) a (some (b, x)) := by unfold suN; rw [hpl]
      have hR : suR N a b = some n := by unfold suR; rw [hpl]
      obtain ⟨e15, e16⟩ := h15 _ e2
      have e15' : sF M2 15 = nI x := e15
      have e16' : sF M2 16 = nI y := e16
      obtain ⟨n1, n2, n3⟩ := chN_spec hw oxy hg
      refine ⟨fun q => absurd q (nI_none (by omega)), fun _ => ⟨fun q => absurd q (nI_nle o2 (by omega)), fun _ => ?_⟩⟩
      rw [hm2.1.2.1, nI_div (by omega) (by omega), e15', e16']
      refine ⟨in6 hp, nI_ne0 (by omega) (by omega), ?_⟩
      refine m_chain hp hw hm2 (div_sw hb) ox oy n1 n2 n3 (fun ff hff => ?_)
      have hs3 : smM M2 (uF (uA M2 14 ff) 13 (nI (chN N x y (b / nL N)))) := ⟨fun j hj => if_neg hj, fun j hj => if_neg (by omega)⟩
      refine m_turn hp hw (smM_MR hs3 hm2) ox oy oxy hg rfl (fun k c hk hc => hff k c hk hc) e15' e16' (fun M4 hm4 hf4 h17 h15 => ?_)
      refine m_tail hp hm4 (by omega) h15 (fun M5 hm5 hf5 h175 => ?_)
      have := h M5 (by rw [hN]; exact hm5) (frM_t (smM_fr (smM_t hs hs3)) (frM_t hf4 hf5)) (h175.trans (h17.trans ((smM_t hs hs3).1 17 (by omega))))
      rw [hR] at this
      exact this
end TM
