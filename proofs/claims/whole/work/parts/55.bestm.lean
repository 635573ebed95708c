/-! the model's chain, and its best pair -/
def smM (M M2 : St) : Prop := (∀ k, k ≠ 14 → sA M2 k = sA M k) ∧ ∀ k, k < 13 → sF M2 k = sF M k
theorem smM_r (M : St) : smM M M := ⟨fun _ _ => rfl, fun _ _ => rfl⟩
theorem smM_t {A B C : St} (h : smM A B) (h2 : smM B C) : smM A C := ⟨fun k hk => (h2.1 k hk).trans (h.1 k hk), fun k hk => (h2.2 k hk).trans (h.2 k hk)⟩
theorem smM_MR {N : NSt} {p : Nat} {A B : St} (h : smM A B) (hm : MR N p A) : MR N p B := by
  unfold MR
  rw [h.1 5 (by omega), h.1 6 (by omega), h.1 7 (by omega), h.1 8 (by omega), h.1 9 (by omega), h.1 10 (by omega)]
  exact hm
section MB
variable {N : NSt} {p : Nat} {M : St}
theorem m_chain (hp : p < 6) (hw : NWf N) (hm : MR N p M) {g x y n : Nat} (hg : g < nR N) (hx : x < nM N) (hy : y < nM N) (hn : n ≤ nR N * nL N) (hn1 : ch N x y g n = none) (hn2 : ∀ k, k < n → ∃ a, ch N x y g k = some a) {Q : St → Prop} (h : ∀ f, (∀ k a, k < n → ch N x y g k = some a → f k = nI a) → Q (uF (uA M 14 f) 13 (nI n))) : pX6_findChain M (nI p) (nI g) (nI x) (nI y) Q := by
  have k2 := rn_le hw
  have k3 := hw.1
  have kl := hw.2.1
  unfold pX6_findChain
  rintro _ rfl
  have hm0 : MR N p (uF M 13 0) := hm
  refine m_to hp hw hm0 hg hx ?_
  unfold lX6_findChain_17
  refine lp_of (I := fun q => ∃ k f, k ≤ n ∧ q = (uF (uA M 14 f) 13 (nI k), enM (ch N x y g k), if k % 2 = 0 then 1 else 0) ∧ ∀ j a, j < k → ch N x y g j = some a → f j = nI a) (μ := fun q => n - (sF q.1 13).toNatClampNeg) ?_ _ ⟨0, sA M 14, by omega, by rw [uA_self]; rfl, fun j a hj => absurd hj (Nat.not_lt_zero j)⟩
  rintro q ⟨k, f, hk, rfl, hf⟩ K hK
  show bX6_findChain_17 (nI p) (nI x) (nI y) _ _ (uF (uA M 14 f) 13 (nI k)) (enM (ch N x y g k)) (if k % 2 = 0 then 1 else 0)
  unfold bX6_findChain_17
  cases e : ch N x y g k with
  | none =>
    have : k = n := by
      rcases Nat.lt_or_ge k n with q | q
      · obtain ⟨a, ha⟩ := hn2 k q
        rw [e] at ha
        cases ha
      · omega
    subst this
    exact ⟨fun _ => h f hf, fun q => absurd rfl q⟩
  | some a =>
    have hkn : k < n := by
      rcases Nat.lt_or_ge k n with q | q
      · exact q
      · have : k = n := by omega
        rw [this, hn1] at e
        cases e
    have ha := ch_lt hw e
    refine ⟨fun q => absurd q (nI_none (by omega)), fun _ => ⟨vp_in_nI (by omega) (by omega), ?_⟩⟩
    rintro _ rfl _ rfl
    have es : ch N x y g (k + 1) = if k % 2 = 0 then cf N (a / nL N) y else ct N (bx N a / nL N) x := by
      show (match ch N x y g k with | none => none | some a => if k % 2 = 0 then cf N (a / nL N) y else ct N (bx N a / nL N) x) = _
      rw [e]
    have eu : uF (uA (uF (uA M 14 f) 13 (nI k)) 14 (upd (sA (uF (uA M 14 f) 13 (nI k)) 14) (nI k).toNatClampNeg (nI a))) 13 (nI k + 1) = uF (uA M 14 (upd f k (nI a))) 13 (nI (k + 1)) := by
      rw [nI_clamp (by omega), nI_s1]
      show uF (uF (uA (uA M 14 f) 14 (upd f k (nI a))) 13 (nI k)) 13 (nI (k + 1)) = _
      rw [uF_uF, uA_uA]
    have next : ∀ s2 v w, s2 = uF (uA M 14 (upd f k (nI a))) 13 (nI (k + 1)) → v = enM (ch N x y g (k + 1)) → w = (if (k + 1) % 2 = 0 then 1 else 0 : Int32) → K (s2, v, w) := by
      rintro _ _ _ rfl rfl rfl
      refine hK _ ⟨k + 1, upd f k (nI a), by omega, rfl, fun j a2 hj e2 => ?_⟩ ?_
      · by_cases q : j = k
        · rw [q] at e2 ⊢
          rw [e] at e2
          cases e2
          exact upd_same _ _ _
        · rw [upd_other _ _ q]
          exact hf j a2 (by omega) e2
      · show n - (nI (k + 1)).toNatClampNeg < n - (nI k).toNatClampNeg
        rw [nI_clamp (by omega), nI_clamp (by omega)]
        omega
    show ((if k % 2 = 0 then 1 else 0 : Int32) = 0 → _) ∧ _
    have hm2 : ∀ f2 v, MR N p (uF (uA M 14 f2) 13 v) := fun f2 v => hm
    by_cases q : k % 2 = 0
    · rw [if_pos q]
      refine ⟨fun q2 => absurd q2 (by decide), fun _ => ⟨in6 hp, ?_, ?_⟩⟩
      · show ¬ sA M 6 (nI p).toNatClampNeg = 0
        rw [cl6 hp, hm.1.2.1]
        exact nI_ne0 (by omega) (by omega)
      · have e6 : (nI a / sA M 6 (nI p).toNatClampNeg) = nI (a / nL N) := by
          rw [cl6 hp, hm.1.2.1, nI_div (by omega) (by omega)]
        show pX6_callFrom _ (nI p) (nI a / sA M 6 (nI p).toNatClampNeg) (nI y) _
        rw [e6]
        refine m_from hp hw ?_ (div_sw ha) hy ?_
        · exact hm
        refine ⟨fun q2 => absurd q2 (by decide), fun _ => ?_⟩
        refine next _ _ _ eu (by rw [es, if_pos q]) (by rw [if_neg (by omega)])
    · rw [if_neg q]
      obtain ⟨ba, hmid⟩ := ch_mid e
      have hba := ((NWf_L hw).1 a ba _ hmid).2.1
      obtain ⟨v1, v2⟩ := m_call36 (p := p) (a := a) hp (by omega)
      have e9 : sA M 9 (36 * p + a) = nI ba := by
        have := hm.2.2.1 a (by omega)
        rw [hmid] at this
        exact this
      refine ⟨fun _ => ⟨v1, in6 hp, ?_, ?_⟩, fun q2 => absurd rfl q2⟩
      · show ¬ sA M 6 (nI p).toNatClampNeg = 0
        rw [cl6 hp, hm.1.2.1]
        exact nI_ne0 (by omega) (by omega)
      · rintro _ rfl
        have e6 : (sA M 9 (((36 : Int32) * nI p) + nI a).toNatClampNeg / sA M 6 (nI p).toNatClampNeg) = nI (ba / nL N) := by
          rw [v2, e9, cl6 hp, hm.1.2.1, nI_div (by omega) (by omega)]
        show pX6_callTo _ (nI p) (sA M 9 (((36 : Int32) * nI p) + nI a).toNatClampNeg / sA M 6 (nI p).toNatClampNeg) (nI x) _
        rw [e6]
        refine m_to hp hw ?_ (div_sw hba) hx ?_
        · exact hm
        refine ⟨fun _ => ?_, fun q2 => absurd rfl q2⟩
        refine next _ _ _ eu (by rw [es, if_neg q, bx_eq hmid]) (by rw [if_pos (by omega)])
end MB
def PM (N : NSt) (p : Nat) (M : St) (cur : Option (Nat × Nat × Nat)) (M2 : St) : Prop := MR N p M2 ∧ smM M M2 ∧ ∀ q, cur = some q → sF M2 15 = nI q.2.1 ∧ sF M2 16 = nI q.2.2
section MP
variable {N : NSt} {p : Nat} {M : St}
theorem m_b67 (hp : p < 6) (hw : NWf N) {f g x : Nat} (hf : f < nR N) (hg : g < nR N) (hx : x < nM N) (hno : frs (fB N f g) (nM N) = none) {cur : Option (Nat × Nat × Nat)} (hok : okB N f g cur) {M1 : St} (ht : PM N p M cur M1) {K' : St → Int32 → Prop} (h : ∀ M2, PM N p M (rwB N f g x cur (nM N)) M2 → K' M2 (enB (rwB N f g x cur (nM N)))) : lX6_best_67 (nI p) (nI f) (nI g) (nI x) K' M1 (enB cur) 0 := by
  have k2 := rn_le hw
  have k3 := hw.1
  unfold lX6_best_67
  refine lp_of (I := fun q => ∃ k M2, k ≤ nM N ∧ q = (M2, enB (rwB N f g x cur k), nI k) ∧ PM N p M (rwB N f g x cur k) M2) (μ := fun q => nM N - q.2.2.toNatClampNeg) ?_ _ ⟨0, M1, by omega, rfl, ht⟩
  rintro q ⟨k, M2, hk, rfl, hP⟩ K hK
  show bX6_best_67 (nI p) (nI f) (nI g) (nI x) K' _ M2 (enB (rwB N f g x cur k)) (nI k)
  unfold bX6_best_67
  have hP2 := hP
  obtain ⟨hm, hs, h15⟩ := hP
  rw [cl6 hp, hm.1.1, nI_s1]
  refine ⟨in6 hp, ?_⟩
  by_cases e : k = nM N
  · subst e
    exact ⟨fun _ => h M2 hP2, fun q => absurd (nI_le (Nat.le_refl _) (by omega)) q⟩
  · have hk2 : k < nM N := by omega
    have next : ∀ M3 c3, c3 = rwB N f g x cur (k + 1) → PM N p M c3 M3 → K (M3, enB c3, nI (k + 1)) := by
      rintro M3 _ rfl h3
      refine hK _ ⟨k + 1, M3, by omega, rfl, h3⟩ ?_
      show nM N - (nI (k + 1)).toNatClampNeg < nM N - (nI k).toNatClampNeg
      rw [nI_clamp (by omega), nI_clamp (by omega)]
      omega
    have okk := rwB_ok (f := f) (g := g) hx hok k (by omega)
    have es : rwB N f g x cur (k + 1) = stB N f g x k (rwB N f g x cur k) := rfl
    generalize hcu : rwB N f g x cur k = cu at *
    have nof : fF N f x = false → ∀ x6 : Int32, x6 = nI (k + 1) → K (M2, enB cu, x6) := by
      rintro q _ rfl
      refine next M2 cu ?_ hP2
      rw [es, stB_nf q]
    have not_ : fT N g k = false → ∀ x6 : Int32, x6 = nI (k + 1) → K (M2, enB cu, x6) := by
      rintro q _ rfl
      refine next M2 cu ?_ hP2
      rw [es, stB_no q]
    rw [ix12, ix12, nI_clamp (by omega), nI_clamp (by omega), hm.2.1 x hx, hm.2.1 k hk2]
    refine ⟨fun q => absurd q (nI_ge hk2 (by omega)), fun _ => ⟨vp_in_nI (by omega) (by omega), fun q => ⟨vp_in_nI (by omega) (by omega), fun q2 => ?_, fun q2 => ?_⟩, fun q => ?_⟩⟩
    · have dx : nD N x = false := dead_bit.mp q
      have dk : nD N k = false := dead_bit.mp q2
      refine m_from hp hw hm hf hx ⟨fun q3 => m_to hp hw hm hg hk2 ⟨fun q4 => ?_, fun q4 => ?_⟩, fun q3 => ?_⟩
      · have hxF : fF N f x = true := fF_iff.mpr ⟨dx, (enM_iff (fun a e => cf_lt hw e)).mp q3⟩
        have hyT : fT N g k = true := fT_iff.mpr ⟨dk, (enM_iff (fun a e => ct_lt hw e)).mp q4⟩
        have hne := fB_ne hx hno hxF hyT
        obtain ⟨n1, n2, n3⟩ := chN_spec hw hne (fT_iff.mp hyT).2
        refine m_chain hp hw hm hg hx hk2 n1 n2 n3 (fun ff hff => ?_)
        have hs3 : ∀ ff n, smM M2 (uF (uA M2 14 ff) 13 n) := fun ff n => ⟨fun j hj => if_neg hj, fun j hj => if_neg (by omega)⟩
        have hs4 : ∀ ff n v w, smM M2 (uF (uF (uF (uA M2 14 ff) 13 n) 15 v) 16 w) := fun ff n v w => ⟨fun j hj => if_neg hj, fun j hj => by
          rw [sF_uF, if_neg (by omega), sF_uF, if_neg (by omega), sF_uF, if_neg (by omega)]
          rfl⟩
        have new : ∀ c3, c3 = some (chN N x k g, x, k) → PM N p M c3 (uF (uF (uF (uA M2 14 ff) 13 (nI (chN N x k g))) 15 (nI x)) 16 (nI k)) := by
          rintro _ rfl
          refine ⟨hm, smM_t hs (hs4 _ _ _ _), fun q hq => ?_⟩
          cases hq
          exact ⟨rfl, rfl⟩
        cases hcc : cu with
        | none =>
          subst hcc
          refine ⟨fun _ => ?_, fun q2 => absurd rfl q2⟩
          rintro _ rfl _ rfl _ rfl _ rfl
          refine next _ (some (chN N x k g, x, k)) ?_ (new _ rfl)
          rw [es, stB_n hxF hyT]
        | some z =>
          subst hcc
          obtain ⟨z1, z2, z3⟩ := z
          have oz := okk _ rfl
          have zl : z1 ≤ nR N * nL N := by
            have : z1 = chN N z2 z3 g := oz.1
            rw [this]
            exact chN_le
          refine ⟨fun q2 => absurd q2 (nI_none (by omega)), fun _ => ⟨fun q2 => ?_, fun q2 => ?_⟩⟩
          · have q3 : z1 ≤ chN N x k g := (nI_leI (by omega) (by omega)).mp q2
            rintro _ rfl
            refine next _ (some (z1, z2, z3)) ?_ ⟨hm, smM_t hs (hs3 _ _), h15⟩
            rw [es, stB_k hxF hyT q3]
          · have q3 : ¬ z1 ≤ chN N x k g := fun q4 => q2 ((nI_leI (by omega) (by omega)).mpr q4)
            rintro _ rfl _ rfl _ rfl _ rfl
            refine next _ (some (chN N x k g, x, k)) ?_ (new _ rfl)
            rw [es, stB_y hxF hyT (Nat.lt_of_not_le q3)]
      · exact not_ (fT_busy (fun e => q4 ((enM_iff (fun a e => ct_lt hw e)).mpr e)))
      · exact nof (fF_busy (fun e => q3 ((enM_iff (fun a e => cf_lt hw e)).mpr e)))
    · exact not_ (fT_dead (fun e => q2 (dead_bit.mpr e)))
    · exact nof (fF_dead (fun e => q (dead_bit.mpr e)))
theorem m_best (hp : p < 6) (hw : NWf N) (hm : MR N p M) {f g : Nat} (hf : f < nR N) (hg : g < nR N) {Q : Int32 → St → Prop} (h1 : ∀ x M2, frs (fB N f g) (nM N) = some x → MR N p M2 → smM M M2 → sF M2 15 = nI x → Q 0 M2) (h2 : ∀ M2, frs (fB N f g) (nM N) = none → PM N p M (bsN N f g) M2 → Q (enB (bsN N f g)) M2) : pX6_best M (nI p) (nI f) (nI g) Q := by
  have k2 := rn_le hw
  have k3 := hw.1
  unfold pX6_best lX6_best_3
  refine lp_find (nM N) (by omega) (fB N f g) (fun k K hk hj hK => ?_) (fun K hj => ?_)
  · show bX6_best_3 M (nI p) (nI f) (nI g) _ _ _ (nI k)
    unfold bX6_best_3
    rw [cl6 hp, hm.1.1, nI_s1]
    refine ⟨in6 hp, fun q => absurd q (nI_ge hk (by omega)), fun _ => m_isF hp hw hm hf hg hk ⟨fun q => ?_, fun q => ?_⟩⟩
    · rintro _ rfl
      exact hK (bI_0.mp q)
    · rintro _ rfl _ rfl
      refine h1 k _ (frs_eq (bI_n0 q) hj hk) hm ⟨fun j hj => rfl, fun j hj => ?_⟩ rfl
      rw [sF_uF, if_neg (by omega), sF_uF, if_neg (by omega)]
  · show bX6_best_3 M (nI p) (nI f) (nI g) _ _ _ (nI (nM N))
    unfold bX6_best_3
    rw [cl6 hp, hm.1.1]
    refine ⟨in6 hp, fun _ => ?_, fun q => absurd (nI_le (Nat.le_refl _) (by omega)) q⟩
    have hno := frs_no hj
    unfold lX6_best_53
    refine lp_of (I := fun q => ∃ k M2, k ≤ nM N ∧ q = (M2, enB (alB N f g k), nI k) ∧ PM N p M (alB N f g k) M2) (μ := fun q => nM N - q.2.2.toNatClampNeg) ?_ _ ⟨0, M, by omega, rfl, hm, smM_r M, fun q hq => (nomatch hq)⟩
    rintro q ⟨k, M2, hk, rfl, hP⟩ K hK
    show bX6_best_53 (nI p) (nI f) (nI g) _ _ M2 (enB (alB N f g k)) (nI k)
    unfold bX6_best_53
    have hP2 := hP
    obtain ⟨hm2, hs, h15⟩ := hP
    rw [cl6 hp, hm2.1.1, nI_s1]
    refine ⟨in6 hp, ?_⟩
    by_cases e : k = nM N
    · subst e
      exact ⟨fun _ => h2 M2 hno hP2, fun q => absurd (nI_le (Nat.le_refl _) (by omega)) q⟩
    · have hk2 : k < nM N := by omega
      refine ⟨fun q => absurd q (nI_ge hk2 (by omega)), fun _ => ?_⟩
      refine m_b67 hp hw hf hg hk2 hno (alB_ok k (by omega)) hP2 (fun M3 h3 => ?_)
      rintro _ rfl
      refine hK _ ⟨k + 1, M3, by omega, rfl, h3⟩ ?_
      show nM N - (nI (k + 1)).toNatClampNeg < nM N - (nI k).toNatClampNeg
      rw [nI_clamp (by omega), nI_clamp (by omega)]
      omega
end MP
