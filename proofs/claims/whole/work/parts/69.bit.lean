/-! the model's levels; bit -/
section MLV
variable {k : Nat} {o : Nat → Nat}
theorem m_part2 {M : St} {L b : Nat} (hk : 1 ≤ k ∧ k ≤ 4) (hL : L + 1 < k) (hb : b < 2 ^ L) (ho : prm (2 * 2 ^ (k - 1 - L)) (oB k o L b)) (h19 : ∀ i, i < 2 * 2 ^ (k - 1 - L) → sA M 19 (2 * (b * 2 ^ (k - 1 - L)) + i) = nI (oB k o L b i)) {Q : St → Prop} (h : ∀ M2, (∀ j, j < 2 ^ (k - 1 - L) → sA M2 18 (8 * L + b * 2 ^ (k - 1 - L) + j) = nI (hf (2 * 2 ^ (k - 1 - L)) (oB k o L b) (2 * j)) ∧ sA M2 18 (8 * (2 * k - 2 - L) + b * 2 ^ (k - 1 - L) + j) = nI (hf (2 * 2 ^ (k - 1 - L)) (oB k o L b) (iv (2 * 2 ^ (k - 1 - L)) (oB k o L b) (2 * j)))) → (∀ q, ¬ (8 * L + b * 2 ^ (k - 1 - L) ≤ q ∧ q < 8 * L + b * 2 ^ (k - 1 - L) + 2 ^ (k - 1 - L)) → ¬ (8 * (2 * k - 2 - L) + b * 2 ^ (k - 1 - L) ≤ q ∧ q < 8 * (2 * k - 2 - L) + b * 2 ^ (k - 1 - L) + 2 ^ (k - 1 - L)) → sA M2 18 q = sA M 18 q) → (∀ p, p < 2 * 2 ^ (k - 1 - L) → sA M2 20 (2 * (b * 2 ^ (k - 1 - L)) + p) = nI (nx (2 ^ (k - 1 - L)) (oB k o L b) p)) → (∀ q, ¬ (2 * (b * 2 ^ (k - 1 - L)) ≤ q ∧ q < 2 * (b * 2 ^ (k - 1 - L)) + 2 * 2 ^ (k - 1 - L)) → sA M2 20 q = sA M 20 q) → (∀ a, a ≠ 18 → a ≠ 20 → a ≠ 21 → sA M2 a = sA M a) → (∀ j, sF M2 j = sF M j) → Q M2) : pX6_part M (nI k) (nI L) (nI b) Q := by
  have p8 : 2 ^ (k - 1) ≤ 8 := Nat.pow_le_pow_right (by omega) (show k - 1 ≤ 3 by omega)
  have ec := hp_c (show L < k by omega)
  have et := hp_t (show L < k by omega)
  have m2 : 2 ≤ 2 ^ (k - 1 - L) := by
    have := hp_s hL
    have := pw_le (show k - 1 - (L + 1) ≤ 4 by omega)
    omega
  have hbE : b * 2 ^ (k - 1 - L) + 2 ^ (k - 1 - L) ≤ 8 := by
    have := Nat.mul_le_mul_right (2 ^ (k - 1 - L)) (show b + 1 ≤ 2 ^ L from hb)
    rw [Nat.succ_mul, ec] at this
    omega
  unfold pX6_part
  rw [nI_sub (show L ≤ k by omega), shl1 (by omega), et, tk2 k hk.1, nI_sub (show L ≤ 2 * k - 2 by omega)]
  generalize oB k o L b = ob at *
  generalize 2 ^ (k - 1 - L) = m at *
  have ebm : b * (2 * m) = 2 * (b * m) := Nat.mul_left_comm b 2 m
  have e5 : nI b * nI (2 * m) = nI (2 * (b * m)) := by rw [nI_mul, ebm]
  have e5h : (nI b * nI (2 * m)) / 2 = nI (b * m) := by rw [nI_mul, nI_div2 (by rw [ebm]; omega), dbl_half]
  have e6 : ((8 : Int32) * nI L) + (nI b * nI (2 * m)) / 2 = nI (8 * L + b * m) := by
    rw [e5h, show (8 : Int32) = nI 8 from rfl, nI_mul, nI_add]
  have e7 : ((8 : Int32) * nI (2 * k - 2 - L)) + (nI b * nI (2 * m)) / 2 = nI (8 * (2 * k - 2 - L) + b * m) := by
    rw [e5h, show (8 : Int32) = nI 8 from rfl, nI_mul, nI_add]
  rintro _ rfl _ rfl _ rfl _ rfl
  rw [e6, e7, e5]
  refine ⟨fun q => absurd ((nI_eq (b := 2) (by omega) (by omega)).mp q) (by omega), fun _ => ?_⟩
  refine m_rounds (by omega) ho h19 (fun g hg => ?_)
  refine m_write (M1 := uA M 21 g) (L := L) (la := 2 * k - 2 - L) (B := b * m) (by omega) (by omega) (by omega) (by omega) ho h19 hg (fun fb fd b1 b2 b3 b4 => ?_)
  refine h _ b1 b2 b3 b4 (fun a h1 h2 h3 => ?_) (fun j => rfl)
  rw [sA_uA, if_neg h2, sA_uA, if_neg h1, sA_uA, if_neg h3]
theorem m_part1 {M : St} {b : Nat} (hk : 1 ≤ k ∧ k ≤ 4) (hb : b < 2 ^ (k - 1)) {Q : St → Prop} (h : Q (uA M 18 (upd (sA M 18) (8 * (k - 1) + b) (sA M 19 (2 * b))))) : pX6_part M (nI k) (nI (k - 1)) (nI b) Q := by
  have p8 : 2 ^ (k - 1) ≤ 8 := Nat.pow_le_pow_right (by omega) (show k - 1 ≤ 3 by omega)
  unfold pX6_part
  rw [nI_sub (show k - 1 ≤ k by omega), shl1 (by omega), show k - (k - 1) = 1 by omega]
  have e5 : nI b * nI (2 ^ 1) = nI (2 * b) := by rw [nI_mul, Nat.mul_comm]
  have e6 : ((8 : Int32) * nI (k - 1)) + (nI b * nI (2 ^ 1)) / 2 = nI (8 * (k - 1) + b) := by
    rw [e5, nI_div2 (by omega), show 2 * b / 2 = b by omega, show (8 : Int32) = nI 8 from rfl, nI_mul, nI_add]
  rintro _ rfl _ rfl _ rfl _ rfl
  rw [e6, e5, nI_clamp (by omega), nI_clamp (by omega)]
  refine ⟨fun _ => ⟨vp_in_nI (by omega) (by omega), vp_in_nI (by omega) (by omega), ?_⟩, fun q => absurd rfl q⟩
  rintro _ rfl
  exact h
/-- the bits of the levels ahead of L -/
def bdn (k : Nat) (o : Nat → Nat) (L : Nat) (f : Nat → Int32) : Prop := ∀ st, st < L → ∀ j, j < 2 ^ (k - 1) → f (8 * st + j) = nI (Bt k o st j) ∧ f (8 * (2 * k - 2 - st) + j) = nI (Bt k o (2 * k - 2 - st) j)
theorem m_blocks {M : St} {L : Nat} {x4 x5 : Int32} (hk : 1 ≤ k ∧ k ≤ 4) (hL : L < k) (ho : prm (2 ^ k) o) (h19 : ∀ t, t < 2 ^ k → sA M 19 t = nI (Od k o L t)) (h18 : bdn k o L (sA M 18)) {Q : St → Prop} (h : ∀ M2, (L + 1 < k → ∀ t, t < 2 ^ k → sA M2 20 t = nI (Od k o (L + 1) t)) → bdn k o (L + 1) (sA M2 18) → (∀ a, a ≠ 18 → a ≠ 20 → a ≠ 21 → sA M2 a = sA M a) → (∀ j, sF M2 j = sF M j) → Q M2) : lX6_bit_207 (nI k) x4 x5 (nI (2 ^ k)) (nI L) Q M 0 := by
  have pk := pw_le hk.2
  have p8 : 2 ^ (k - 1) ≤ 8 := Nat.pow_le_pow_right (by omega) (show k - 1 ≤ 3 by omega)
  have ekk : 2 ^ k = 2 * 2 ^ (k - 1) := by
    have := hp_t (k := k) (L := 0) (by omega)
    rw [Nat.sub_zero, Nat.sub_zero] at this
    exact this
  have ec := hp_c hL
  have pL := pw_le (show L ≤ 4 by omega)
  have pm := pw_le (show k - 1 - L ≤ 4 by omega)
  have hbE : ∀ b, b < 2 ^ L → b * 2 ^ (k - 1 - L) + 2 ^ (k - 1 - L) ≤ 2 ^ (k - 1) := by
    intro b hb
    have := Nat.mul_le_mul_right (2 ^ (k - 1 - L)) (show b + 1 ≤ 2 ^ L from hb)
    rw [Nat.succ_mul, ec] at this
    exact this
  unfold lX6_bit_207
  refine lp_of (I := fun q => ∃ b M2, b ≤ 2 ^ L ∧ q = (M2, nI b) ∧ (L + 1 < k → ∀ t, t < 2 * (b * 2 ^ (k - 1 - L)) → sA M2 20 t = nI (Od k o (L + 1) t)) ∧ bdn k o L (sA M2 18) ∧ (∀ j, j < b * 2 ^ (k - 1 - L) → sA M2 18 (8 * L + j) = nI (Bt k o L j) ∧ sA M2 18 (8 * (2 * k - 2 - L) + j) = nI (Bt k o (2 * k - 2 - L) j)) ∧ (∀ a, a ≠ 18 → a ≠ 20 → a ≠ 21 → sA M2 a = sA M a) ∧ (∀ j, sF M2 j = sF M j)) (μ := fun q => 2 ^ L - q.2.toNatClampNeg) ?_ _ ⟨0, M, by omega, rfl, fun _ t ht => absurd ht (by rw [Nat.zero_mul]; exact Nat.not_lt_zero _), h18, fun t ht => absurd ht (by rw [Nat.zero_mul]; exact Nat.not_lt_zero _), fun _ _ _ _ => rfl, fun _ => rfl⟩
  rintro q ⟨b, M2, hb, rfl, i1, i2, i3, i4, i5⟩ K hK
  show bX6_bit_207 (nI k) x4 x5 (nI (2 ^ k)) (nI L) _ _ M2 (nI b)
  unfold bX6_bit_207
  rw [shl1 (show L ≤ 4 by omega), nI_s1]
  by_cases e : b = 2 ^ L
  · subst e
    rw [ec] at i1 i3
    refine ⟨fun _ => h M2 (fun q => by rw [ekk]; exact i1 q) (fun st hst j hj => ?_) i4 i5, fun q => absurd (nI_le (Nat.le_refl _) (by omega)) q⟩
    by_cases q : st = L
    · rw [q]
      exact i3 j hj
    · exact i2 st (by omega) j hj
  · have hbD : b < 2 ^ L := by omega
    have hE := hbE b hbD
    have es : (b + 1) * 2 ^ (k - 1 - L) = b * 2 ^ (k - 1 - L) + 2 ^ (k - 1 - L) := Nat.succ_mul b _
    refine ⟨fun q => absurd q (nI_ge hbD (by omega)), fun _ => ?_⟩
    have le : ∀ M3, 2 ^ L - (nI (b + 1)).toNatClampNeg < 2 ^ L - ((M3, nI b) : St × Int32).2.toNatClampNeg := by
      intro M3
      show 2 ^ L - (nI (b + 1)).toNatClampNeg < 2 ^ L - (nI b).toNatClampNeg
      rw [nI_clamp (by omega), nI_clamp (by omega)]
      omega
    by_cases hl : L + 1 < k
    · have e19 : ∀ i, i < 2 * 2 ^ (k - 1 - L) → sA M2 19 (2 * (b * 2 ^ (k - 1 - L)) + i) = nI (oB k o L b i) := by
        intro i hi
        rw [i4 19 (by omega) (by omega) (by omega), h19 _ (by omega)]
        show nI (Od k o L (2 * (b * 2 ^ (k - 1 - L)) + i)) = nI (Od k o L (b * (2 * 2 ^ (k - 1 - L)) + i))
        rw [Nat.mul_left_comm b 2]
      refine m_part2 hk hl hbD (oB_prm hk.1 ho L hL b hbD) e19 (fun M3 j1 j2 j3 j4 j5 j6 => ?_)
      rintro _ rfl
      refine hK _ ⟨b + 1, M3, by omega, rfl, fun _ t ht => ?_, fun st hst j hj => ?_, fun j hj => ?_, fun a h1 h2 h3 => (j5 a h1 h2 h3).trans (i4 a h1 h2 h3), fun j => (j6 j).trans (i5 j)⟩ (le M2)
      · rw [es] at ht
        by_cases q : t < 2 * (b * 2 ^ (k - 1 - L))
        · rw [j4 _ (by omega)]
          exact i1 hl t q
        · obtain ⟨p, rfl⟩ : ∃ p, t = 2 * (b * 2 ^ (k - 1 - L)) + p := ⟨t - 2 * (b * 2 ^ (k - 1 - L)), by omega⟩
          have hp : p < 2 * 2 ^ (k - 1 - L) := by omega
          rw [j3 p hp, ← Od_s hp, Nat.mul_left_comm b 2]
      · rw [j2 _ (by omega) (by omega), j2 _ (by omega) (by omega)]
        exact i2 st hst j hj
      · rw [es] at hj
        by_cases q : j < b * 2 ^ (k - 1 - L)
        · rw [j2 _ (by omega) (by omega), j2 _ (by omega) (by omega)]
          exact i3 j q
        · obtain ⟨p, rfl⟩ : ∃ p, j = b * 2 ^ (k - 1 - L) + p := ⟨j - b * 2 ^ (k - 1 - L), by omega⟩
          have hp : p < 2 ^ (k - 1 - L) := by omega
          rw [← Nat.add_assoc, ← Nat.add_assoc, (j1 p hp).1, (j1 p hp).2, Bt_a hl hp, Bt_c hl hp]
          exact ⟨rfl, rfl⟩
    · have eL : L = k - 1 := by omega
      subst eL
      have e1 : 2 ^ (k - 1 - (k - 1)) = 1 := by rw [Nat.sub_self]
      rw [e1, Nat.mul_one] at i3
      refine m_part1 hk hbD ?_
      rintro _ rfl
      have ev : sA M2 19 (2 * b) = nI (Bt k o (k - 1) b) := by
        rw [i4 19 (by omega) (by omega) (by omega), h19 _ (by omega), Bt_b hk.1]
      rw [ev]
      refine hK _ ⟨b + 1, _, by omega, rfl, fun q => absurd q hl, fun st hst j hj => ?_, fun j hj => ?_, fun a h1 h2 h3 => ?_, fun j => i5 j⟩ (le M2)
      · have := i2 st hst j hj
        rw [sA_uA, if_pos rfl, upd_other _ _ (by omega), upd_other _ _ (by omega)]
        exact this
      · rw [e1, Nat.mul_one] at hj
        rw [sA_uA, if_pos rfl, show 2 * k - 2 - (k - 1) = k - 1 by omega]
        by_cases q : j = b
        · rw [q, upd_same]
          exact ⟨rfl, rfl⟩
        · rw [upd_other _ _ (by omega)]
          have := (i3 j (by omega)).1
          exact ⟨this, this⟩
      · rw [sA_uA, if_neg h1]
        exact i4 a h1 h2 h3
theorem m_bits {M : St} {x4 x5 : Int32} (hk : 1 ≤ k ∧ k ≤ 4) (ho : prm (2 ^ k) o) (h19 : ∀ t, t < 2 ^ k → sA M 19 t = nI (o t)) {Q : St → Prop} (h : ∀ M2, (∀ st j, st < 2 * k - 1 → j < 2 ^ (k - 1) → sA M2 18 (8 * st + j) = nI (Bt k o st j)) → (∀ a, a < 14 → sA M2 a = sA M a) → (∀ j, sF M2 j = sF M j) → Q M2) : lX6_bit_198 (nI k) x4 x5 (nI (2 ^ k)) Q M 0 := by
  have pk := pw_le hk.2
  unfold lX6_bit_198
  refine lp_of (I := fun q => ∃ L M2, L ≤ k ∧ q = (M2, nI L) ∧ (L < k → ∀ t, t < 2 ^ k → sA M2 19 t = nI (Od k o L t)) ∧ bdn k o L (sA M2 18) ∧ (∀ a, a < 14 → sA M2 a = sA M a) ∧ (∀ j, sF M2 j = sF M j)) (μ := fun q => k - q.2.toNatClampNeg) ?_ _ ⟨0, M, by omega, rfl, fun _ => h19, fun st hst => absurd hst (Nat.not_lt_zero _), fun _ _ => rfl, fun _ => rfl⟩
  rintro q ⟨L, M2, hL, rfl, i1, i2, i3, i4⟩ K hK
  show bX6_bit_198 (nI k) x4 x5 (nI (2 ^ k)) _ _ M2 (nI L)
  unfold bX6_bit_198
  rw [nI_s1]
  by_cases e : L = k
  · subst e
    refine ⟨fun _ => h M2 (fun st j hst hj => ?_) i3 i4, fun q => absurd (nI_le (Nat.le_refl _) (by omega)) q⟩
    by_cases q : st < L
    · exact (i2 st q j hj).1
    · have := (i2 (2 * L - 2 - st) (by omega) j hj).2
      rw [show 2 * L - 2 - (2 * L - 2 - st) = st by omega] at this
      exact this
  · have hLk : L < k := by omega
    refine ⟨fun q => absurd q (nI_ge hLk (by omega)), fun _ => ?_⟩
    refine m_blocks hk hLk ho (i1 hLk) i2 (fun M3 j1 j2 j3 j4 => ?_)
    unfold lX6_bit_234
    refine lp_of (I := fun q => ∃ c f, c ≤ 2 ^ k ∧ q = (uA M3 19 f, nI c) ∧ ∀ t, t < c → f t = sA M3 20 t) (μ := fun q => 2 ^ k - q.2.toNatClampNeg) ?_ _ ⟨0, sA M3 19, by omega, by rw [uA_self]; rfl, fun t ht => absurd ht (Nat.not_lt_zero _)⟩
    rintro q ⟨c, f, hc, rfl, hf⟩ K2 hK2
    show bX6_bit_234 (nI k) x4 x5 (nI (2 ^ k)) (nI L) _ _ (uA M3 19 f) (nI c)
    unfold bX6_bit_234
    rw [nI_s1]
    by_cases e : c = 2 ^ k
    · subst e
      refine ⟨fun _ => ?_, fun q => absurd (nI_le (Nat.le_refl _) (by omega)) q⟩
      rintro _ rfl
      refine hK _ ⟨L + 1, uA M3 19 f, by omega, rfl, fun q t ht => ?_, j2, fun a ha => ?_, fun j => (j4 j).trans (i4 j)⟩ ?_
      · show f t = _
        rw [hf t ht]
        exact j1 q t ht
      · rw [sA_uA, if_neg (by omega), j3 a (by omega) (by omega) (by omega)]
        exact i3 a ha
      · show k - (nI (L + 1)).toNatClampNeg < k - (nI L).toNatClampNeg
        rw [nI_clamp (by omega), nI_clamp (by omega)]
        omega
    · refine ⟨fun q => absurd q (nI_ge (by omega) (by omega)), fun _ => ⟨vp_in_nI (by omega) (by omega), vp_in_nI (by omega) (by omega), ?_⟩⟩
      rintro _ rfl _ rfl
      rw [nI_clamp (by omega), uA_uA]
      refine hK2 _ ⟨c + 1, upd f c (sA M3 20 c), by omega, rfl, fun t ht => ?_⟩ ?_
      · by_cases q : t = c
        · rw [q]
          exact upd_same _ _ _
        · rw [upd_other _ _ q]
          exact hf t (by omega)
      · show 2 ^ k - (nI (c + 1)).toNatClampNeg < 2 ^ k - (nI c).toNatClampNeg
        rw [nI_clamp (by omega), nI_clamp (by omega)]
        omega
end MLV
theorem st_17 : stepOK_17 Rel := by
  intro T M a1 a2 a3 a4 a5 hR
  have h := hR
  obtain ⟨hS, hN, hA, hF⟩ := h
  simp only [pX5_bit, pX6_bit, sh5_iff, sh6_iff, within_iff, in_iff, forall_eq, Int32.toInt_toInt64, l64_0, l64_1, l64_4, l32_0, l32_1, l32_4, pX5_found, pX6_found, pX5_fine]
  by_cases h1 : 0 ≤ a2.toInt ∧ a2.toInt ≤ 7
  · obtain ⟨p, hp, rfl⟩ := nI_rg (n := 8) h1.1 (by omega) (by omega)
    by_cases h2 : 1 ≤ a1.toInt ∧ a1.toInt ≤ 4
    · obtain ⟨k, hk5, rfl⟩ := nI_rg (n := 5) (x := a1) (by omega) (by omega) (by omega)
      have tk := nI_toInt (n := k) (by omega)
      have hk : 1 ≤ k ∧ k ≤ 4 := by omega
      have pk := pw_le hk.2
      have p1 := pw_le (show k - 1 ≤ 4 by omega)
      have pw8 : 2 ^ (k - 1) ≤ 8 := Nat.pow_le_pow_right (by omega) (show k - 1 ≤ 3 by omega)
      have tp := tI_pred (n := 2 ^ (k - 1)) (by omega)
      have t2 := nI_toInt (n := 2 * k - 2) (by omega)
      simp only [if_pos h1, if_pos h2, one_ne, imp_F, not_F, imp_T, true_and, cl8 hp, in8 hp, sA_uF, shl1 hk.2, tp, nk1 k hk.1, shl1 (n := k - 1) (by omega), tk2 k hk.1, t2]
      by_cases h3 : 0 ≤ a4.toInt ∧ a4.toInt ≤ ((2 * k - 2 : Nat) : Int)
      · by_cases h4 : 0 ≤ a5.toInt ∧ a5.toInt ≤ ((2 ^ (k - 1) : Nat) : Int) - 1
        · obtain ⟨st, hst, rfl⟩ := nI_rg (n := 2 * k - 1) h3.1 (by omega) (by omega)
          obtain ⟨j, hj, rfl⟩ := nI_rg (n := 2 ^ (k - 1)) h4.1 (by omega) (by omega)
          rcases lane_neg hS hp with ⟨e1, e2⟩ | ⟨o, a, l, t, e1, k1, k2, k3, k4, k5, k6⟩
          · simp only [if_pos h3, if_pos h4, e1, e2, none_n, ob_n, imp_T, and_true, m1_ge, imp_F, not_F, true_and, one_ne]
            exact ⟨hS, hN, hA, rfl⟩
          · have hl : (0 : Int32) ≤ sA M 2 p := le_toInt'.mpr (by rw [l32_0]; exact k1)
            have tB := nI_toInt (n := 2 ^ k) (by omega)
            simp only [if_pos h3, if_pos h4, one_ne, e1, some_n, ob_e, imp_F, not_F, imp_T, true_and, hl, not_T, and_true, holds_iff k5, k4, lg_cmp_le]
            simp only [lt_toInt, Int64.le_iff_toInt_le, add64, Int32.toInt_toInt64, l32_0, nI_toInt (show l 1 < 2 ^ 31 by omega), tB]
            by_cases g1 : 0 ≤ a3.toInt ∧ 0 ≤ ((2 ^ k : Nat) : Int) ∧ a3.toInt + ((2 ^ k : Nat) : Int) ≤ (l 1 : Int)
            · obtain ⟨i, hi, rfl⟩ := nI_rg (x := a3) (n := 65) g1.1 (by omega) (by omega)
              have ti := nI_toInt (n := i) (by omega)
              have hil : i + 2 ^ k ≤ l 1 := by
                have := g1.2.2
                rw [ti] at this
                omega
              have hu : ∀ c, c < 2 ^ k → sA (uF M 0 0) 4 (64 * p + i + c) = sA t 1 (i + c) := by
                intro c hc
                have := k6 (i + c) (by omega)
                rw [show 64 * p + i + c = 64 * p + (i + c) by omega]
                exact this.symm
              have ex : ((8 : Int32) * nI st) + nI j = nI (8 * st + j) := by
                rw [show (8 : Int32) = nI 8 from rfl, nI_mul, nI_add]
              simp only [if_pos g1, one_ne, imp_F, not_F, imp_T, true_and]
              refine c_order hk hil k5 (fun hno R' => ?_) (fun mm R' hmm hR' => ?_)
              · refine ⟨fun _ => ⟨fun q => by omega, fun _ => ⟨fun _ => ?_, fun q => absurd g1.2.2 q⟩⟩, fun q => absurd rfl q⟩
                refine m_order (u := fun c => sA t 1 (i + c)) hp hk (by omega) hu (fun _ f => ?_) (fun mm f hmm _ => ?_)
                · exact Rel_up hR (M0 := uF M 0 0) (fun j => rfl) rfl ⟨fun j hj => by rw [sA_uA, if_neg (by omega)], fun j hj => rfl⟩ (RS_same hS e1) rfl rfl hF
                · rw [hno] at hmm
                  cases hmm
              · obtain ⟨od, hod, huo⟩ := tkM_prm (by omega) hmm
                refine ⟨fun q => absurd q (by decide), fun _ => ?_⟩
                refine c_all (R := R') hk hod (fun c hc => (hR' c hc).trans (huo c hc)) (fun R2 hB => ?_)
                refine ⟨vp_in_nI (by omega) (by omega), vp_in_nI (by omega) (by omega), fun q => by omega, fun _ => ⟨fun _ => ?_, fun q => absurd g1.2.2 q⟩⟩
                refine m_order (u := fun c => sA t 1 (i + c)) hp hk (by omega) hu (fun hno f => ?_) (fun mm2 f _ hf => ?_)
                · rw [hmm] at hno
                  cases hno
                · refine m_bits (M := uF (uA (uF M 0 0) 19 f) 1 0) (o := od) hk hod (fun c hc => (hf c hc).trans (huo c hc)) (fun M2 b1 b2 b3 => ?_)
                  rw [ex, nI_clamp (show 8 * st + j < 2 ^ 31 by omega), b1 st j hst hj]
                  refine ⟨vp_in_nI (by omega) (by omega), ?_, ?_⟩
                  · show sA R2 (10 + (nI st).toNatClampNeg) (nI j).toNatClampNeg = _
                    rw [nI_clamp (by omega), nI_clamp (by omega)]
                    exact hB st j hst hj
                  · refine Rel_up hR (M0 := uF (uF M 0 0) 1 0) (fun j => rfl) rfl ⟨fun a ha => ?_, fun j hj => b3 j⟩ (RS_same hS e1) rfl rfl rfl
                    rw [b2 a ha]
                    show sA (uA (uF M 0 0) 19 f) a = sA M a
                    rw [sA_uA, if_neg (by omega)]
                    rfl
            · simp only [if_neg g1, zero_eq, imp_F, not_T, imp_T, and_true, true_and]
              exact ⟨fun q2 => ⟨hS, hN, hA, rfl⟩, fun _ => ⟨fun q2 => by omega, fun _ => ⟨hS, hN, hA, rfl⟩⟩⟩
        · simp only [if_pos h3, if_neg h4, one_ne, zero_eq, imp_F, not_F, not_T, imp_T, and_true, true_and]
          exact ⟨hS, hN, hA, hF⟩
      · simp only [if_neg h3, zero_eq, imp_F, not_T, imp_T, and_true, true_and]
        exact ⟨hS, hN, hA, hF⟩
    · simp only [if_pos h1, if_neg h2, one_ne, zero_eq, imp_F, not_F, not_T, imp_T, and_true, true_and]
      exact ⟨hS, hN, hA, hF⟩
  · simp only [if_neg h1, zero_eq, imp_F, not_T, imp_T, and_true, true_and]
    exact ⟨hS, hN, hA, hF⟩
