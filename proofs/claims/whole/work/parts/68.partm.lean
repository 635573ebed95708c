/-! the model's part of a block -/
theorem uA_ab (M : St) {a b : Nat} (hab : a ≠ b) (f g f' : Nat → Int32) : uA (uA (uA M a f) b g) a f' = uA (uA M a f') b g := by
  unfold uA
  simp only [Prod.mk.injEq, true_and, and_true]
  funext j
  unfold va_up
  by_cases e : j = a
  · rw [if_pos e, if_neg (fun q => hab (e.symm.trans q)), if_pos e]
  · by_cases e2 : j = b
    · rw [if_neg e, if_pos e2, if_pos e2]
    · rw [if_neg e, if_neg e2, if_neg e, if_neg e2, if_neg e]
section MPT
variable {m base : Nat} {o : Nat → Nat}
theorem m_srch {s : St} {x4 x6 x7 x8 : Int32} (hbs : base + 2 * m ≤ 16) (ho : prm (2 * m) o) (h19 : ∀ i, i < 2 * m → sA s 19 (base + i) = nI (o i)) {v : Nat} (hv : v < 2 * m) {K : Int32 → Prop} (h : K (nI (iv (2 * m) o v))) : lX6_part_139 s x4 (nI base) x6 x7 x8 (nI v) K 0 := by
  unfold lX6_part_139
  refine lp_find (2 * m) (by omega) (fun i => decide (o i = v)) (fun k K2 hk hj hK => ?_) (fun K2 hj => ?_)
  · show bX6_part_139 s x4 (nI base) x6 x7 x8 (nI v) K _ (nI k)
    unfold bX6_part_139
    have := ho.1 k hk
    rw [nI_add, nI_clamp (show base + k < 2 ^ 31 by omega), h19 k hk, nI_s1]
    refine ⟨vp_in_nI (by omega) (by omega), fun q => ?_, fun q => ?_⟩
    · have e : o k = v := (nI_eq (by omega) (by omega)).mp q
      have e2 : iv (2 * m) o v = k := by
        unfold iv
        rw [frs_eq (P := fun i => decide (o i = v)) (decide_eq_true e) hj hk]
        rfl
      rw [e2] at h
      exact h
    · rintro _ rfl
      exact hK (decide_eq_false (fun q2 => q (by rw [q2])))
  · exfalso
    obtain ⟨i, h1, h2⟩ := prm_sur ho hv
    have := hj i h1
    rw [decide_eq_true h2] at this
    cases this
theorem m_rounds {M : St} {x6 x7 : Int32} (hbs : base + 2 * m ≤ 16) (ho : prm (2 * m) o) (h19 : ∀ i, i < 2 * m → sA M 19 (base + i) = nI (o i)) {Q : St → Prop} (h : ∀ g, (∀ i, i < 2 * m → g i = nI (hf (2 * m) o i)) → Q (uA M 21 g)) : lX6_part_69 (nI (2 * m)) (nI base) x6 x7 (fun (s_90 : St) => lX6_part_93 (nI (2 * m)) (nI base) x6 x7 Q s_90 0) M 0 := by
  have ol : ∀ i, i < 2 * m → o i < 16 := fun i hi => by have := ho.1 i hi; omega
  unfold lX6_part_69
  refine lp_of (I := fun q => ∃ k g, k ≤ 2 * m ∧ q = (uA M 21 g, nI k) ∧ ∀ i, i < k → g i = -1) (μ := fun q => 2 * m - q.2.toNatClampNeg) ?_ _ ⟨0, sA M 21, by omega, by rw [uA_self]; rfl, fun i hi => absurd hi (Nat.not_lt_zero _)⟩
  rintro q ⟨k, g, hk, rfl, hg⟩ K hK
  show bX6_part_69 (nI (2 * m)) (nI base) x6 x7 _ _ (uA M 21 g) (nI k)
  unfold bX6_part_69
  by_cases e : k = 2 * m
  · subst e
    refine ⟨fun _ => ?_, fun q => absurd (nI_le (Nat.le_refl _) (by omega)) q⟩
    unfold lX6_part_93
    refine lp_of (I := fun q => ∃ s g, s ≤ 2 * m ∧ q = (uA M 21 g, nI s) ∧ ∀ i, i < 2 * m → g i = enH (gr (2 * m) o s i)) (μ := fun q => 2 * m - q.2.toNatClampNeg) ?_ _ ⟨0, g, by omega, rfl, fun i hi => hg i hi⟩
    rintro q ⟨s, g2, hs, rfl, hg2⟩ K2 hK2
    show bX6_part_93 (nI (2 * m)) (nI base) x6 x7 _ _ (uA M 21 g2) (nI s)
    unfold bX6_part_93
    rw [nI_s1]
    by_cases e : s = 2 * m
    · subst e
      refine ⟨fun _ => h g2 (fun i hi => ?_), fun q => absurd (nI_le (Nat.le_refl _) (by omega)) q⟩
      rw [hg2 i hi]
      exact enH_n (hf_spec ho hi).1
    · have hsl : s < 2 * m := by omega
      refine ⟨fun q => absurd q (nI_ge hsl (by omega)), fun _ => ?_⟩
      have done : ∀ g3, (∀ i, i < 2 * m → g3 i = enH (gr (2 * m) o (s + 1) i)) → ∀ x5 : Int32, x5 = nI (s + 1) → K2 (uA M 21 g3, x5) := by
        rintro g3 h3 _ rfl
        refine hK2 _ ⟨s + 1, g3, by omega, rfl, h3⟩ ?_
        show 2 * m - (nI (s + 1)).toNatClampNeg < 2 * m - (nI s).toNatClampNeg
        rw [nI_clamp (by omega), nI_clamp (by omega)]
        omega
      unfold lX6_part_104
      have mu : ∀ (g3 : Nat → Int32) (hh : Nat → Nat), hb2 hh → (∀ i, i < 2 * m → g3 i = enH (hh i)) → cnt (fun i => decide (g3 i = -1)) (2 * m) = unl (2 * m) hh := by
        intro g3 hh hb hg3
        refine cnt_same _ (fun j hj => ?_)
        show decide (g3 j = -1) = decide (hh j = 2)
        rw [hg3 j hj]
        exact decide_eq_decide.mpr (enH_iff (hb j))
      refine lp_of (I := fun q => ∃ f hh a g3, a < 2 * m ∧ hb2 hh ∧ q = (uA M 21 g3, nI a) ∧ (∀ i, i < 2 * m → g3 i = enH (hh i)) ∧ unl (2 * m) hh ≤ f ∧ rg (2 * m) o f hh a = gr (2 * m) o (s + 1)) (μ := fun q => cnt (fun i => decide (sA q.1 21 i = -1)) (2 * m)) ?_ _ ⟨2 * m, gr (2 * m) o s, s, g2, hsl, gr_b s, rfl, hg2, unl_le _ _, rfl⟩
      rintro q ⟨f, hh, a, g3, ha, hb, rfl, hg3, hun, hr⟩ K3 hK3
      show bX6_part_104 (nI (2 * m)) (nI base) x6 x7 (nI s) _ _ (uA M 21 g3) (nI a)
      unfold bX6_part_104
      have g33 : sA (uA M 21 g3) 21 = g3 := rfl
      have va : vp_in (nI a) 16 := vp_in_nI (by omega) (by omega)
      rw [g33, nI_clamp (show a < 2 ^ 31 by omega), hg3 a ha, nI_add, nI_clamp (show base + a < 2 ^ 31 by omega)]
      refine ⟨va, fun q => ?_, fun q => ⟨va, ?_⟩⟩
      · have hu := (enH_ge (hb a)).mp q
        have hr2 : hh = gr (2 * m) o (s + 1) := by
          rw [← hr]
          cases f with
          | zero => rfl
          | succ f => exact (if_neg hu).symm
        exact done g3 (fun i hi => by rw [← hr2]; exact hg3 i hi)
      · have hu : hh a = 2 := by
          cases Nat.decEq (hh a) 2 with
          | isTrue q2 => exact q2
          | isFalse q2 => exact absurd ((enH_ge (hb a)).mpr q2) q
        obtain ⟨f, rfl⟩ : ∃ f', f = f' + 1 := ⟨f - 1, by have := unl_pos ha hu; omega⟩
        have hr2 : rg (2 * m) o f (stp (2 * m) o hh a) (xp (tau (2 * m) o a)) = gr (2 * m) o (s + 1) := by
          rw [← hr]
          exact (if_pos hu).symm
        have tl := tau_lt ho ha
        have xl := xp_lt (ho.1 a ha)
        rintro _ rfl
        refine ⟨vp_in_nI (by omega) (by omega), ?_⟩
        rw [show sA (uA (uA M 21 g3) 21 (upd g3 a 0)) 19 (base + a) = nI (o a) from h19 a ha, xp_I _ (ol a ha)]
        rintro _ rfl
        refine m_srch hbs ho (fun i hi => ?_) xl ?_
        · exact h19 i hi
        · show (vp_in (nI (tau (2 * m) o a)) 16) ∧ _
          refine ⟨vp_in_nI (by omega) (by omega), ?_⟩
          rintro _ rfl _ rfl
          show K3 (uA (uA (uA M 21 g3) 21 (upd g3 a 0)) 21 (upd (upd g3 a 0) (nI (tau (2 * m) o a)).toNatClampNeg 1), nI (tau (2 * m) o a) ^^^ 1)
          rw [xp_I _ (show tau (2 * m) o a < 16 by omega)]
          have hun2 := unl_stp ho ha hu
          have hge := enH_stp (n := 2 * m) (o := o) (a := a) hg3
          refine hK3 _ ⟨f, stp (2 * m) o hh a, xp (tau (2 * m) o a), upd (upd g3 a 0) (tau (2 * m) o a) 1, xp_lt tl, stp_b hb, ?_, hge, by omega, hr2⟩ ?_
          · show (uA (uA (uA M 21 g3) 21 (upd g3 a 0)) 21 (upd (upd g3 a 0) (nI (tau (2 * m) o a)).toNatClampNeg 1), nI (xp (tau (2 * m) o a))) = _
            rw [uA_uA, uA_uA, nI_clamp (by omega)]
          · show cnt (fun i => decide (upd (upd g3 a 0) (nI (tau (2 * m) o a)).toNatClampNeg 1 i = -1)) (2 * m) < cnt (fun i => decide (g3 i = -1)) (2 * m)
            rw [nI_clamp (by omega), mu g3 hh hb hg3, mu _ _ (stp_b hb) hge]
            exact hun2
  · have hkl : k < 2 * m := by omega
    rw [nI_s1]
    refine ⟨fun q => absurd q (nI_ge hkl (by omega)), fun _ => ⟨vp_in_nI (by omega) (by omega), ?_⟩⟩
    rintro _ rfl _ rfl
    rw [nI_clamp (by omega), uA_uA]
    refine hK _ ⟨k + 1, upd g k (-1), by omega, rfl, fun i hi => ?_⟩ ?_
    · by_cases q : i = k
      · rw [q]
        exact upd_same _ _ _
      · rw [upd_other _ _ q]
        exact hg i (by omega)
    · show 2 * m - (nI (k + 1)).toNatClampNeg < 2 * m - (nI k).toNatClampNeg
      rw [nI_clamp (by omega), nI_clamp (by omega)]
      omega
theorem m_j231 {M1 : St} {x6 : Int32} {la B i : Nat} (hB : B + m ≤ 8) (hl : la ≤ 6) (hbs : base + 2 * m ≤ 16) (ho : prm (2 * m) o) (h21 : ∀ i, i < 2 * m → sA M1 21 i = nI (hf (2 * m) o i)) (hi : i < 2 * m) {fb fd : Nat → Int32} {K : St → Int32 → Prop} (h : K (uA (uA M1 18 (if o i % 2 = 0 then upd fb (8 * la + B + o i / 2) (nI (hf (2 * m) o i)) else fb)) 20 (upd fd (base + (hf (2 * m) o i * m + i / 2)) (nI (o i / 2)))) (nI (i + 1))) : jX6_part_231 K (uA (uA M1 18 fb) 20 fd) (nI (2 * m)) (nI base) x6 (nI (8 * la + B)) (nI i) (nI (o i)) := by
  have okl := ho.1 i hi
  have hfk := (hf_spec ho hi).1
  have hpos := idx_lt (r := m) (m := 2) (x := hf (2 * m) o i) (f := i / 2) hfk (by omega)
  have hfm2 : hf (2 * m) o i * (2 * m) ≤ 2 * m := by
    have := Nat.mul_le_mul_right (2 * m) (show hf (2 * m) o i ≤ 1 by omega)
    omega
  have ep : (nI base + ((nI (hf (2 * m) o i) * nI (2 * m)) / 2)) + nI i / 2 = nI (base + (hf (2 * m) o i * m + i / 2)) := by
    rw [nI_mul, nI_div2 (by omega), dbl_half, nI_div2 (by omega), nI_add, nI_add, Nat.add_assoc]
  have vi : vp_in (nI i) 16 := vp_in_nI (by omega) (by omega)
  have vp : vp_in (nI (base + (hf (2 * m) o i * m + i / 2))) 16 := vp_in_nI (by omega) (by omega)
  unfold jX6_part_231
  rw [nI_rem2 (by omega), nI_div2 (a := o i) (by omega), nI_add, nI_clamp (show i < 2 ^ 31 by omega), nI_clamp (show 8 * la + B + o i / 2 < 2 ^ 31 by omega), nI_s1]
  have h21' : ∀ f, sA (uA (uA (uA M1 18 fb) 20 fd) 18 f) 21 i = nI (hf (2 * m) o i) := fun f => h21 i hi
  have h21'' : sA (uA (uA M1 18 fb) 20 fd) 21 i = nI (hf (2 * m) o i) := h21 i hi
  refine ⟨fun q => ⟨vi, vp_in_nI (by omega) (by omega), ?_⟩, fun q => ⟨vi, ?_⟩⟩
  · have q0 : o i % 2 = 0 := (nI_eq (b := 0) (by omega) (by omega)).mp q
    rw [if_pos q0] at h
    rintro _ rfl
    rw [h21', ep, nI_clamp (by omega)]
    refine ⟨vi, vp, ?_⟩
    rintro _ rfl _ rfl
    rw [h21'', uA_pp M1 (by omega)]
    exact h
  · have q0 : ¬ o i % 2 = 0 := fun q2 => q (by rw [q2]; rfl)
    rw [if_neg q0] at h
    rw [h21'', ep, nI_clamp (by omega)]
    refine ⟨vp, ?_⟩
    rintro _ rfl _ rfl
    rw [uA_uA]
    exact h
theorem m_write {M1 : St} {L la B : Nat} (hB : B + m ≤ 8) (hL : L < la) (hl : la ≤ 6) (hbs : base + 2 * m ≤ 16) (ho : prm (2 * m) o) (h19 : ∀ i, i < 2 * m → sA M1 19 (base + i) = nI (o i)) (h21 : ∀ i, i < 2 * m → sA M1 21 i = nI (hf (2 * m) o i)) {Q : St → Prop} (h : ∀ fb fd, (∀ j, j < m → fb (8 * L + B + j) = nI (hf (2 * m) o (2 * j)) ∧ fb (8 * la + B + j) = nI (hf (2 * m) o (iv (2 * m) o (2 * j)))) → (∀ q, ¬ (8 * L + B ≤ q ∧ q < 8 * L + B + m) → ¬ (8 * la + B ≤ q ∧ q < 8 * la + B + m) → fb q = sA M1 18 q) → (∀ p, p < 2 * m → fd (base + p) = nI (nx m o p)) → (∀ q, ¬ (base ≤ q ∧ q < base + 2 * m) → fd q = sA M1 20 q) → Q (uA (uA M1 18 fb) 20 fd)) : lX6_part_186 (nI (2 * m)) (nI base) (nI (8 * L + B)) (nI (8 * la + B)) Q M1 0 := by
  unfold lX6_part_186
  refine lp_of (I := fun q => ∃ i fb fd, i ≤ 2 * m ∧ q = (uA (uA M1 18 fb) 20 fd, nI i) ∧ (∀ j, 2 * j < i → fb (8 * L + B + j) = nI (hf (2 * m) o (2 * j))) ∧ (∀ c, c < i → o c % 2 = 0 → fb (8 * la + B + o c / 2) = nI (hf (2 * m) o c)) ∧ (∀ q, ¬ (8 * L + B ≤ q ∧ q < 8 * L + B + m) → ¬ (8 * la + B ≤ q ∧ q < 8 * la + B + m) → fb q = sA M1 18 q) ∧ (∀ c, c < i → fd (base + (hf (2 * m) o c * m + c / 2)) = nI (o c / 2)) ∧ (∀ q, ¬ (base ≤ q ∧ q < base + 2 * m) → fd q = sA M1 20 q)) (μ := fun q => 2 * m - q.2.toNatClampNeg) ?_ _ ⟨0, sA M1 18, sA M1 20, by omega, by rw [uA_self, uA_self]; rfl, fun j hj => absurd hj (Nat.not_lt_zero _), fun c hc => absurd hc (Nat.not_lt_zero _), fun _ _ _ => rfl, fun c hc => absurd hc (Nat.not_lt_zero _), fun _ _ => rfl⟩
  rintro q ⟨i, fb, fd, hi, rfl, a1, a2, a3, a4, a5⟩ K hK
  show bX6_part_186 (nI (2 * m)) (nI base) (nI (8 * L + B)) (nI (8 * la + B)) _ _ (uA (uA M1 18 fb) 20 fd) (nI i)
  unfold bX6_part_186
  by_cases e : i = 2 * m
  · subst e
    refine ⟨fun _ => h fb fd (fun j hj => ⟨a1 j (by omega), ?_⟩) a3 (fun p hp => ?_) a5, fun q => absurd (nI_le (Nat.le_refl _) (by omega)) q⟩
    · obtain ⟨i1, i2⟩ := iv_spec ho (show 2 * j < 2 * m by omega)
      have := a2 _ i1 (by rw [i2]; omega)
      rw [i2, show 2 * j / 2 = j by omega] at this
      exact this
    · obtain ⟨c, hc, rfl⟩ := hf_pick ho hp
      rw [a4 c hc, nx_at ho hc]
  · have hil : i < 2 * m := by omega
    have okl := ho.1 i hil
    have hfk := (hf_spec ho hil).1
    have hpos := idx_lt (r := m) (m := 2) (x := hf (2 * m) o i) (f := i / 2) hfk (by omega)
    have step : ∀ fb1, (∀ j, 2 * j < i + 1 → fb1 (8 * L + B + j) = nI (hf (2 * m) o (2 * j))) → (∀ q, ¬ (8 * L + B ≤ q ∧ q < 8 * L + B + m) → fb1 q = fb q) → jX6_part_231 (fun s x8 => K (s, x8)) (uA (uA M1 18 fb1) 20 fd) (nI (2 * m)) (nI base) (nI (8 * L + B)) (nI (8 * la + B)) (nI i) (nI (o i)) := by
      intro fb1 b1 b2
      refine m_j231 hB hl hbs ho h21 hil ?_
      refine hK _ ⟨i + 1, _, _, by omega, rfl, fun j hj => ?_, fun c hc h0 => ?_, fun q q1 q2 => ?_, fun c hc => ?_, fun q q1 => ?_⟩ ?_
      · by_cases q : o i % 2 = 0
        · rw [if_pos q, upd_other _ _ (by omega)]
          exact b1 j hj
        · rw [if_neg q]
          exact b1 j hj
      · have ocl := ho.1 c (by omega)
        by_cases q3 : c = i
        · subst q3
          rw [if_pos h0]
          exact upd_same _ _ _
        · by_cases q : o i % 2 = 0
          · rw [if_pos q, upd_other _ _ (fun q4 => q3 (ho.2 c i (by omega) hil (by omega))), b2 _ (by omega)]
            exact a2 c (by omega) h0
          · rw [if_neg q, b2 _ (by omega)]
            exact a2 c (by omega) h0
      · by_cases q3 : o i % 2 = 0
        · rw [if_pos q3, upd_other _ _ (by omega), b2 _ q1]
          exact a3 q q1 q2
        · rw [if_neg q3, b2 _ q1]
          exact a3 q q1 q2
      · by_cases q3 : c = i
        · rw [q3]
          exact upd_same _ _ _
        · rw [upd_other _ _ (fun q4 => q3 (hf_dist ho (by omega) hil (by omega)))]
          exact a4 c (by omega)
      · rw [upd_other _ _ (by omega)]
        exact a5 q q1
      · show 2 * m - (nI (i + 1)).toNatClampNeg < 2 * m - (nI i).toNatClampNeg
        rw [nI_clamp (by omega), nI_clamp (by omega)]
        omega
    have vi : vp_in (nI i) 16 := vp_in_nI (by omega) (by omega)
    rw [nI_add, nI_clamp (show base + i < 2 ^ 31 by omega), show sA (uA (uA M1 18 fb) 20 fd) 19 (base + i) = nI (o i) from h19 i hil, nI_rem2 (by omega), nI_div2 (by omega), nI_add, nI_clamp (show i < 2 ^ 31 by omega), nI_clamp (show 8 * L + B + i / 2 < 2 ^ 31 by omega)]
    refine ⟨fun q => absurd q (nI_ge hil (by omega)), fun _ => ⟨vp_in_nI (by omega) (by omega), ?_⟩⟩
    rintro _ rfl
    refine ⟨fun q => ⟨vi, vp_in_nI (by omega) (by omega), ?_⟩, fun q => ?_⟩
    · have q0 : i % 2 = 0 := (nI_eq (b := 0) (by omega) (by omega)).mp q
      rintro _ rfl
      rw [show sA (uA (uA M1 18 fb) 20 fd) 21 i = nI (hf (2 * m) o i) from h21 i hil, uA_ab M1 (by omega)]
      refine step _ (fun j hj => ?_) (fun q q1 => upd_other _ _ (by omega))
      show upd fb (8 * L + B + i / 2) (nI (hf (2 * m) o i)) (8 * L + B + j) = _
      by_cases q3 : 2 * j = i
      · rw [q3, show i / 2 = j by omega]
        exact upd_same _ _ _
      · rw [upd_other _ _ (by omega)]
        exact a1 j (by omega)
    · have q0 : ¬ i % 2 = 0 := fun q2 => q (by rw [q2]; rfl)
      exact step fb (fun j hj => a1 j (by omega)) (fun _ _ => rfl)
end MPT
