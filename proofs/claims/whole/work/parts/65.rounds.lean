/-! the class goes round -/
def enH (v : Nat) : Int32 := if v = 2 then -1 else nI v
theorem enH_iff {v : Nat} (h : v ≤ 2) : enH v = -1 ↔ v = 2 := by
  obtain rfl | rfl | rfl : v = 0 ∨ v = 1 ∨ v = 2 := by omega
  · exact ⟨fun q => absurd q (by decide), fun q => absurd q (by omega)⟩
  · exact ⟨fun q => absurd q (by decide), fun q => absurd q (by omega)⟩
  · exact ⟨fun _ => rfl, fun _ => rfl⟩
theorem enH_ge {v : Nat} (h : v ≤ 2) : 0 ≤ enH v ↔ v ≠ 2 := by
  obtain rfl | rfl | rfl : v = 0 ∨ v = 1 ∨ v = 2 := by omega
  · exact ⟨fun _ => by omega, fun _ => by decide⟩
  · exact ⟨fun _ => by omega, fun _ => by decide⟩
  · exact ⟨fun q => absurd q (by decide), fun q => absurd rfl q⟩
theorem enH_n {v : Nat} (h : v < 2) : enH v = nI v := if_neg (by omega)
def hb2 (h : Nat → Nat) : Prop := ∀ i, h i ≤ 2
theorem stp_b {n : Nat} {o h : Nat → Nat} {a : Nat} (hb : hb2 h) : hb2 (stp n o h a) := by
  intro i
  unfold stp upN
  split
  · omega
  · split
    · omega
    · exact hb i
theorem rg_b {n : Nat} {o : Nat → Nat} : ∀ (f : Nat) (h : Nat → Nat) (a : Nat), hb2 h → hb2 (rg n o f h a)
  | 0, h, a, hb => hb
  | f + 1, h, a, hb => by
    unfold rg
    split
    · exact rg_b f _ _ (stp_b hb)
    · exact hb
theorem gr_b {n : Nat} {o : Nat → Nat} : ∀ s, hb2 (gr n o s)
  | 0 => fun _ => Nat.le_refl 2
  | s + 1 => rg_b n _ _ (gr_b s)
theorem enH_stp {n : Nat} {o h : Nat → Nat} {a : Nat} {g : Nat → Int32} (hg : ∀ i, i < n → g i = enH (h i)) : ∀ i, i < n → upd (upd g a 0) (tau n o a) 1 i = enH (stp n o h a i) := by
  intro i hi
  unfold upd stp upN
  by_cases q : i = tau n o a
  · rw [if_pos q, if_pos q]
    rfl
  · rw [if_neg q, if_neg q]
    by_cases q2 : i = a
    · rw [if_pos q2, if_pos q2]
      rfl
    · rw [if_neg q2, if_neg q2]
      exact hg i hi
section GR
variable {R : St} {d base m : Nat} {o : Nat → Nat}
theorem c_round (hd : d < 4) (hbs : base + 2 * m ≤ 16) (ho : prm (2 * m) o) (hR : ∀ i, i < 2 * m → sA R (20 + d) (base + i) = nI (o i)) {Q : St → Prop} (h : ∀ f g, (∀ v, v < 2 * m → f v = nI (iv (2 * m) o v)) → (∀ i, i < 2 * m → g i = nI (hf (2 * m) o i)) → Q (uA (uA R 2 f) 3 g)) : pX3_goRound R (nI d) (nI base) (nI (2 * m)) Q := by
  have ol : ∀ i, i < 2 * m → o i < 16 := fun i hi => by have := ho.1 i hi; omega
  have r20 : ∀ f g, sA (uA (uA R 2 f) 3 g) (20 + d) = sA R (20 + d) := fun f g => by
    rw [sA_uA, if_neg (by omega), sA_uA, if_neg (by omega)]
  unfold pX3_goRound
  rw [nI_clamp (show d < 2 ^ 31 by omega)]
  refine ⟨vp_in_nI hd (by omega), ?_⟩
  unfold lX3_goRound_11
  refine lp_of (I := fun q => ∃ k f g, k ≤ 2 * m ∧ q = (uA (uA R 2 f) 3 g, nI k) ∧ ∀ i, i < k → f (o i) = nI i ∧ g i = -1) (μ := fun q => 2 * m - q.2.toNatClampNeg) ?_ _ ⟨0, sA R 2, sA R 3, by omega, by rw [uA_self, uA_self]; rfl, fun i hi => absurd hi (Nat.not_lt_zero _)⟩
  rintro q ⟨k, f, g, hk, rfl, hfg⟩ K hK
  show bX3_goRound_11 (nI base) (nI (2 * m)) d _ _ (uA (uA R 2 f) 3 g) (nI k)
  unfold bX3_goRound_11
  by_cases e : k = 2 * m
  · subst e
    refine ⟨fun _ => ?_, fun q => absurd (nI_le (Nat.le_refl _) (by omega)) q⟩
    have hf1 : ∀ v, v < 2 * m → f v = nI (iv (2 * m) o v) := by
      intro v hv
      obtain ⟨i1, i2⟩ := iv_spec ho hv
      have := (hfg _ i1).1
      rw [i2] at this
      exact this
    have f2 : ∀ g2, sA (uA (uA R 2 f) 3 g2) 2 = f := fun g2 => rfl
    unfold lX3_goRound_48
    refine lp_of (I := fun q => ∃ s g, s ≤ 2 * m ∧ q = (uA (uA R 2 f) 3 g, nI s) ∧ ∀ i, i < 2 * m → g i = enH (gr (2 * m) o s i)) (μ := fun q => 2 * m - q.2.toNatClampNeg) ?_ _ ⟨0, g, by omega, rfl, fun i hi => (hfg i hi).2⟩
    rintro q ⟨s, g2, hs, rfl, hg2⟩ K2 hK2
    show bX3_goRound_48 (nI base) (nI (2 * m)) d _ _ (uA (uA R 2 f) 3 g2) (nI s)
    unfold bX3_goRound_48
    rw [nI_s1]
    by_cases e : s = 2 * m
    · subst e
      refine ⟨fun _ => h f g2 hf1 (fun i hi => ?_), fun q => absurd (nI_le (Nat.le_refl _) (by omega)) q⟩
      rw [hg2 i hi]
      exact enH_n (hf_spec ho hi).1
    · have hsl : s < 2 * m := by omega
      refine ⟨fun q => absurd q (nI_ge hsl (by omega)), fun _ => ?_⟩
      have done : ∀ g3, (∀ i, i < 2 * m → g3 i = enH (gr (2 * m) o (s + 1) i)) → ∀ x5 : Int32, x5 = nI (s + 1) → K2 (uA (uA R 2 f) 3 g3, x5) := by
        rintro g3 h3 _ rfl
        refine hK2 _ ⟨s + 1, g3, by omega, rfl, h3⟩ ?_
        show 2 * m - (nI (s + 1)).toNatClampNeg < 2 * m - (nI s).toNatClampNeg
        rw [nI_clamp (by omega), nI_clamp (by omega)]
        omega
      unfold lX3_goRound_61
      refine lp_of (I := fun q => ∃ c hh a g3, c ≤ 2 * m ∧ a < 2 * m ∧ hb2 hh ∧ q = (uA (uA R 2 f) 3 g3, nI a, nI c) ∧ (∀ i, i < 2 * m → g3 i = enH (hh i)) ∧ rg (2 * m) o (2 * m - c) hh a = gr (2 * m) o (s + 1)) (μ := fun q => 2 * m - q.2.2.toNatClampNeg) ?_ _ ⟨0, gr (2 * m) o s, s, g2, by omega, hsl, gr_b s, rfl, hg2, rfl⟩
      rintro q ⟨c, hh, a, g3, hc, ha, hb, rfl, hg3, hr⟩ K3 hK3
      show bX3_goRound_61 (nI base) (nI (2 * m)) d (nI s) _ _ (uA (uA R 2 f) 3 g3) (nI a) (nI c)
      unfold bX3_goRound_61
      have g33 : sA (uA (uA R 2 f) 3 g3) 3 = g3 := rfl
      rw [g33, nI_s1]
      by_cases e : c = 2 * m
      · subst e
        rw [Nat.sub_self] at hr
        have hr' : hh = gr (2 * m) o (s + 1) := hr
        refine ⟨fun _ => done g3 (fun i hi => by rw [← hr']; exact hg3 i hi), fun q => absurd (nI_le (Nat.le_refl _) (by omega)) q⟩
      · obtain ⟨f', hf'⟩ : ∃ f', 2 * m - c = f' + 1 := ⟨2 * m - c - 1, by omega⟩
        rw [hf'] at hr
        have va : vp_in (nI a) 16 := vp_in_nI (by omega) (by omega)
        rw [nI_clamp (show a < 2 ^ 31 by omega), hg3 a ha, nI_add, nI_clamp (show base + a < 2 ^ 31 by omega)]
        refine ⟨fun q => absurd q (nI_ge (by omega) (by omega)), fun _ => ⟨va, fun q => ⟨va, ?_⟩, fun q => ?_⟩⟩
        · have hu := (enH_iff (hb a)).mp q
          have hr2 : rg (2 * m) o f' (stp (2 * m) o hh a) (xp (tau (2 * m) o a)) = gr (2 * m) o (s + 1) := by
            rw [← hr]
            exact (if_pos hu).symm
          have tl := tau_lt ho ha
          rintro _ rfl
          refine ⟨hd, vp_in_nI (by omega) (by omega), ?_⟩
          have er : sA (uA (uA (uA R 2 f) 3 g3) 3 (upd g3 a 0)) (20 + d) (base + a) = nI (o a) := by
            rw [uA_uA, r20]
            exact hR a ha
          unfold pX3_other
          rw [er, xp_I _ (ol a ha)]
          have xl := xp_lt (ho.1 a ha)
          have ef : sA (uA (uA (uA R 2 f) 3 g3) 3 (upd g3 a 0)) 2 (nI (xp (o a))).toNatClampNeg = nI (tau (2 * m) o a) := by
            rw [nI_clamp (by omega)]
            exact hf1 _ xl
          refine ⟨vp_in_nI (by omega) (by omega), ?_⟩
          rw [ef]
          rintro _ rfl
          refine ⟨vp_in_nI (by omega) (by omega), ?_⟩
          rintro _ rfl _ rfl
          rw [xp_I _ (show tau (2 * m) o a < 16 by omega), nI_clamp (by omega)]
          refine hK3 _ ⟨c + 1, stp (2 * m) o hh a, xp (tau (2 * m) o a), upd (upd g3 a 0) (tau (2 * m) o a) 1, by omega, xp_lt tl, stp_b hb, ?_, enH_stp hg3, ?_⟩ ?_
          · rw [uA_uA, uA_uA]
            rfl
          · rw [show 2 * m - (c + 1) = f' by omega]
            exact hr2
          · show 2 * m - (nI (c + 1)).toNatClampNeg < 2 * m - (nI c).toNatClampNeg
            rw [nI_clamp (by omega), nI_clamp (by omega)]
            omega
        · have hu : ¬ hh a = 2 := fun q2 => q ((enH_iff (hb a)).mpr q2)
          have hr2 : hh = gr (2 * m) o (s + 1) := by
            rw [← hr]
            exact (if_neg hu).symm
          exact done g3 (fun i hi => by rw [← hr2]; exact hg3 i hi)
  · have hkl : k < 2 * m := by omega
    rw [r20, nI_add, nI_clamp (show base + k < 2 ^ 31 by omega), hR k hkl, nI_s1]
    have := ol k hkl
    refine ⟨fun q => absurd q (nI_ge hkl (by omega)), fun _ => ⟨hd, vp_in_nI (by omega) (by omega), vp_in_nI this (by omega), ?_⟩⟩
    rintro _ rfl
    refine ⟨vp_in_nI (by omega) (by omega), ?_⟩
    rintro _ rfl _ rfl
    rw [nI_clamp (by omega), nI_clamp (by omega)]
    refine hK _ ⟨k + 1, upd f (o k) (nI k), upd g k (-1), by omega, ?_, fun i hi => ?_⟩ ?_
    · exact congrArg (fun z => (z, nI (k + 1))) (uA_pp R (by omega) f g _ _)
    · by_cases q : i = k
      · rw [q]
        exact ⟨upd_same _ _ _, upd_same _ _ _⟩
      · rw [upd_other _ _ q, upd_other _ _ (fun q2 => q (ho.2 i k (by omega) hkl q2))]
        exact hfg i (by omega)
    · show 2 * m - (nI (k + 1)).toNatClampNeg < 2 * m - (nI k).toNatClampNeg
      rw [nI_clamp (by omega), nI_clamp (by omega)]
      omega
/-- the outer stages of a block: B half its base -/
theorem c_outer {B last : Nat} (hd : d < last - d) (hl : last ≤ 6) (hB : B + m ≤ 8) (ho : prm (2 * m) o) (h2 : ∀ v, v < 2 * m → sA R 2 v = nI (iv (2 * m) o v)) (h3 : ∀ i, i < 2 * m → sA R 3 i = nI (hf (2 * m) o i)) {Q : St → Prop} (h : ∀ R2, (∀ j, j < m → sA R2 (10 + d) (B + j) = nI (hf (2 * m) o (2 * j)) ∧ sA R2 (10 + (last - d)) (B + j) = nI (hf (2 * m) o (iv (2 * m) o (2 * j)))) → (∀ a i, ¬ ((a = 10 + d ∨ a = 10 + (last - d)) ∧ B ≤ i ∧ i < B + m) → sA R2 a i = sA R a i) → Q R2) : pX3_setOuterStages R (nI last) (nI d) (nI (2 * B)) (nI (2 * m)) Q := by
  unfold pX3_setOuterStages lX3_setOuterStages_3
  refine lp_of (I := fun q => ∃ k R2, k ≤ m ∧ q = (R2, nI k) ∧ (∀ j, j < k → sA R2 (10 + d) (B + j) = nI (hf (2 * m) o (2 * j)) ∧ sA R2 (10 + (last - d)) (B + j) = nI (hf (2 * m) o (iv (2 * m) o (2 * j)))) ∧ (∀ a i, ¬ ((a = 10 + d ∨ a = 10 + (last - d)) ∧ B ≤ i ∧ i < B + k) → sA R2 a i = sA R a i)) (μ := fun q => m - q.2.toNatClampNeg) ?_ _ ⟨0, R, by omega, rfl, fun j hj => absurd hj (Nat.not_lt_zero _), fun _ _ _ => rfl⟩
  rintro q ⟨k, R2, hk, rfl, i1, i2⟩ K hK
  show bX3_setOuterStages_3 (nI last) (nI d) (nI (2 * B)) (nI (2 * m)) _ _ R2 (nI k)
  unfold bX3_setOuterStages_3
  have e2m : nI (2 * m) / 2 = nI m := by rw [nI_div2 (by omega), show 2 * m / 2 = m by omega]
  have e2B : nI (2 * B) / 2 = nI B := by rw [nI_div2 (by omega), show 2 * B / 2 = B by omega]
  have e2k : (2 : Int32) * nI k = nI (2 * k) := nI_mul 2 k
  rw [e2m, e2B, e2k, nI_s1, nI_sub (show d ≤ last by omega), nI_add]
  by_cases e : k = m
  · subst e
    exact ⟨fun _ => h R2 i1 i2, fun q => absurd (nI_le (Nat.le_refl _) (by omega)) q⟩
  · have hkm : k < m := by omega
    have v3 : sA R2 3 (2 * k) = nI (hf (2 * m) o (2 * k)) := (i2 3 (2 * k) (by omega)).trans (h3 _ (by omega))
    have ivk := (iv_spec ho (show 2 * k < 2 * m by omega)).1
    have v2 : sA R2 2 (2 * k) = nI (iv (2 * m) o (2 * k)) := (i2 2 (2 * k) (by omega)).trans (h2 _ (by omega))
    have v32 : sA R2 3 (iv (2 * m) o (2 * k)) = nI (hf (2 * m) o (iv (2 * m) o (2 * k))) := (i2 3 _ (by omega)).trans (h3 _ ivk)
    rw [nI_clamp (show d < 2 ^ 31 by omega), nI_clamp (show 2 * k < 2 ^ 31 by omega), nI_clamp (show B + k < 2 ^ 31 by omega), nI_clamp (show last - d < 2 ^ 31 by omega), v3]
    refine ⟨fun q => absurd q (nI_ge hkm (by omega)), fun _ => ⟨vp_in_nI (by omega) (by omega), vp_in_nI (by omega) (by omega), vp_in_nI (by omega) (by omega), ?_⟩⟩
    rintro _ rfl
    have w2 : sA (uA R2 (10 + d) (upd (sA R2 (10 + d)) (B + k) (nI (hf (2 * m) o (2 * k))))) 2 (2 * k) = nI (iv (2 * m) o (2 * k)) := by
      rw [sA_uA, if_neg (by omega)]
      exact v2
    have w3 : sA (uA R2 (10 + d) (upd (sA R2 (10 + d)) (B + k) (nI (hf (2 * m) o (2 * k))))) 3 (iv (2 * m) o (2 * k)) = nI (hf (2 * m) o (iv (2 * m) o (2 * k))) := by
      rw [sA_uA, if_neg (by omega)]
      exact v32
    rw [w2, nI_clamp (show iv (2 * m) o (2 * k) < 2 ^ 31 by omega), w3]
    refine ⟨vp_in_nI (by omega) (by omega), vp_in_nI (by omega) (by omega), vp_in_nI (by omega) (by omega), vp_in_nI (by omega) (by omega), ?_⟩
    rintro _ rfl _ rfl
    refine hK _ ⟨k + 1, _, by omega, rfl, fun j hj => ⟨?_, ?_⟩, fun a i q => ?_⟩ ?_
    · rw [sA_uA, if_neg (by omega), sA_uA, if_pos rfl]
      by_cases q : j = k
      · rw [q]
        exact upd_same _ _ _
      · rw [upd_other _ _ (by omega)]
        exact (i1 j (by omega)).1
    · rw [sA_uA, if_pos rfl]
      by_cases q : j = k
      · rw [q]
        exact upd_same _ _ _
      · rw [upd_other _ _ (by omega), sA_uA, if_neg (by omega)]
        exact (i1 j (by omega)).2
    · have old := i2 a i (by omega)
      rw [sA_uA]
      by_cases q1 : a = 10 + (last - d)
      · rw [if_pos q1, upd_other _ _ (by omega), sA_uA, if_neg (by omega), ← q1]
        exact old
      · rw [if_neg q1, sA_uA]
        by_cases q2 : a = 10 + d
        · rw [if_pos q2, upd_other _ _ (by omega), ← q2]
          exact old
        · rw [if_neg q2]
          exact old
    · show m - (nI (k + 1)).toNatClampNeg < m - (nI k).toNatClampNeg
      rw [nI_clamp (by omega), nI_clamp (by omega)]
      omega
theorem hf_pick (ho : prm (2 * m) o) {p : Nat} (hp : p < 2 * m) : ∃ i, i < 2 * m ∧ p = hf (2 * m) o i * m + i / 2 := by
  have hm : 0 < m := by omega
  have hq : p % m < m := Nat.mod_lt _ hm
  have hh : p / m < 2 := Nat.div_lt_of_lt_mul (by rw [Nat.mul_comm]; exact hp)
  have he : p = p / m * m + p % m := by
    rw [Nat.mul_comm]
    exact (Nat.div_add_mod p m).symm
  have key : ∀ c v : Nat, c < 2 → v < 2 → v ≠ c → 1 - v = c := by
    intro c v h1 h2 h3
    omega
  obtain ⟨h1, h2, h3⟩ := hf_spec ho (show 2 * (p % m) < 2 * m by omega)
  by_cases e : hf (2 * m) o (2 * (p % m)) = p / m
  · refine ⟨2 * (p % m), by omega, ?_⟩
    rw [e, show 2 * (p % m) / 2 = p % m by omega]
    exact he
  · have ex : xp (2 * (p % m)) = 2 * (p % m) + 1 := by
      unfold xp
      rw [if_pos (by omega)]
    refine ⟨2 * (p % m) + 1, by omega, ?_⟩
    rw [← ex, h2, ex, show (2 * (p % m) + 1) / 2 = p % m by omega, key _ _ hh h1 e]
    exact he
theorem hf_dist (ho : prm (2 * m) o) {i j : Nat} (hi : i < 2 * m) (hj : j < 2 * m) (h : hf (2 * m) o i * m + i / 2 = hf (2 * m) o j * m + j / 2) : i = j := by
  obtain ⟨h1, h2⟩ := idx_inj (r := m) (f := i / 2) (f2 := j / 2) (by omega) (by omega) h
  have : i = j ∨ i = xp j := by
    unfold xp
    by_cases q : j % 2 = 0
    · rw [if_pos q]
      omega
    · rw [if_neg q]
      omega
  rcases this with q | q
  · exact q
  · have := (hf_spec ho hj).2.1
    have b := (hf_spec ho hj).1
    rw [← q] at this
    omega
theorem c_hand (hd : d < 3) (hbs : base + 2 * m ≤ 16) (ho : prm (2 * m) o) (hR : ∀ i, i < 2 * m → sA R (20 + d) (base + i) = nI (o i)) (h3 : ∀ i, i < 2 * m → sA R 3 i = nI (hf (2 * m) o i)) {Q : St → Prop} (h : ∀ R2, (∀ p, p < 2 * m → sA R2 (20 + (d + 1)) (base + p) = nI (nx m o p)) → (∀ a i, ¬ (a = 20 + (d + 1) ∧ base ≤ i ∧ i < base + 2 * m) → sA R2 a i = sA R a i) → Q R2) : pX3_handToHalves R (nI d) (nI base) (nI (2 * m)) Q := by
  unfold pX3_handToHalves lX3_handToHalves_3
  refine lp_of (I := fun q => ∃ k R2, k ≤ 2 * m ∧ q = (R2, nI k) ∧ (∀ i, i < k → sA R2 (20 + (d + 1)) (base + (hf (2 * m) o i * m + i / 2)) = nI (o i / 2)) ∧ (∀ a i, ¬ (a = 20 + (d + 1) ∧ base ≤ i ∧ i < base + 2 * m) → sA R2 a i = sA R a i)) (μ := fun q => 2 * m - q.2.toNatClampNeg) ?_ _ ⟨0, R, by omega, rfl, fun j hj => absurd hj (Nat.not_lt_zero _), fun _ _ _ => rfl⟩
  rintro q ⟨k, R2, hk, rfl, i1, i2⟩ K hK
  show bX3_handToHalves_3 (nI d) (nI base) (nI (2 * m)) _ _ R2 (nI k)
  unfold bX3_handToHalves_3
  by_cases e : k = 2 * m
  · subst e
    refine ⟨fun _ => h R2 (fun p hp => ?_) i2, fun q => absurd (nI_le (Nat.le_refl _) (by omega)) q⟩
    obtain ⟨i, hi, rfl⟩ := hf_pick ho hp
    rw [i1 i hi, nx_at ho hi]
  · have hkm : k < 2 * m := by omega
    have hfk := (hf_spec ho hkm).1
    have v3 : sA R2 3 k = nI (hf (2 * m) o k) := (i2 3 k (by omega)).trans (h3 _ hkm)
    have v20 : sA R2 (20 + d) (base + k) = nI (o k) := (i2 (20 + d) _ (by omega)).trans (hR _ hkm)
    have okl := ho.1 k hkm
    have hpos := idx_lt (r := m) (m := 2) (x := hf (2 * m) o k) (f := k / 2) hfk (by omega)
    have hfm : hf (2 * m) o k * m ≤ m := by
      have := Nat.mul_le_mul_right m (show hf (2 * m) o k ≤ 1 by omega)
      omega
    have hfm2 : hf (2 * m) o k * (2 * m) ≤ 2 * m := by
      have := Nat.mul_le_mul_right (2 * m) (show hf (2 * m) o k ≤ 1 by omega)
      omega
    have ep : (nI base + ((nI (hf (2 * m) o k) * nI (2 * m)) / 2)) + nI k / 2 = nI (base + (hf (2 * m) o k * m + k / 2)) := by
      rw [nI_mul, nI_div2 (by omega), dbl_half, nI_div2 (by omega), nI_add, nI_add, Nat.add_assoc]
    rw [nI_clamp (show k < 2 ^ 31 by omega), v3, nI_s1]
    refine ⟨fun q => absurd q (nI_ge hkm (by omega)), fun _ => ⟨vp_in_nI (by omega) (by omega), ?_⟩⟩
    rintro _ rfl
    rw [ep, nI_s1, nI_add, nI_clamp (show d < 2 ^ 31 by omega), nI_clamp (show d + 1 < 2 ^ 31 by omega), nI_clamp (show base + k < 2 ^ 31 by omega), v20, nI_div2 (by omega), nI_clamp (show base + (hf (2 * m) o k * m + k / 2) < 2 ^ 31 by omega)]
    refine ⟨vp_in_nI (by omega) (by omega), vp_in_nI (by omega) (by omega), vp_in_nI (by omega) (by omega), vp_in_nI (by omega) (by omega), ?_⟩
    rintro _ rfl _ rfl
    refine hK _ ⟨k + 1, _, by omega, rfl, fun i hi => ?_, fun a i q => ?_⟩ ?_
    · rw [sA_uA, if_pos rfl]
      by_cases q : i = k
      · rw [q]
        exact upd_same _ _ _
      · rw [upd_other _ _ (fun q2 => q (hf_dist ho (by omega) hkm (by omega)))]
        exact i1 i (by omega)
    · have old := i2 a i q
      rw [sA_uA]
      by_cases q1 : a = 20 + (d + 1)
      · rw [if_pos q1, upd_other _ _ (by omega), ← q1]
        exact old
      · rw [if_neg q1]
        exact old
    · show 2 * m - (nI (k + 1)).toNatClampNeg < 2 * m - (nI k).toNatClampNeg
      rw [nI_clamp (by omega), nI_clamp (by omega)]
      omega
end GR
