/-! lines in powers: where a line goes, by bits -/
theorem shl1 : ∀ {n : Nat}, n ≤ 4 → (1 : Int32) <<< (nI n &&& 31) = nI (2 ^ n)
  | 0, _ => by decide
  | 1, _ => by decide
  | 2, _ => by decide
  | 3, _ => by decide
  | 4, _ => by decide
  | n + 5, h => absurd h (by omega)
theorem tk1 (k : Nat) (hk : 1 ≤ k) : ((2 : Int32) * nI k) - 1 = nI (2 * k - 1) := by
  rw [show (2 : Int32) = nI 2 from rfl, nI_mul, show (1 : Int32) = nI 1 from rfl, nI_sub (by omega)]
theorem tk2 (k : Nat) (hk : 1 ≤ k) : ((2 : Int32) * nI k) - 2 = nI (2 * k - 2) := by
  rw [show (2 : Int32) = nI 2 from rfl, nI_mul, nI_sub (by omega)]
theorem nk1 (k : Nat) (hk : 1 ≤ k) : nI k - 1 = nI (k - 1) := by
  rw [show (1 : Int32) = nI 1 from rfl, nI_sub hk]
theorem nk2 (k : Nat) (hk : 1 ≤ k) : nI k - 2 = nI (k - 1) - 1 := by
  obtain ⟨j, rfl⟩ : ∃ j, k = j + 1 := ⟨k - 1, by omega⟩
  rw [← nI_s1, show j + 1 - 1 = j by omega, show (2 : Int32) = 1 + 1 by decide, ← Int32.sub_sub, Int32.add_sub_cancel]
theorem nm1 (d : Nat) : nI d + (-1) = nI d - 1 := (Int32.sub_eq_add_neg _ _).symm
theorem nI_rem2 {a : Nat} (ha : a < 2 ^ 31) : nI a - nI a / 2 * 2 = nI (a % 2) := nI_rem (a := a) (b := 2) ha (by omega)
theorem nI_div2 {a : Nat} (ha : a < 2 ^ 31) : nI a / 2 = nI (a / 2) := nI_div (a := a) (b := 2) ha (by omega)
theorem pw_le {n : Nat} (h : n ≤ 4) : 1 ≤ 2 ^ n ∧ 2 ^ n ≤ 16 := ⟨Nat.one_le_two_pow, Nat.pow_le_pow_right (by omega) h⟩
theorem hp_s {k L : Nat} (h : L + 1 < k) : 2 ^ (k - 1 - L) = 2 * 2 ^ (k - 1 - (L + 1)) := by
  rw [show k - 1 - L = (k - 1 - (L + 1)) + 1 by omega, Nat.pow_succ, Nat.mul_comm]
theorem hp_c {k L : Nat} (h : L < k) : 2 ^ L * 2 ^ (k - 1 - L) = 2 ^ (k - 1) := by
  rw [← Nat.pow_add]
  congr 1
  omega
theorem hp_t {k L : Nat} (h : L < k) : 2 ^ (k - L) = 2 * 2 ^ (k - 1 - L) := by
  rw [show k - L = (k - 1 - L) + 1 by omega, Nat.pow_succ, Nat.mul_comm]
def xr (a b : Nat) : Nat := (a + b) % 2
theorem xr_lt (a b : Nat) : xr a b < 2 := Nat.mod_lt _ (by omega)
theorem xr_I {a b : Nat} (ha : a < 2) (hb : b < 2) : nI a ^^^ nI b = nI (xr a b) := by
  obtain rfl | rfl : a = 0 ∨ a = 1 := by omega
  · obtain rfl | rfl : b = 0 ∨ b = 1 := by omega
    · decide
    · decide
  · obtain rfl | rfl : b = 0 ∨ b = 1 := by omega
    · decide
    · decide
def dn (w : Nat → Nat → Nat) (k x : Nat) : Nat → Nat × Nat
  | 0 => (0, x)
  | L + 1 => (2 * (dn w k x L).1 + xr ((dn w k x L).2 % 2) (w L ((dn w k x L).1 * 2 ^ (k - 1 - L) + (dn w k x L).2 / 2)), (dn w k x L).2 / 2)
def dH (w : Nat → Nat → Nat) (k x L : Nat) : Nat := xr ((dn w k x L).2 % 2) (w L ((dn w k x L).1 * 2 ^ (k - 1 - L) + (dn w k x L).2 / 2))
def uu (w : Nat → Nat → Nat) (k x : Nat) : Nat → Nat
  | 0 => dH w k x (k - 1)
  | j + 1 => 2 * uu w k x j + xr (dH w k x (k - 2 - j)) (w (2 * k - 2 - (k - 2 - j)) ((dn w k x (k - 2 - j)).1 * 2 ^ (k - 1 - (k - 2 - j)) + uu w k x j))
section GO
variable {w : Nat → Nat → Nat} {k x : Nat}
theorem dn_lt (hx : x < 2 ^ k) : ∀ L, L ≤ k → (dn w k x L).1 < 2 ^ L ∧ (dn w k x L).2 < 2 ^ (k - L)
  | 0, _ => ⟨by show 0 < 2 ^ 0; decide, hx⟩
  | L + 1, h => by
    obtain ⟨h1, h2⟩ := dn_lt hx L (by omega)
    have e := xr_lt ((dn w k x L).2 % 2) (w L ((dn w k x L).1 * 2 ^ (k - 1 - L) + (dn w k x L).2 / 2))
    refine ⟨?_, ?_⟩
    · show 2 * (dn w k x L).1 + xr _ _ < 2 ^ (L + 1)
      rw [Nat.pow_succ]
      omega
    · show (dn w k x L).2 / 2 < 2 ^ (k - (L + 1))
      rw [hp_t (show L < k by omega)] at h2
      rw [show k - (L + 1) = k - 1 - L by omega]
      omega
theorem dn_ix (hx : x < 2 ^ k) {L : Nat} (h : L < k) : (dn w k x L).1 * 2 ^ (k - 1 - L) + (dn w k x L).2 / 2 < 2 ^ (k - 1) := by
  obtain ⟨h1, h2⟩ := dn_lt (w := w) hx L (by omega)
  rw [hp_t h] at h2
  rw [← hp_c h]
  exact idx_lt h1 (by omega)
theorem uu_lt : ∀ j, uu w k x j < 2 ^ (j + 1)
  | 0 => xr_lt _ _
  | j + 1 => by
    have h1 := uu_lt j
    have h2 := xr_lt (dH w k x (k - 2 - j)) (w (2 * k - 2 - (k - 2 - j)) ((dn w k x (k - 2 - j)).1 * 2 ^ (k - 1 - (k - 2 - j)) + uu w k x j))
    show 2 * uu w k x j + xr _ _ < 2 ^ (j + 2)
    rw [Nat.pow_succ]
    omega
theorem uu_ix (hx : x < 2 ^ k) {j : Nat} (h : j + 1 < k) : (dn w k x (k - 2 - j)).1 * 2 ^ (k - 1 - (k - 2 - j)) + uu w k x j < 2 ^ (k - 1) := by
  obtain ⟨h1, h2⟩ := dn_lt (w := w) hx (k - 2 - j) (by omega)
  rw [← hp_c (show k - 2 - j < k by omega)]
  have := uu_lt (w := w) (k := k) (x := x) j
  refine idx_lt h1 ?_
  rw [show k - 1 - (k - 2 - j) = j + 1 by omega]
  exact this
theorem dn_b {L : Nat} : (dn w k x (L + 1)).1 / 2 = (dn w k x L).1 ∧ (dn w k x (L + 1)).1 % 2 = dH w k x L := by
  have e := xr_lt ((dn w k x L).2 % 2) (w L ((dn w k x L).1 * 2 ^ (k - 1 - L) + (dn w k x L).2 / 2))
  constructor
  · show (2 * (dn w k x L).1 + xr _ _) / 2 = _
    omega
  · show (2 * (dn w k x L).1 + xr _ _) % 2 = dH w k x L
    unfold dH
    omega
end GO
theorem dbl_half (b h : Nat) : b * (2 * h) / 2 = b * h := by
  rw [show b * (2 * h) = (b * h) * 2 by rw [Nat.mul_comm 2 h, Nat.mul_assoc]]
  exact Nat.mul_div_cancel _ (by omega)
def wS (t : St) (i e st j : Nat) : Nat := if sA t 1 (i + st * e + j) = 0 then 0 else 1
theorem c_bits {ln : Nat → Nat} {R t : St} {i k : Nat} (hk : 1 ≤ k ∧ k ≤ 4) (hi : i + (2 * k - 1) * 2 ^ (k - 1) ≤ ln 1) (hl : ln 1 ≤ 64) {Q : (St × St) → Prop} (h : ∀ R', (∀ st j, st < 2 * k - 1 → j < 2 ^ (k - 1) → sA R' (10 + st) j = nI (wS t i (2 ^ (k - 1)) st j)) → Q (R', t)) : pX3_takeBits ln (R, t) (nI i) (nI k) Q := by
  have pw := pw_le (show k - 1 ≤ 4 by omega)
  have pw8 : 2 ^ (k - 1) ≤ 8 := Nat.pow_le_pow_right (by omega) (show k - 1 ≤ 3 by omega)
  unfold pX3_takeBits
  rw [nk1 k hk.1, shl1 (by omega)]
  rintro _ rfl
  generalize 2 ^ (k - 1) = e at *
  unfold lX3_takeBits_10
  refine lp_of (I := fun q => ∃ s R', s ≤ 2 * k - 1 ∧ q = ((R', t), nI s) ∧ ∀ st j, st < s → j < e → sA R' (10 + st) j = nI (wS t i e st j)) (μ := fun q => 2 * k - 1 - q.2.toNatClampNeg) ?_ _ ⟨0, R, by omega, rfl, fun st j hs => absurd hs (Nat.not_lt_zero _)⟩
  rintro q ⟨s, R1, hs, rfl, hR⟩ K hK
  show bX3_takeBits_10 ln (nI i) (nI k) (nI e) _ _ (R1, t) (nI s)
  unfold bX3_takeBits_10
  rw [tk1 k hk.1, nI_s1]
  by_cases q : s = 2 * k - 1
  · subst q
    exact ⟨fun _ => h R1 hR, fun q => absurd (nI_le (Nat.le_refl _) (by omega)) q⟩
  · refine ⟨fun q => absurd q (nI_ge (by omega) (by omega)), fun _ => ?_⟩
    unfold lX3_takeBits_23
    refine lp_of (I := fun q => ∃ j R', j ≤ e ∧ q = ((R', t), nI j) ∧ (∀ st j, st < s → j < e → sA R' (10 + st) j = nI (wS t i e st j)) ∧ ∀ c, c < j → sA R' (10 + s) c = nI (wS t i e s c)) (μ := fun q => e - q.2.toNatClampNeg) ?_ _ ⟨0, R1, by omega, rfl, hR, fun c hc => absurd hc (Nat.not_lt_zero _)⟩
    rintro q ⟨j, R2, hj, rfl, hR1, hR2⟩ K2 hK2
    show bX3_takeBits_23 ln (nI i) (nI k) (nI e) (nI s) _ _ (R2, t) (nI j)
    unfold bX3_takeBits_23
    rw [nI_s1, nI_mul, nI_add, nI_add]
    by_cases q : j = e
    · subst q
      refine ⟨fun _ => ?_, fun q => absurd (nI_le (Nat.le_refl _) (by omega)) q⟩
      rintro _ rfl
      refine hK _ ⟨s + 1, R2, by omega, rfl, fun st c h1 h2 => ?_⟩ ?_
      · by_cases q2 : st = s
        · rw [q2]
          exact hR2 c h2
        · exact hR1 st c (by omega) h2
      · show 2 * k - 1 - (nI (s + 1)).toNatClampNeg < 2 * k - 1 - (nI s).toNatClampNeg
        rw [nI_clamp (by omega), nI_clamp (by omega)]
        omega
    · have hix := idx_lt (r := e) (m := 2 * k - 1) (x := s) (f := j) (by omega) (by omega)
      have next : ∀ v, v = nI (wS t i e s j) → K2 ((uA R2 (10 + s) (upd (sA R2 (10 + s)) j v), t), nI (j + 1)) := by
        rintro _ rfl
        refine hK2 _ ⟨j + 1, _, by omega, rfl, fun st c h1 h2 => ?_, fun c hc => ?_⟩ ?_
        · rw [sA_uA, if_neg (by omega)]
          exact hR1 st c h1 h2
        · rw [sA_uA, if_pos rfl]
          by_cases q2 : c = j
          · rw [q2, upd_same]
          · rw [upd_other _ _ q2]
            exact hR2 c (by omega)
        · show e - (nI (j + 1)).toNatClampNeg < e - (nI j).toNatClampNeg
          rw [nI_clamp (by omega), nI_clamp (by omega)]
          omega
      have z0 : ∀ b : Prop, b → b := fun _ x => x
      rw [nI_clamp (show s < 2 ^ 31 by omega), nI_clamp (show i + s * e + j < 2 ^ 31 by omega), nI_clamp (show j < 2 ^ 31 by omega)]
      refine ⟨fun q => absurd q (nI_ge (by omega) (by omega)), fun _ => ⟨vp_in_nI (by omega) (by omega), vp_in_nI (by omega) (by omega), fun q2 => ⟨vp_in_nI (by omega) (by omega), ?_⟩, fun q2 => ⟨vp_in_nI (by omega) (by omega), ?_⟩⟩⟩
      · rintro _ rfl _ rfl
        refine next 0 ?_
        unfold wS
        rw [if_pos q2]
        rfl
      · rintro _ rfl _ rfl
        refine next 1 ?_
        unfold wS
        rw [if_neg q2]
        rfl
theorem c_follow {R : St} {w : Nat → Nat → Nat} {k x : Nat} (hk : 1 ≤ k ∧ k ≤ 4) (hx : x < 2 ^ k) (hw : ∀ st j, w st j < 2) (hR : ∀ st j, st < 2 * k - 1 → j < 2 ^ (k - 1) → sA R (10 + st) j = nI (w st j)) {Q : Int32 → Prop} (h : Q (nI (uu w k x (k - 1)))) : pX3_follow R (nI k) (nI x) Q := by
  have pw8 : 2 ^ (k - 1) ≤ 8 := Nat.pow_le_pow_right (by omega) (show k - 1 ≤ 3 by omega)
  unfold pX3_follow lX3_follow_8
  refine lp_of (I := fun q => ∃ L, L ≤ k - 1 ∧ q = (nI (dn w k x L).1, nI (dn w k x L).2, nI L)) (μ := fun q => k - 1 - q.2.2.toNatClampNeg) ?_ _ ⟨0, by omega, rfl⟩
  rintro q ⟨L, hL, rfl⟩ K hK
  show bX3_follow_8 R (nI k) _ _ (nI (dn w k x L).1) (nI (dn w k x L).2) (nI L)
  unfold bX3_follow_8
  obtain ⟨d1, d2⟩ := dn_lt (w := w) hx L (by omega)
  have dix := dn_ix (w := w) hx (show L < k by omega)
  have p1 := pw_le (show L ≤ 4 by omega)
  have p2 := pw_le (show k - L ≤ 4 by omega)
  rw [nk1 k hk.1, nk2 k hk.1]
  by_cases q : L = k - 1
  · subst q
    refine ⟨fun _ => ?_, fun q => absurd (nI_le (Nat.le_refl _) (by omega)) q⟩
    have d2' : (dn w k x (k - 1)).2 < 2 := by
      rw [show k - (k - 1) = 1 by omega] at d2
      exact d2
    have b8 : (dn w k x (k - 1)).1 < 8 := by omega
    have h0 : nI (dn w k x (k - 1)).2 ^^^ sA R (10 + (nI (k - 1)).toNatClampNeg) (nI (dn w k x (k - 1)).1).toNatClampNeg = nI (uu w k x 0) := by
      rw [nI_clamp (by omega), nI_clamp (by omega), hR (k - 1) _ (by omega) d1, xr_I d2' (hw _ _)]
      show _ = nI (dH w k x (k - 1))
      unfold dH
      rw [Nat.mod_eq_of_lt d2', show k - 1 - (k - 1) = 0 by omega, Nat.div_eq_of_lt d2', Nat.pow_zero, Nat.mul_one, Nat.add_zero]
    refine ⟨vp_in_nI (by omega) (by omega), vp_in_nI b8 (by omega), ?_⟩
    rw [h0]
    rintro _ rfl _ rfl
    unfold lX3_follow_89
    refine lp_of (I := fun q => ∃ j, j ≤ k - 1 ∧ q = (nI (dn w k x (k - 1 - j)).1, nI (uu w k x j), nI (k - 1 - j) - 1)) (μ := fun q => (q.2.2 + 1).toNatClampNeg) ?_ _ ⟨0, by omega, rfl⟩
    rintro q ⟨j, hj, rfl⟩ K2 hK2
    show bX3_follow_89 R (nI k) _ _ (nI (dn w k x (k - 1 - j)).1) (nI (uu w k x j)) (nI (k - 1 - j) - 1)
    unfold bX3_follow_89
    by_cases q : j = k - 1
    · subst q
      rw [show k - 1 - (k - 1) = 0 by omega]
      exact ⟨fun _ => h, fun q => absurd (by decide) q⟩
    · obtain ⟨d, hd⟩ : ∃ d, d = k - 2 - j := ⟨_, rfl⟩
      have ed : k - 1 - j = d + 1 := by omega
      have uix := uu_ix (w := w) hx (show j + 1 < k by omega)
      rw [← hd] at uix
      have u1 := uu_lt (w := w) (k := k) (x := x) j
      have pj := pw_le (show j + 1 ≤ 4 by omega)
      obtain ⟨e1, e2⟩ := dn_b (w := w) (k := k) (x := x) (L := d)
      obtain ⟨d1', _⟩ := dn_lt (w := w) hx d (by omega)
      obtain ⟨d1'', _⟩ := dn_lt (w := w) hx (d + 1) (by omega)
      have pd := pw_le (show d + 1 ≤ 4 by omega)
      have pkd := pw_le (show k - 1 - d ≤ 4 by omega)
      rw [ed, nI_pred, nI_sub (show d ≤ k by omega), shl1 (by omega), tk2 k hk.1, nI_sub (show d ≤ 2 * k - 2 by omega), nI_rem2 (by omega), nm1]
      refine ⟨fun q => absurd q (nI_nneg (by omega)), fun _ => ?_⟩
      rintro _ rfl _ rfl _ rfl
      have ei : ((nI (dn w k x (d + 1)).1 / 2 * nI (2 ^ (k - d))) / 2) + nI (uu w k x j) = nI ((dn w k x d).1 * 2 ^ (k - 1 - d) + uu w k x j) := by
        rw [show (2 : Int32) = nI 2 from rfl, nI_div (by omega) (by omega), e1, hp_t (show d < k by omega), nI_mul, nI_div (by
          have : (dn w k x d).1 * (2 * 2 ^ (k - 1 - d)) ≤ 16 * (2 * 16) := Nat.mul_le_mul (by have := pw_le (show d ≤ 4 by omega); omega) (by omega)
          omega) (by omega), dbl_half, nI_add]
      rw [ei, nI_clamp (by omega), nI_clamp (by omega)]
      refine ⟨vp_in_nI (by omega) (by omega), vp_in_nI (by omega) (by omega), ?_⟩
      rintro _ rfl _ rfl _ rfl
      refine hK2 _ ⟨j + 1, by omega, ?_⟩ ?_
      · show (_, _, _) = (_, _, _)
        have e3 : nI (dn w k x (d + 1)).1 / 2 = nI (dn w k x d).1 := by
          rw [show (2 : Int32) = nI 2 from rfl, nI_div (by omega) (by omega), e1]
        have e4 : ((2 : Int32) * nI (uu w k x j)) + (nI ((dn w k x (d + 1)).1 % 2) ^^^ sA R (10 + (2 * k - 2 - d)) ((dn w k x d).1 * 2 ^ (k - 1 - d) + uu w k x j)) = nI (uu w k x (j + 1)) := by
          rw [hR _ _ (by omega) uix, e2, xr_I (show dH w k x d < 2 from xr_lt _ _) (hw _ _), show (2 : Int32) = nI 2 from rfl, nI_mul, nI_add]
          show _ = nI (2 * uu w k x j + xr (dH w k x (k - 2 - j)) (w (2 * k - 2 - (k - 2 - j)) ((dn w k x (k - 2 - j)).1 * 2 ^ (k - 1 - (k - 2 - j)) + uu w k x j)))
          rw [← hd]
        have e5 : nI d - 1 = nI (k - 1 - (j + 1)) - 1 := by rw [show k - 1 - (j + 1) = d by omega]
        rw [e5, show k - 1 - (j + 1) = d by omega]
        exact congr (congrArg Prod.mk e3) (congr (congrArg Prod.mk e4) rfl)
      · show ((nI d - 1) + 1).toNatClampNeg < ((nI (k - 1 - j) - 1) + 1).toNatClampNeg
        rw [Int32.sub_add_cancel, Int32.sub_add_cancel, nI_clamp (by omega), nI_clamp (by omega)]
        omega
  · have hLk : L < k := by omega
    rw [nI_sub (show L ≤ k by omega), shl1 (by omega), nI_rem2 (by omega), nI_s1]
    refine ⟨fun q => absurd q (nI_ge (by omega) (by omega)), fun _ => ?_⟩
    rintro _ rfl
    have ei : ((nI (dn w k x L).1 * nI (2 ^ (k - L))) / 2) + (nI (dn w k x L).2 / 2) = nI ((dn w k x L).1 * 2 ^ (k - 1 - L) + (dn w k x L).2 / 2) := by
      rw [show (2 : Int32) = nI 2 from rfl, nI_div (a := (dn w k x L).2) (by omega) (by omega), hp_t hLk, nI_mul, nI_div (by
        have : (dn w k x L).1 * (2 * 2 ^ (k - 1 - L)) ≤ 16 * (2 * 16) := Nat.mul_le_mul (by omega) (by have := pw_le (show k - 1 - L ≤ 4 by omega); omega)
        omega) (by omega), dbl_half, nI_add]
    rw [ei, nI_clamp (show L < 2 ^ 31 by omega), nI_clamp (show (dn w k x L).1 * 2 ^ (k - 1 - L) + (dn w k x L).2 / 2 < 2 ^ 31 by omega)]
    refine ⟨vp_in_nI (by omega) (by omega), vp_in_nI (by omega) (by omega), ?_⟩
    rintro _ rfl _ rfl _ rfl _ rfl _ rfl
    refine hK _ ⟨L + 1, by omega, ?_⟩ ?_
    · have e3 : ((2 : Int32) * nI (dn w k x L).1) + (nI ((dn w k x L).2 % 2) ^^^ sA R (10 + L) ((dn w k x L).1 * 2 ^ (k - 1 - L) + (dn w k x L).2 / 2)) = nI (dn w k x (L + 1)).1 := by
        rw [hR _ _ (by omega) dix, xr_I (Nat.mod_lt _ (by omega)) (hw _ _), show (2 : Int32) = nI 2 from rfl, nI_mul, nI_add]
        rfl
      have e4 : nI (dn w k x L).2 / 2 = nI (dn w k x (L + 1)).2 := by
        rw [show (2 : Int32) = nI 2 from rfl, nI_div (by omega) (by omega)]
        rfl
      exact congr (congrArg Prod.mk e3) (congr (congrArg Prod.mk e4) rfl)
    · show k - 1 - (nI (L + 1)).toNatClampNeg < k - 1 - (nI L).toNatClampNeg
      rw [nI_clamp (by omega), nI_clamp (by omega)]
      omega
