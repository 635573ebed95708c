/-! the fewest crosspoints -/
theorem lp_from {α : Type} {B : (α × Int32 → Prop) → α × Int32 → Prop} (a N : Nat) (hN : a + N < 2 ^ 31) (acc : Nat → α) (hstep : ∀ (k : Nat) (K : α × Int32 → Prop), k < N → K (acc (k + 1), nI (a + k + 1)) → B K (acc k, nI (a + k))) (hend : ∀ K : α × Int32 → Prop, B K (acc N, nI (a + N))) : lp B (acc 0, nI a) := by
  refine lp_of (I := fun q => ∃ k, k ≤ N ∧ q = (acc k, nI (a + k))) (μ := fun q => a + N - q.2.toNatClampNeg) ?_ (acc 0, nI a) ⟨0, by omega, rfl⟩
  rintro q ⟨k, hk, rfl⟩ K hK
  by_cases e : k = N
  · subst e
    exact hend K
  · refine hstep k K (by omega) (hK _ ⟨k + 1, by omega, rfl⟩ ?_)
    show a + N - (nI (a + k + 1)).toNatClampNeg < a + N - (nI (a + k)).toNatClampNeg
    rw [nI_clamp (by omega), nI_clamp (by omega)]
    omega
def nJ (n : Nat) : Int64 := Int64.ofNat n
theorem nJ_add (a b : Nat) : nJ a + nJ b = nJ (a + b) := (Int64.ofNat_add a b).symm
theorem nJ_mul (a b : Nat) : nJ a * nJ b = nJ (a * b) := (Int64.ofNat_mul a b).symm
theorem nJ_toInt {a : Nat} (h : a < 2 ^ 63) : (nJ a).toInt = (a : Int) := Int64.toInt_ofNat_of_lt h
theorem nJ_le_iff {a b : Nat} (ha : a < 2 ^ 63) (hb : b < 2 ^ 63) : nJ a ≤ nJ b ↔ a ≤ b := by
  rw [Int64.le_iff_toInt_le, nJ_toInt ha, nJ_toInt hb]
  omega
theorem nI_long {a : Nat} (h : a < 2 ^ 31) : (nI a).toInt64 = nJ a := by
  apply Int64.toInt_inj.mp
  rw [Int32.toInt_toInt64, nI_toInt h, nJ_toInt (by omega)]
theorem nJ_int (a : Nat) : (nJ a).toInt32 = nI a := Int64.toInt32_ofNat'
theorem nI_min {a b : Nat} (ha : a < 2 ^ 31) (hb : b < 2 ^ 31) : (if nI a < nI b then nI a else nI b) = nI (min a b) := by
  by_cases h : a < b
  · rw [if_pos ((nI_lt_iff ha hb).mpr h), Nat.min_eq_left (by omega)]
  · rw [if_neg (fun q => h ((nI_lt_iff ha hb).mp q)), Nat.min_eq_right (by omega)]
def midC (c s : Nat) : Nat := if c = 0 then s else 2 * s - 1
def mnC (f : Nat → Nat) (c L : Nat) : Nat → Nat
  | 0 => L * L
  | j + 1 => if L % (2 + j) = 0 then min (2 * L * midC c (2 + j) + midC c (2 + j) * f (L / (2 + j))) (mnC f c L j) else mnC f c L j
def cpC (c : Nat) : Nat → Nat → Nat
  | 0, L => L * L
  | n + 1, L => mnC (cpC c n) c L (L - 2)
theorem mnC_le (f : Nat → Nat) (c L : Nat) : ∀ j, mnC f c L j ≤ L * L
  | 0 => Nat.le_refl _
  | j + 1 => by
    have := mnC_le f c L j
    unfold mnC
    split
    · exact Nat.le_trans (Nat.min_le_right _ _) this
    · exact this
theorem cpC_le (c n L : Nat) : cpC c n L ≤ L * L := by
  cases n with
  | zero => exact Nat.le_refl _
  | succ n => exact mnC_le _ c L _
theorem sq_le {L : Nat} (h : L ≤ 64) : L * L ≤ 4096 := Nat.mul_le_mul h h
theorem midC_le {c s : Nat} (h : s ≤ 64) : midC c s ≤ 127 := by
  unfold midC
  split <;> omega
theorem cp_bnd {c n L s : Nat} (hL : L ≤ 64) (hs : s ≤ 64) : 2 * L * midC c s + midC c s * cpC c n (L / s) ≤ 600000 := by
  have h1 := midC_le (c := c) hs
  have h2 : cpC c n (L / s) ≤ 4096 := Nat.le_trans (cpC_le _ _ _) (sq_le (Nat.le_trans (Nat.div_le_self _ _) hL))
  have h3 : midC c s * cpC c n (L / s) ≤ 127 * 4096 := Nat.mul_le_mul h1 h2
  have h4 : 2 * L * midC c s ≤ 128 * 127 := Nat.mul_le_mul (by omega) h1
  omega
section CPC
variable {c st n L : Nat}
theorem cp_val {L s m r : Nat} (hd : L % s = 0) : 2 * (L / s) * s * m + m * r = 2 * L * m + m * r := by
  rw [Nat.mul_assoc 2, Nat.div_mul_cancel (Nat.dvd_of_mod_eq_zero hd)]
theorem c_cpL (hst : st < 3) (hL1 : 1 ≤ L) (hL : L ≤ 64) (hc : c < 2) (hrec : ∀ (L' : Nat) (Q : Int32 → Prop), 1 ≤ L' → L' ≤ 64 → Q (nI (cpC c st L')) → pnX5_crosspoints n (nI L') (nI st) (nI c) Q) {Q : Int32 → Prop} (h : Q (nI (cpC c (st + 1) L))) : lX5_crosspoints_13 (pnX5_crosspoints n) (nI L) (nI (st + 1)) (nI c) Q (nI (L * L)) 2 := by
  unfold lX5_crosspoints_13
  refine lp_from (α := Int32) 2 (L - 2) (by omega) (fun j => nI (mnC (cpC c st) c L j)) (fun j K hj hK => ?_) (fun K => ?_)
  · show bX5_crosspoints_13 _ (nI L) _ _ _ _ (nI (mnC (cpC c st) c L j)) (nI (2 + j))
    unfold bX5_crosspoints_13
    have hK' : K (nI (mnC (cpC c st) c L (j + 1)), nI (2 + j + 1)) := hK
    have hm := mnC_le (cpC c st) c L j
    have hsq := sq_le hL
    refine ⟨fun q => absurd q (nI_ge (b := L) (by omega) (by omega)), fun _ => ⟨nI_ne0 (by omega) (by omega), ?_⟩⟩
    rw [nI_rem (by omega) (by omega), nI_div (by omega) (by omega)]
    have hp : nI (st + 1) - 1 = nI st := nI_sub (a := st + 1) (b := 1) (by omega)
    by_cases hd : L % (2 + j) = 0
    · rw [hd]
      refine ⟨fun _ => ⟨nI_ne0 (by omega) (by omega), ?_⟩, fun q => absurd rfl q⟩
      rintro _ rfl
      rw [hp]
      have hg1 : 1 ≤ L / (2 + j) := Nat.div_pos (by omega) (by omega)
      have hg2 : L / (2 + j) ≤ 64 := Nat.le_trans (Nat.div_le_self _ _) hL
      have hb := cp_bnd (c := c) (n := st) (L := L) (s := 2 + j) hL (by omega)
      have e0 : mnC (cpC c st) c L (j + 1) = min (2 * L * midC c (2 + j) + midC c (2 + j) * cpC c st (L / (2 + j))) (mnC (cpC c st) c L j) := if_pos hd
      rw [e0] at hK'
      refine ⟨fun k0 => ?_, fun k1 => ?_⟩
      · have c0 : c = 0 := (nI_eq_iff (a := c) (b := 0) (by omega) (by omega)).mp k0
        refine hrec _ _ hg1 hg2 ?_
        rintro _ rfl _ rfl
        have em : midC c (2 + j) = 2 + j := if_pos c0
        rw [em] at hK' hb
        rw [nI_s1, show (2 : Int32) = nI 2 from rfl, nI_mul, nI_mul, nI_mul, nI_mul, nI_add, cp_val hd, nI_min (by omega) (by omega)]
        exact hK'
      · have c1 : ¬ c = 0 := fun q => k1 (by rw [q]; rfl)
        rintro _ rfl
        refine hrec _ _ hg1 hg2 ?_
        rintro _ rfl _ rfl
        have em : midC c (2 + j) = 2 * (2 + j) - 1 := if_neg c1
        rw [em] at hK' hb
        have e2 : ((2 : Int32) * nI (2 + j)) - 1 = nI (2 * (2 + j) - 1) := by
          rw [show (2 : Int32) = nI 2 from rfl, nI_mul]
          exact nI_sub (b := 1) (by omega)
        rw [nI_s1, e2, show (2 : Int32) = nI 2 from rfl, nI_mul, nI_mul, nI_mul, nI_mul, nI_add, cp_val hd, nI_min (by omega) (by omega)]
        exact hK'
    · have e0 : mnC (cpC c st) c L (j + 1) = mnC (cpC c st) c L j := if_neg hd
      rw [e0] at hK'
      refine ⟨fun q => absurd q (nI_ne0 (by have := Nat.pos_of_ne_zero hd; omega) (by have := Nat.mod_lt L (y := 2 + j) (by omega); omega)), fun _ => ?_⟩
      rintro _ rfl
      rw [nI_s1]
      exact hK'
  · show bX5_crosspoints_13 _ (nI L) _ _ _ _ (nI (mnC (cpC c st) c L (L - 2))) (nI (2 + (L - 2)))
    unfold bX5_crosspoints_13
    exact ⟨fun _ => h, fun q => absurd (nI_le (a := L) (by omega) (by omega)) q⟩
theorem c_cp (hc : c < 2) : ∀ (st n L : Nat) (Q : Int32 → Prop), st < n → st ≤ 3 → 1 ≤ L → L ≤ 64 → Q (nI (cpC c st L)) → pnX5_crosspoints n (nI L) (nI st) (nI c) Q := by
  intro st
  induction st with
  | zero =>
    intro n L Q hn _ h1 h2 h
    obtain ⟨n, rfl⟩ : ∃ k, n = k + 1 := ⟨n - 1, by omega⟩
    show pbX5_crosspoints _ _ _ _ _
    unfold pbX5_crosspoints
    rintro _ rfl
    rw [nI_mul]
    exact ⟨fun q => absurd q (by decide), fun _ => h⟩
  | succ st ih =>
    intro n L Q hn h3 h1 h2 h
    obtain ⟨n, rfl⟩ : ∃ k, n = k + 1 := ⟨n - 1, by omega⟩
    show pbX5_crosspoints _ _ _ _ _
    unfold pbX5_crosspoints
    rintro _ rfl
    rw [nI_mul]
    refine ⟨fun _ => c_cpL (by omega) h1 h2 hc (fun L' Q' a b d => ih n L' Q' (by omega) (by omega) a b d) h, fun q => absurd ?_ q⟩
    exact (nI_lt_iff (a := 0) (b := st + 1) (by omega) (by omega)).mpr (by omega)
end CPC
section CPM
variable {c : Nat} {x1 x2 : Int32}
def tbl (t : Nat → Int64) (c a b : Nat) : Prop := ∀ a' L, 1 ≤ L → L ≤ 64 → (a' < a ∨ (a' = a ∧ L < b)) → t (65 * a' + L) = nJ (cpC c a' L)
theorem m_cpL {M : St} {st L : Nat} (hst : st < 3) (hL1 : 1 ≤ L) (hL : L ≤ 64) (hc : c < 2) (ht : tbl (sJ M 29) c st L) {Q : Int64 → Prop} (h : Q (nJ (cpC c st L))) : lX6_cross_73 M x1 x2 (nI c) (nI st) (nI L) Q (nJ (L * L)) 2 := by
  have hsq := sq_le hL
  unfold lX6_cross_73
  cases st with
  | zero =>
    refine lp_from (α := Int64) 2 0 (by omega) (fun _ => nJ (L * L)) (fun j K hj hK => absurd hj (by omega)) (fun K => ?_)
    show bX6_cross_73 M x1 x2 _ _ _ _ _ (nJ (L * L)) (nI 2)
    unfold bX6_cross_73
    exact ⟨fun _ => h, fun _ => ⟨fun _ => h, fun q => absurd (by decide) q⟩⟩
  | succ st =>
    refine lp_from (α := Int64) 2 (L - 2) (by omega) (fun j => nJ (mnC (cpC c st) c L j)) (fun j K hj hK => ?_) (fun K => ?_)
    · show bX6_cross_73 M x1 x2 _ _ _ _ _ (nJ (mnC (cpC c st) c L j)) (nI (2 + j))
      unfold bX6_cross_73
      have hK' : K (nJ (mnC (cpC c st) c L (j + 1)), nI (2 + j + 1)) := hK
      have hm := mnC_le (cpC c st) c L j
      have hz : ¬ nI (2 + j) = 0 := nI_ne0 (by omega) (by omega)
      refine ⟨fun q => absurd q (nI_ge (b := L) (by omega) (by omega)), fun _ => ⟨fun q => absurd q (nI_nle (by omega) (by omega)), fun _ => ⟨hz, ?_⟩⟩⟩
      rw [nI_rem (by omega) (by omega)]
      by_cases hd : L % (2 + j) = 0
      · rw [hd]
        have hg1 : 1 ≤ L / (2 + j) := Nat.div_pos (by omega) (by omega)
        have hg2 : L / (2 + j) ≤ 64 := Nat.le_trans (Nat.div_le_self _ _) hL
        have hb := cp_bnd (c := c) (n := st) (L := L) (s := 2 + j) hL (by omega)
        have e0 : mnC (cpC c st) c L (j + 1) = min (2 * L * midC c (2 + j) + midC c (2 + j) * cpC c st (L / (2 + j))) (mnC (cpC c st) c L j) := if_pos hd
        rw [e0] at hK'
        have key : ∀ u : Nat, u = midC c (2 + j) → jX6_cross_108 (fun x6 x8 => K (x6, x8)) M x1 x2 (nI c) (nI (st + 1)) (nI L) (nJ (mnC (cpC c st) c L j)) (nI (2 + j)) (nI u) := by
          intro u hu
          subst hu
          have hp : nI (st + 1) - 1 = nI st := nI_sub (a := st + 1) (b := 1) (by omega)
          have h127 := midC_le (c := c) (s := 2 + j) (by omega)
          have ei : ((65 : Int32) * (nI (st + 1) - 1)) + nI L / nI (2 + j) = nI (65 * st + L / (2 + j)) := by
            rw [hp, nI_div (by omega) (by omega), show (65 : Int32) = nI 65 from rfl, nI_mul, nI_add]
          unfold jX6_cross_108
          rw [ei]
          refine ⟨hz, vp_in_nI (by omega) (by omega), ?_⟩
          rintro _ rfl
          rw [nI_clamp (by omega), ht st (L / (2 + j)) hg1 hg2 (Or.inl (by omega)), nI_long (by omega), nI_long (by omega), show (2 : Int64) = nJ 2 from rfl, nJ_mul, nJ_mul, nJ_mul, nJ_add, lg_cmp_ge, nJ_le_iff (by omega) (by omega)]
          refine ⟨fun q => ?_, fun q => ?_⟩
          · rintro _ rfl
            rw [Nat.min_eq_right (by omega)] at hK'
            rw [nI_s1]
            exact hK'
          · rintro _ rfl
            rw [Nat.min_eq_left (by omega)] at hK'
            rw [nI_s1]
            exact hK'
        refine ⟨fun _ => ⟨fun k0 => ?_, fun k1 => ?_⟩, fun q => absurd rfl q⟩
        · have c0 : c = 0 := (nI_eq_iff (a := c) (b := 0) (by omega) (by omega)).mp k0
          exact key (2 + j) (if_pos c0).symm
        · have c1 : ¬ c = 0 := fun q => k1 (by rw [q]; rfl)
          have e2 : ((2 : Int32) * nI (2 + j)) - 1 = nI (2 * (2 + j) - 1) := by
            rw [show (2 : Int32) = nI 2 from rfl, nI_mul]
            exact nI_sub (b := 1) (by omega)
          rw [e2]
          exact key (2 * (2 + j) - 1) (if_neg c1).symm
      · have e0 : mnC (cpC c st) c L (j + 1) = mnC (cpC c st) c L j := if_neg hd
        rw [e0] at hK'
        refine ⟨fun q => absurd q (nI_ne0 (by have := Nat.pos_of_ne_zero hd; omega) (by have := Nat.mod_lt L (y := 2 + j) (by omega); omega)), fun _ => ?_⟩
        rintro _ rfl
        rw [nI_s1]
        exact hK'
    · show bX6_cross_73 M x1 x2 _ _ _ _ _ (nJ (mnC (cpC c st) c L (L - 2))) (nI (2 + (L - 2)))
      unfold bX6_cross_73
      exact ⟨fun _ => h, fun q => absurd (nI_le (a := L) (by omega) (by omega)) q⟩
theorem sJ_uJs (s : St) (k : Nat) (f : Nat → Int64) : sJ (uJ s k f) k = f := if_pos rfl
theorem uJ_uJ (s : St) (k : Nat) (f g : Nat → Int64) : uJ (uJ s k f) k g = uJ s k g := by
  unfold uJ
  rw [va_upup]
theorem m_cpR {M : St} {st : Nat} (hst : st < 3) (hc : c < 2) {t0 : Nat → Int64} (ht0 : tbl t0 c st 0) {Q : St → Prop} (h : ∀ t, tbl t c (st + 1) 0 → Q (uJ M 29 t)) : lX6_cross_54 x1 x2 (nI c) (nI st) Q (uJ M 29 t0) 1 := by
  unfold lX6_cross_54
  refine lp_of (I := fun q => ∃ L t, 1 ≤ L ∧ L ≤ 65 ∧ q = (uJ M 29 t, nI L) ∧ tbl t c st L) (μ := fun q => 65 - q.2.toNatClampNeg) ?_ (uJ M 29 t0, 1) ⟨1, t0, by omega, by omega, rfl, fun a L h1 h2 h3 => ht0 a L h1 h2 (by omega)⟩
  rintro q ⟨L, t, h1, h2, rfl, ht⟩ K hK
  show bX6_cross_54 x1 x2 _ _ _ _ (uJ M 29 t) (nI L)
  unfold bX6_cross_54
  refine ⟨fun q => ?_, fun q => ?_⟩
  · have : 64 < L := (nI_lt_iff (a := 64) (b := L) (by omega) (by omega)).mp q
    exact h t (fun a L' k1 k2 k3 => ht a L' k1 k2 (by omega))
  · have hL : L ≤ 64 := Nat.le_of_not_lt (fun q2 => q ((nI_lt_iff (a := 64) (b := L) (by omega) (by omega)).mpr q2))
    rintro _ rfl
    rw [nI_long (by omega), nJ_mul]
    refine m_cpL hst h1 hL hc (by rw [sJ_uJs]; exact ht) ?_
    have ei : ((65 : Int32) * nI st) + nI L = nI (65 * st + L) := by
      rw [show (65 : Int32) = nI 65 from rfl, nI_mul, nI_add]
    rw [ei]
    refine ⟨vp_in_nI (by omega) (by omega), ?_⟩
    rintro _ rfl _ rfl
    rw [nI_clamp (by omega), sJ_uJs, uJ_uJ, nI_s1]
    refine hK _ ⟨L + 1, _, by omega, by omega, rfl, fun a L' k1 k2 k3 => ?_⟩ ?_
    · unfold vp_updL
      by_cases e : 65 * a + L' = 65 * st + L
      · obtain ⟨rfl, rfl⟩ : a = st ∧ L' = L := by omega
        rw [if_pos rfl]
      · rw [if_neg e]
        exact ht a L' k1 k2 (by omega)
    · show 65 - (nI (L + 1)).toNatClampNeg < 65 - (nI L).toNatClampNeg
      rw [nI_clamp (by omega), nI_clamp (by omega)]
      omega
theorem m_cp {M : St} {st : Nat} (hst : st < 3) (hc : c < 2) {Q : St → Prop} (h : ∀ t, tbl t c (st + 1) 0 → Q (uJ M 29 t)) : lX6_cross_45 x1 (nI st) (nI c) Q M 0 := by
  unfold lX6_cross_45
  refine lp_of (I := fun q => ∃ a t, a ≤ st + 1 ∧ q = (uJ M 29 t, nI a) ∧ tbl t c a 0) (μ := fun q => st + 1 - q.2.toNatClampNeg) ?_ (M, 0) ⟨0, sJ M 29, by omega, ?_, fun a L h1 h2 h3 => by omega⟩
  · rintro q ⟨a, t, h1, rfl, ht⟩ K hK
    show bX6_cross_45 x1 _ _ _ _ (uJ M 29 t) (nI a)
    unfold bX6_cross_45
    refine ⟨fun q => ?_, fun q => ?_⟩
    · have : st < a := (nI_lt_iff (by omega) (by omega)).mp q
      obtain rfl : a = st + 1 := by omega
      exact h t ht
    · have ha : a ≤ st := Nat.le_of_not_lt (fun q2 => q ((nI_lt_iff (by omega) (by omega)).mpr q2))
      refine m_cpR (by omega) hc ht (fun t2 ht2 => ?_)
      rintro _ rfl
      rw [nI_s1]
      refine hK _ ⟨a + 1, t2, by omega, rfl, ht2⟩ ?_
      show st + 1 - (nI (a + 1)).toNatClampNeg < st + 1 - (nI a).toNatClampNeg
      rw [nI_clamp (by omega), nI_clamp (by omega)]
      omega
  · have : uJ M 29 (sJ M 29) = M := by
      unfold uJ sJ
      rw [va_upself]
    rw [this]
    rfl
end CPM
theorem l32_2' : (2 : Int32).toInt = 2 := by decide
theorem l64_2' : (2 : Int64).toInt = 2 := by decide
theorem l64_64 : (64 : Int64).toInt = 64 := by decide
theorem st_20 : stepOK_20 Rel := by
  intro T M a1 a2 a3 h
  obtain ⟨hS, hN, hA, hF⟩ := h
  simp only [pX5_cross, pX6_cross, within_iff, in_iff, forall_eq, Int32.toInt_toInt64, l32_0, l32_1, l32_2, l32_64, l64_0, l64_1, l64_2, l64_64]
  by_cases h1 : 1 ≤ a1.toInt ∧ a1.toInt ≤ 64
  · by_cases h2 : 0 ≤ a2.toInt ∧ a2.toInt ≤ 2
    · by_cases h3 : 0 ≤ a3.toInt ∧ a3.toInt ≤ 1
      · simp only [if_pos h1, if_pos h2, if_pos h3, one_ne, imp_F, not_F, imp_T, true_and]
        obtain ⟨L, hL, rfl⟩ := nI_rg (n := 65) (x := a1) (by omega) (by omega) (by omega)
        obtain ⟨st, hst, rfl⟩ := nI_rg (n := 3) (x := a2) (by omega) (by omega) (by omega)
        obtain ⟨c, hc, rfl⟩ := nI_rg (n := 2) (x := a3) (by omega) (by omega) (by omega)
        have hL1 : 1 ≤ L := by
          have := h1.1
          rw [nI_toInt (by omega)] at this
          omega
        unfold pX5_crosspoints
        refine c_cp hc st 4 L _ (by omega) (by omega) hL1 (by omega) ?_
        refine m_cp hst hc (fun t ht => ?_)
        have ei : ((65 : Int32) * nI st) + nI L = nI (65 * st + L) := by
          rw [show (65 : Int32) = nI 65 from rfl, nI_mul, nI_add]
        rw [ei, nI_clamp (by omega), sJ_uJs, ht st L hL1 (by omega) (Or.inl (by omega)), nJ_int]
        exact ⟨vp_in_nI (by omega) (by omega), rfl, hS, hN, hA, hF⟩
      · simp only [if_pos h1, if_pos h2, if_neg h3, one_ne, zero_eq, imp_F, not_F, not_T, imp_T, and_true, true_and]
        exact ⟨hS, hN, hA, hF⟩
    · simp only [if_pos h1, if_neg h2, one_ne, zero_eq, imp_F, not_F, not_T, imp_T, and_true, true_and]
      exact ⟨hS, hN, hA, hF⟩
  · simp only [if_neg h1, zero_eq, imp_F, not_T, imp_T, and_true, true_and]
    exact ⟨hS, hN, hA, hF⟩
