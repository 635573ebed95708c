/-! the table taken, on both sides -/
def rng (x : Int32) : Prop := 0 ≤ x.toInt ∧ x.toInt ≤ 1000
def vN (v : Nat → Nat → Int32) (a b : Nat) : Nat := (v a b).toInt.toNat
theorem rng_vN {v : Nat → Nat → Int32} {a b : Nat} (h : rng (v a b)) : v a b = nI (vN v a b) ∧ vN v a b ≤ 1000 := by
  obtain ⟨w, hw, e⟩ := nI_rg (x := v a b) (n := 1001) h.1 (by have := h.2; omega) (by omega)
  have e2 : vN v a b = w := by
    unfold vN
    rw [e, nI_toInt (by omega)]
    rfl
  rw [e2]
  exact ⟨e, by omega⟩
def rgA (s : Nat) (v : Nat → Nat → Int32) : Prop := ∀ a b, a < s → b < s → rng (v a b)
def okT (s : Nat) (v : Nat → Nat → Int32) : Prop := rgA s v ∧ ∀ e, e < s → sN (fun b => vN v e b) s = sN (fun b => vN v 0 b) s ∧ sN (fun a => vN v a e) s = sN (fun b => vN v 0 b) s
theorem sN_bd {f : Nat → Nat} {s : Nat} (h : ∀ i, i < s → f i ≤ 1000) : sN f s ≤ 1000 * s := by
  have h2 : ∀ k, sN (fun _ => 1000) k = 1000 * k := by
    intro k
    induction k with
    | zero => rfl
    | succ k ih => rw [sN_s, ih]; omega
  rw [← h2]
  exact sN_le h
section TB
variable {s : Nat} {v : Nat → Nat → Int32}
theorem c_sumRow {P : St} {e : Nat} (hs : s ≤ 6) (he : e < s) (h3 : sF P 3 = nI s) (hA : row2 s (vN v) P) {Q : Int32 → Prop} (h : Q (nI (sN (fun b => vN v e b) s))) : pX2_sumOfRow P (nI e) Q := by
  unfold pX2_sumOfRow lX2_sumOfRow_4
  refine lp_cnt (α := Int32) s (by omega) (fun k => nI (sN (fun b => vN v e b) k)) (fun k K hk hK => ?_) (fun K => ?_)
  · show bX2_sumOfRow_4 P (nI e) _ _ (nI (sN (fun b => vN v e b) k)) (nI k)
    have hK' : K (nI (sN (fun b => vN v e b) k + vN v e k), nI (k + 1)) := hK
    unfold bX2_sumOfRow_4
    rw [h3, nI_clamp (show e < 2 ^ 31 by omega), nI_clamp (show k < 2 ^ 31 by omega), hA e k he hk, nI_add, nI_s1]
    refine ⟨fun q => absurd q (nI_ge hk (by omega)), fun _ => ⟨vp_in_nI (by omega) (by omega), vp_in_nI (by omega) (by omega), ?_⟩⟩
    rintro _ rfl _ rfl
    exact hK'
  · show bX2_sumOfRow_4 P (nI e) _ _ (nI (sN (fun b => vN v e b) s)) (nI s)
    unfold bX2_sumOfRow_4
    rw [h3]
    exact ⟨fun _ => h, fun q => absurd (nI_le (Nat.le_refl _) (by omega)) q⟩
theorem c_sumCol {P : St} {e : Nat} (hs : s ≤ 6) (he : e < s) (h3 : sF P 3 = nI s) (hA : row2 s (vN v) P) {Q : Int32 → Prop} (h : Q (nI (sN (fun a => vN v a e) s))) : pX2_sumOfColumn P (nI e) Q := by
  unfold pX2_sumOfColumn lX2_sumOfColumn_4
  refine lp_cnt (α := Int32) s (by omega) (fun k => nI (sN (fun a => vN v a e) k)) (fun k K hk hK => ?_) (fun K => ?_)
  · show bX2_sumOfColumn_4 P (nI e) _ _ (nI (sN (fun a => vN v a e) k)) (nI k)
    have hK' : K (nI (sN (fun a => vN v a e) k + vN v k e), nI (k + 1)) := hK
    unfold bX2_sumOfColumn_4
    rw [h3, nI_clamp (show e < 2 ^ 31 by omega), nI_clamp (show k < 2 ^ 31 by omega), hA k e hk he, nI_add, nI_s1]
    refine ⟨fun q => absurd q (nI_ge hk (by omega)), fun _ => ⟨vp_in_nI (by omega) (by omega), vp_in_nI (by omega) (by omega), ?_⟩⟩
    rintro _ rfl _ rfl
    exact hK'
  · show bX2_sumOfColumn_4 P (nI e) _ _ (nI (sN (fun a => vN v a e) s)) (nI s)
    unfold bX2_sumOfColumn_4
    rw [h3]
    exact ⟨fun _ => h, fun q => absurd (nI_le (Nat.le_refl _) (by omega)) q⟩
theorem l32_1000 : (1000 : Int32).toInt = 1000 := by decide
theorem l64_1000 : (1000 : Int64).toInt = 1000 := by decide
theorem c_table {ln : Nat → Nat} {P t : St} {i : Nat} (hs : s ≤ 6) (hs1 : 1 ≤ s) (hi : i + s * s ≤ ln 1) (hl : ln 1 ≤ 64) (hv : ∀ a b, a < s → b < s → sA t 1 (i + a * s + b) = v a b) {Q : Int32 → (St × St) → Prop} (h0 : ¬ okT s v → ∀ P2, Q 0 (P2, t)) (h1 : okT s v → ∀ P2, sF P2 3 = nI s → row2 s (vN v) P2 → Q 1 (P2, t)) : pX2_takeTable ln (P, t) (nI i) (nI s) Q := by
  unfold pX2_takeTable
  rintro _ rfl
  unfold lX2_takeTable_8
  refine lp_of (I := fun q => ∃ a P2, a ≤ s ∧ q = ((P2, t), nI a) ∧ sF P2 3 = nI s ∧ ∀ x y, x < a → y < s → rng (v x y) ∧ sA P2 (10 + x) y = v x y) (μ := fun q => s - q.2.toNatClampNeg) ?_ _ ⟨0, uF P 3 (nI s), by omega, rfl, rfl, fun x y hx => absurd hx (Nat.not_lt_zero _)⟩
  rintro q ⟨a, P2, ha, rfl, i1, i2⟩ K hK
  show bX2_takeTable_8 ln (nI i) (nI s) _ _ _ (P2, t) (nI a)
  unfold bX2_takeTable_8
  by_cases e : a = s
  · subst e
    refine ⟨fun _ => ?_, fun q => absurd (nI_le (Nat.le_refl _) (by omega)) q⟩
    have hrg : rgA a v := fun x y hx hy => (i2 x y hx hy).1
    have hrow : row2 a (vN v) P2 := fun x y hx hy => (i2 x y hx hy).2.trans (rng_vN (hrg x y hx hy)).1
    have bR : ∀ e, e < a → sN (fun b => vN v e b) a < 2 ^ 31 := fun e he => by
      have := sN_bd (f := fun b => vN v e b) (s := a) (fun y hy => (rng_vN (hrg e y he hy)).2)
      omega
    have bC : ∀ e, e < a → sN (fun x => vN v x e) a < 2 ^ 31 := fun e he => by
      have := sN_bd (f := fun x => vN v x e) (s := a) (fun y hy => (rng_vN (hrg y e hy he)).2)
      omega
    refine c_sumRow (P := P2) (e := 0) hs (by omega) i1 hrow ?_
    unfold lX2_takeTable_87
    refine lp_of (I := fun q => ∃ c, c ≤ a ∧ q = nI c ∧ ∀ e, e < c → sN (fun b => vN v e b) a = sN (fun b => vN v 0 b) a ∧ sN (fun x => vN v x e) a = sN (fun b => vN v 0 b) a) (μ := fun q => a - q.toNatClampNeg) ?_ _ ⟨0, by omega, rfl, fun e he => absurd he (Nat.not_lt_zero _)⟩
    rintro q ⟨c, hc, rfl, hsum⟩ K2 hK2
    show bX2_takeTable_87 ln (P2, t) (nI a) (nI (sN (fun b => vN v 0 b) a)) _ _ _ (nI c)
    unfold bX2_takeTable_87
    by_cases e : c = a
    · subst e
      exact ⟨fun _ => h1 ⟨hrg, hsum⟩ P2 i1 hrow, fun q => absurd (nI_le (Nat.le_refl _) (by omega)) q⟩
    · have hca : c < a := by omega
      refine ⟨fun q => absurd q (nI_ge hca (by omega)), fun _ => ?_⟩
      refine c_sumRow (P := P2) hs hca i1 hrow ⟨fun q => ?_, fun q => h0 (fun ok => q (by rw [(ok.2 c hca).1])) P2⟩
      refine c_sumCol (P := P2) hs hca i1 hrow ⟨fun q2 => ?_, fun q2 => h0 (fun ok => q2 (by rw [(ok.2 c hca).2])) P2⟩
      rw [nI_s1]
      rintro _ rfl
      refine hK2 _ ⟨c + 1, by omega, rfl, fun e he => ?_⟩ ?_
      · by_cases q3 : e = c
        · rw [q3]
          exact ⟨(nI_eq (bR c hca) (bR 0 (by omega))).mp q, (nI_eq (bC c hca) (bR 0 (by omega))).mp q2⟩
        · exact hsum e (by omega)
      · show a - (nI (c + 1)).toNatClampNeg < a - (nI c).toNatClampNeg
        rw [nI_clamp (by omega), nI_clamp (by omega)]
        omega
  · have has : a < s := by omega
    refine ⟨fun q => absurd q (nI_ge has (by omega)), fun _ => ?_⟩
    unfold lX2_takeTable_17
    refine lp_of (I := fun q => ∃ b P3, b ≤ s ∧ q = ((P3, t), nI b) ∧ sF P3 3 = nI s ∧ (∀ x y, x < a → y < s → rng (v x y) ∧ sA P3 (10 + x) y = v x y) ∧ ∀ y, y < b → rng (v a y) ∧ sA P3 (10 + a) y = v a y) (μ := fun q => s - q.2.toNatClampNeg) ?_ _ ⟨0, P2, by omega, rfl, i1, i2, fun y hy => absurd hy (Nat.not_lt_zero _)⟩
    rintro q ⟨b, P3, hb, rfl, j1, j2, j3⟩ K2 hK2
    show bX2_takeTable_17 ln (nI i) (nI s) (nI a) _ _ _ (P3, t) (nI b)
    unfold bX2_takeTable_17
    by_cases e : b = s
    · subst e
      rw [nI_s1]
      refine ⟨fun _ => ?_, fun q => absurd (nI_le (Nat.le_refl _) (by omega)) q⟩
      rintro _ rfl
      refine hK _ ⟨a + 1, P3, by omega, rfl, j1, fun x y hx hy => ?_⟩ ?_
      · by_cases q : x = a
        · rw [q]
          exact j3 y hy
        · exact j2 x y (by omega) hy
      · show b - (nI (a + 1)).toNatClampNeg < b - (nI a).toNatClampNeg
        rw [nI_clamp (by omega), nI_clamp (by omega)]
        omega
    · have hbs : b < s := by omega
      have hix := idx_lt (r := s) (m := s) has hbs
      have va : vp_in (nI a) 6 := vp_in_nI (by omega) (by omega)
      have vb : vp_in (nI b) 6 := vp_in_nI (by omega) (by omega)
      rw [nI_mul, nI_add, nI_add, nI_clamp (show i + a * s + b < 2 ^ 31 by omega), nI_s1]
      refine ⟨fun q => absurd q (nI_ge hbs (by omega)), fun _ => ⟨vp_in_nI (by omega) (by omega), ?_⟩⟩
      rintro _ rfl
      show pX5_within (sA t 1 (i + a * s + b)) 0 1000 _
      rw [hv a b has hbs, within_iff, l32_0, l32_1000]
      by_cases g : 0 ≤ (v a b).toInt ∧ (v a b).toInt ≤ 1000
      · rw [if_pos g]
        refine ⟨fun q => absurd q (by decide), fun _ => ⟨va, vb, ?_⟩⟩
        rintro _ rfl _ rfl
        rw [nI_clamp (show a < 2 ^ 31 by omega), nI_clamp (show b < 2 ^ 31 by omega)]
        refine hK2 _ ⟨b + 1, uA P3 (10 + a) (upd (sA P3 (10 + a)) b (v a b)), by omega, ?_, j1, fun x y hx hy => ?_, fun y hy => ?_⟩ ?_
        · rw [nI_s1]
        · rw [sA_uA, if_neg (by omega)]
          exact j2 x y hx hy
        · rw [sA_uA, if_pos rfl]
          by_cases q : y = b
          · rw [q, upd_same]
            exact ⟨g, rfl⟩
          · rw [upd_other _ _ q]
            exact j3 y (by omega)
        · show s - (nI b + 1).toNatClampNeg < s - (nI b).toNatClampNeg
          rw [nI_s1, nI_clamp (by omega), nI_clamp (by omega)]
          omega
      · rw [if_neg g]
        exact ⟨fun _ => h0 (fun ok => g (ok.1 a b has hbs)) P3, fun q => absurd rfl q⟩
theorem m_j194 {M : St} {a b : Nat} {gd : Bool} {x1 x2 x3 x4 x5 x6 x9 x10 x12 x13 : Int32} (ha : a < 6) (hb : b < 6) {K : St → Int32 → Int32 → Int32 → Int32 → Prop} (h : K (uA M 24 (upd (sA M 24) (6 * a + b) x12)) (bI gd) (if gd = true then x9 + x12 else x9 + 0) (if gd = true then x10 + x13 else x10 + 0) (nI (b + 1))) : jX6_demand_194 K M x1 x2 x3 x4 x5 x6 (nI a) x9 x10 (nI b) x12 x13 (bI gd) := by
  have vi : vp_in (nI (6 * a + b)) 36 := vp_in_nI (by omega) (by omega)
  unfold jX6_demand_194
  rw [ix6, nI_clamp (show 6 * a + b < 2 ^ 31 by omega), nI_s1]
  cases gd with
  | false =>
    refine ⟨fun _ => ?_, fun q => absurd rfl q⟩
    rintro _ rfl
    refine ⟨fun _ => ?_, fun q => absurd rfl q⟩
    rintro _ rfl
    refine ⟨vi, ?_⟩
    rintro _ rfl _ rfl
    exact h
  | true =>
    refine ⟨fun q => absurd q (by decide), fun _ => ?_⟩
    rintro _ rfl
    refine ⟨fun q => absurd q (by decide), fun _ => ?_⟩
    rintro _ rfl
    refine ⟨vi, ?_⟩
    rintro _ rfl _ rfl
    exact h
theorem m_row {M : St} {a i p : Nat} {x4 x5 x6 : Int32} {g0 : Bool} (hs : s ≤ 6) (ha : a < s) (hp : p < 8) (hi : i + s * s ≤ 64) (hv : ∀ a b, a < s → b < s → sA M 4 (64 * p + i + s * a + b) = v a b) {f0 : Nat → Int32} (hf0 : ∀ x y, x < a → y < s → f0 (6 * x + y) = v x y) (hg0 : g0 = false → ¬ okT s v) {K : St → Int32 → Int32 → Int32 → Prop} (h : ∀ f gd su ot, (∀ x y, x < a + 1 → y < s → f (6 * x + y) = v x y) → (gd = false → ¬ okT s v) → (gd = true → g0 = true ∧ (∀ y, y < s → rng (v a y) ∧ rng (v y a)) ∧ su = nI (sN (fun b => vN v a b) s) ∧ ot = nI (sN (fun c => vN v c a) s)) → K (uA M 24 f) (bI gd) su ot) : lX6_demand_110 (nI p) (nI i) (nI s) x4 x5 x6 (nI a) K (uA M 24 f0) (bI g0) 0 0 0 := by
  unfold lX6_demand_110
  refine lp_of (I := fun q => ∃ b f gd su ot, b ≤ s ∧ q = (uA M 24 f, bI gd, su, ot, nI b) ∧ (∀ x y, x < a → y < s → f (6 * x + y) = v x y) ∧ (∀ y, y < b → f (6 * a + y) = v a y) ∧ (gd = false → ¬ okT s v) ∧ (gd = true → g0 = true ∧ (∀ y, y < b → rng (v a y) ∧ rng (v y a)) ∧ su = nI (sN (fun b => vN v a b) b) ∧ ot = nI (sN (fun c => vN v c a) b))) (μ := fun q => s - q.2.2.2.2.toNatClampNeg) ?_ _ ⟨0, f0, g0, 0, 0, by omega, rfl, hf0, fun y hy => absurd hy (Nat.not_lt_zero _), hg0, fun q => ⟨q, fun y hy => absurd hy (Nat.not_lt_zero _), rfl, rfl⟩⟩
  rintro q ⟨b, f, gd, su, ot, hb, rfl, i1, i2, i3, i4⟩ K2 hK2
  show bX6_demand_110 (nI p) (nI i) (nI s) x4 x5 x6 (nI a) _ _ (uA M 24 f) (bI gd) su ot (nI b)
  unfold bX6_demand_110
  by_cases e : b = s
  · subst e
    refine ⟨fun _ => h f gd su ot (fun x y hx hy => ?_) i3 i4, fun q => absurd (nI_le (Nat.le_refl _) (by omega)) q⟩
    by_cases q : x = a
    · rw [q]
      exact i2 y hy
    · exact i1 x y (by omega) hy
  · have hbs : b < s := by omega
    have h1 := idx_lt (r := s) (m := s) ha hbs
    have h2 := idx_lt (r := s) (m := s) hbs ha
    rw [Nat.mul_comm a s] at h1
    rw [Nat.mul_comm b s] at h2
    have e1 : sA (uA M 24 f) 4 (64 * p + i + s * a + b) = v a b := hv a b ha hbs
    have e2 : sA (uA M 24 f) 4 (64 * p + i + s * b + a) = v b a := hv b a hbs ha
    have es24 : sA (uA M 24 f) 24 = f := rfl
    have step : ∀ g2 : Bool, (g2 = true → gd = true ∧ rng (v a b) ∧ rng (v b a)) → (g2 = false → ¬ okT s v) → jX6_demand_194 (fun s x7 x9 x10 x11 => K2 (s, x7, x9, x10, x11)) (uA M 24 f) (nI p) (nI i) (nI s) x4 x5 x6 (nI a) su ot (nI b) (v a b) (v b a) (bI g2) := by
      intro g2 hg hn
      refine m_j194 (by omega) (by omega) ?_
      rw [uA_uA, es24]
      refine hK2 _ ⟨b + 1, _, g2, _, _, by omega, rfl, fun x y hx hy => ?_, fun y hy => ?_, hn, fun q => ?_⟩ ?_
      · rw [upd_other _ _ (by omega)]
        exact i1 x y hx hy
      · by_cases q : y = b
        · rw [q]
          exact upd_same _ _ _
        · rw [upd_other _ _ (by omega)]
          exact i2 y (by omega)
      · obtain ⟨q1, q2, q3⟩ := hg q
        obtain ⟨k1, k2, k3, k4⟩ := i4 q1
        refine ⟨k1, fun y hy => ?_, ?_, ?_⟩
        · by_cases q4 : y = b
          · rw [q4]
            exact ⟨q2, q3⟩
          · exact k2 y (by omega)
        · rw [if_pos q, k3, (rng_vN q2).1, nI_add]
          rfl
        · rw [if_pos q, k4, (rng_vN (v := v) (a := b) (b := a) q3).1, nI_add]
          rfl
      · show s - (nI (b + 1)).toNatClampNeg < s - (nI b).toNatClampNeg
        rw [nI_clamp (by omega), nI_clamp (by omega)]
        omega
    rw [ix64, nI_mul, nI_mul, nI_add, nI_add, nI_add, nI_add, nI_clamp (show 64 * p + i + s * a + b < 2 ^ 31 by omega), nI_clamp (show 64 * p + i + s * b + a < 2 ^ 31 by omega), e1, e2]
    refine ⟨fun q => absurd q (nI_ge hbs (by omega)), fun _ => ⟨vp_in_nI (by omega) (by omega), ?_⟩⟩
    rintro _ rfl
    refine ⟨vp_in_nI (by omega) (by omega), ?_⟩
    rintro _ rfl
    refine ⟨fun q => ?_, fun q => ?_⟩
    · exact step false (fun q2 => (nomatch q2)) (fun _ => i3 (bI_0.mp q))
    · have hgd := bI_n0 q
      rw [in_iff, Int32.toInt_toInt64, l64_0, l64_1000]
      by_cases g : 0 ≤ (v a b).toInt ∧ (v a b).toInt ≤ 1000
      · rw [if_pos g]
        refine ⟨fun q2 => absurd q2 (by decide), fun _ => ?_⟩
        rw [in_iff, Int32.toInt_toInt64, l64_0, l64_1000]
        by_cases g2 : 0 ≤ (v b a).toInt ∧ (v b a).toInt ≤ 1000
        · rw [if_pos g2]
          exact ⟨fun q2 => absurd q2 (by decide), fun _ => step true (fun _ => ⟨hgd, g, g2⟩) (fun q2 => (nomatch q2))⟩
        · rw [if_neg g2]
          exact ⟨fun _ => step false (fun q2 => (nomatch q2)) (fun _ ok => g2 (ok.1 b a hbs ha)), fun q2 => absurd rfl q2⟩
      · rw [if_neg g]
        exact ⟨fun _ => step false (fun q2 => (nomatch q2)) (fun _ ok => g (ok.1 a b ha hbs)), fun q2 => absurd rfl q2⟩
theorem m_table {M : St} {i p : Nat} {x4 x5 : Int32} (hs : s ≤ 6) (hs1 : 1 ≤ s) (hp : p < 8) (hi : i + s * s ≤ 64) (hv : ∀ a b, a < s → b < s → sA M 4 (64 * p + i + s * a + b) = v a b) {K : St → Int32 → Int32 → Prop} (h0 : ¬ okT s v → ∀ f z, K (uA M 24 f) z 0) (h1 : okT s v → ∀ f, (∀ x y, x < s → y < s → f (6 * x + y) = v x y) → K (uA M 24 f) (nI (sN (fun b => vN v 0 b) s)) 1) : lX6_demand_95 (nI p) (nI i) (nI s) x4 x5 K M 0 1 0 := by
  unfold lX6_demand_95
  refine lp_of (I := fun q => ∃ a f al gd, a ≤ s ∧ q = (uA M 24 f, al, bI gd, nI a) ∧ (∀ x y, x < a → y < s → f (6 * x + y) = v x y) ∧ (gd = false → ¬ okT s v) ∧ (gd = true → (∀ x y, x < a → y < s → rng (v x y) ∧ rng (v y x)) ∧ (∀ e, e < a → sN (fun b => vN v e b) s = sN (fun b => vN v 0 b) s ∧ sN (fun c => vN v c e) s = sN (fun b => vN v 0 b) s) ∧ (0 < a → al = nI (sN (fun b => vN v 0 b) s)))) (μ := fun q => s - q.2.2.2.toNatClampNeg) ?_ _ ⟨0, sA M 24, 0, true, by omega, by rw [uA_self]; rfl, fun x y hx => absurd hx (Nat.not_lt_zero _), fun q => (nomatch q), fun _ => ⟨fun x y hx => absurd hx (Nat.not_lt_zero _), fun e he => absurd he (Nat.not_lt_zero _), fun q => absurd q (Nat.lt_irrefl _)⟩⟩
  rintro q ⟨a, f, al, gd, ha, rfl, i1, i2, i3⟩ K2 hK2
  show bX6_demand_95 (nI p) (nI i) (nI s) x4 x5 _ _ (uA M 24 f) al (bI gd) (nI a)
  unfold bX6_demand_95
  by_cases e : a = s
  · subst e
    refine ⟨fun _ => ?_, fun q => absurd (nI_le (Nat.le_refl _) (by omega)) q⟩
    cases gd with
    | false => exact h0 (i2 rfl) f al
    | true =>
      obtain ⟨k1, k2, k3⟩ := i3 rfl
      rw [k3 (by omega)]
      exact h1 ⟨fun x y hx hy => (k1 x y hx hy).1, k2⟩ f i1
  · have has : a < s := by omega
    refine ⟨fun q => absurd q (nI_ge has (by omega)), fun _ => ?_⟩
    refine m_row (g0 := gd) hs has hp hi hv i1 i2 (fun f2 g2 su ot j1 j2 j3 => ?_)
    rw [nI_s1]
    have next : ∀ al2 g3, (g3 = false → ¬ okT s v) → (g3 = true → g2 = true ∧ al2 = nI (sN (fun b => vN v 0 b) s) ∧ sN (fun b => vN v a b) s = sN (fun b => vN v 0 b) s ∧ sN (fun c => vN v c a) s = sN (fun b => vN v 0 b) s) → ∀ x8 : Int32, x8 = nI (a + 1) → K2 (uA M 24 f2, al2, bI g3, x8) := by
      rintro al2 g3 hn hg _ rfl
      refine hK2 _ ⟨a + 1, f2, al2, g3, by omega, rfl, j1, hn, fun q => ?_⟩ ?_
      · obtain ⟨q1, q2, q3, q4⟩ := hg q
        obtain ⟨l1, l2, _, _⟩ := j3 q1
        obtain ⟨k1, k2, _⟩ := i3 l1
        refine ⟨fun x y hx hy => ?_, fun e he => ?_, fun _ => q2⟩
        · by_cases q5 : x = a
          · rw [q5]
            exact l2 y hy
          · exact k1 x y (by omega) hy
        · by_cases q5 : e = a
          · rw [q5]
            exact ⟨q3, q4⟩
          · exact k2 e (by omega)
      · show s - (nI (a + 1)).toNatClampNeg < s - (nI a).toNatClampNeg
        rw [nI_clamp (by omega), nI_clamp (by omega)]
        omega
    have bad : ∀ al2, (g2 = true → ¬ okT s v) → ∀ x8 : Int32, x8 = nI (a + 1) → K2 (uA M 24 f2, al2, 0, x8) := by
      intro al2 hn
      refine next al2 false (fun _ => ?_) (fun q => (nomatch q))
      cases g2 with
      | false => exact j2 rfl
      | true => exact hn rfl
    have sums : g2 = true → okT s v → su = nI (sN (fun b => vN v 0 b) s) ∧ ot = nI (sN (fun b => vN v 0 b) s) := by
      intro q ok
      obtain ⟨_, _, l3, l4⟩ := j3 q
      rw [l3, l4, (ok.2 a has).1, (ok.2 a has).2]
      exact ⟨rfl, rfl⟩
    have bR : g2 = true → sN (fun b => vN v a b) s < 2 ^ 31 ∧ sN (fun c => vN v c a) s < 2 ^ 31 := by
      intro q
      obtain ⟨_, l2, _, _⟩ := j3 q
      have q1 := sN_bd (f := fun b => vN v a b) (s := s) (fun y hy => (rng_vN (l2 y hy).1).2)
      have q2 := sN_bd (f := fun c => vN v c a) (s := s) (fun y hy => (rng_vN (v := v) (a := y) (b := a) (l2 y hy).2).2)
      omega
    refine ⟨fun q => ?_, fun q => ?_⟩
    · have a0 : a = 0 := (nI_eq (b := 0) (by omega) (by omega)).mp q
      refine ⟨fun q2 => bad su (fun q3 => absurd q3 (by rw [bI_0.mp q2]; decide)), fun q2 => ⟨fun _ => ⟨fun q3 => ?_, fun q3 => ?_⟩, fun q3 => absurd rfl q3⟩⟩
      · have hg := bI_n0 q2
        obtain ⟨_, _, l3, l4⟩ := j3 hg
        obtain ⟨r1, r2⟩ := bR hg
        refine next su true (fun q4 => (nomatch q4)) (fun _ => ⟨hg, ?_, ?_, ?_⟩)
        · rw [l3, a0]
        · rw [a0]
        · rw [l3, l4] at q3
          rw [(nI_eq r2 r1).mp q3, a0]
      · have hg := bI_n0 q2
        refine bad su (fun _ ok => q3 ?_)
        obtain ⟨s1, s2⟩ := sums hg ok
        rw [s1, s2]
    · have a0 : a ≠ 0 := fun q2 => q (by rw [q2]; rfl)
      refine ⟨fun q2 => bad al (fun q3 => absurd q3 (by rw [bI_0.mp q2]; decide)), fun q2 => ⟨fun q3 => ⟨fun q4 => ?_, fun q4 => ?_⟩, fun q3 => ?_⟩⟩
      · have hg := bI_n0 q2
        obtain ⟨l1, _, l3, l4⟩ := j3 hg
        obtain ⟨k1, k2, k3⟩ := i3 l1
        obtain ⟨r1, r2⟩ := bR hg
        have hal := k3 (by omega)
        have b0 : sN (fun b => vN v 0 b) s < 2 ^ 31 := by
          have := sN_bd (f := fun b => vN v 0 b) (s := s) (fun y hy => (rng_vN (k1 0 y (by omega) hy).1).2)
          omega
        rw [l3, hal] at q3
        rw [l4, hal] at q4
        exact next al true (fun q5 => (nomatch q5)) (fun _ => ⟨hg, hal, (nI_eq r1 b0).mp q3, (nI_eq r2 b0).mp q4⟩)
      · have hg := bI_n0 q2
        refine bad al (fun _ ok => q4 ?_)
        obtain ⟨s1, s2⟩ := sums hg ok
        rw [s2, ← s1]
        exact q3
      · have hg := bI_n0 q2
        refine bad al (fun _ ok => q3 ?_)
        obtain ⟨s1, s2⟩ := sums hg ok
        obtain ⟨l1, _, _, _⟩ := j3 hg
        rw [s1, (i3 l1).2.2 (by omega)]
end TB
