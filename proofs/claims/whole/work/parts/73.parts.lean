/-! the model finds parts -/
def reg (s : Nat) (A : Nat → Nat → Nat) (N : Nat) : Prop := (∀ i, i < s → sN (fun j => A i j) s = N) ∧ ∀ j, j < s → sN (fun i => A i j) s = N
theorem sN_dec {f : Nat → Nat} {n r : Nat} (hn : n ≤ f r) : ∀ {s : Nat}, r < s → sN (fun j => if j = r then f j - n else f j) s + n = sN f s
  | 0, h => absurd h (Nat.not_lt_zero _)
  | s + 1, h => by
    rw [sN_s, sN_s]
    by_cases e : r = s
    · subst e
      rw [if_pos rfl, sN_congr (g := f) (fun i hi => by rw [if_neg (by omega)])]
      omega
    · have ih := sN_dec (f := f) (n := n) (r := r) hn (s := s) (by omega)
      rw [if_neg (fun q => e q.symm)]
      omega
theorem reg_dcr {s N n : Nat} {A : Nat → Nat → Nat} {r : Nat → Nat} (h : reg s A N) (hr : prm s r) (hn : ∀ i, i < s → n ≤ A i (r i)) (hs : 0 < s) : n ≤ N ∧ reg s (dcr A r n) (N - n) := by
  have hrow : ∀ i, i < s → sN (fun j => dcr A r n i j) s + n = N := by
    intro i hi
    rw [← h.1 i hi]
    exact sN_dec (f := fun j => A i j) (r := r i) (hn i hi) (hr.1 i hi)
  have hcol : ∀ j, j < s → sN (fun i => dcr A r n i j) s + n = N := by
    intro j hj
    obtain ⟨i0, h1, h2⟩ := prm_sur hr hj
    rw [← h.2 j hj, ← sN_dec (f := fun i => A i j) (n := n) (r := i0) (by rw [← h2]; exact hn i0 h1) h1]
    congr 1
    refine sN_congr (fun i hi => ?_)
    show (if j = r i then A i j - n else A i j) = if i = i0 then A i j - n else A i j
    by_cases e : i = i0
    · rw [if_pos e, if_pos (by rw [e, h2])]
    · rw [if_neg e, if_neg (fun q => e (hr.2 i i0 hi h1 (by rw [← q, h2])))]
  refine ⟨?_, fun i hi => ?_, fun j hj => ?_⟩
  · have := hrow 0 hs
    omega
  · have := hrow i hi
    omega
  · have := hcol j hj
    omega
def pc (s : Nat) (A : Nat → Nat → Nat) : Nat := sN (fun i => cnt (fun j => decide (0 < A i j)) s) s
theorem sN_lt {f g : Nat → Nat} {i : Nat} : ∀ {k : Nat}, (∀ i, i < k → f i ≤ g i) → i < k → f i < g i → sN f k < sN g k
  | 0, _, h, _ => absurd h (Nat.not_lt_zero _)
  | k + 1, h, hi, hl => by
    rw [sN_s, sN_s]
    have h1 := h k (by omega)
    by_cases e : i = k
    · subst e
      have := sN_le (f := f) (g := g) (k := i) (fun c hc => h c (by omega))
      omega
    · have := sN_lt (f := f) (g := g) (i := i) (k := k) (fun c hc => h c (by omega)) (by omega) hl
      omega
theorem pc_le {s : Nat} (hs : s ≤ 6) (A : Nat → Nat → Nat) : pc s A ≤ 36 := by
  have h1 : pc s A ≤ sN (fun _ => 6) s := sN_le (fun i hi => Nat.le_trans (cnt_le _ _) hs)
  have h2 : ∀ k, sN (fun _ => 6) k = 6 * k := by
    intro k
    induction k with
    | zero => rfl
    | succ k ih => rw [sN_s, ih]; omega
  rw [h2] at h1
  omega
theorem pc_dcr {s n i0 : Nat} {A : Nat → Nat → Nat} {r : Nat → Nat} (h0 : i0 < s) (hr : r i0 < s) (hn : n = A i0 (r i0)) (hp : 0 < n) : pc s (dcr A r n) < pc s A := by
  have mono : ∀ i j, decide (0 < dcr A r n i j) = true → decide (0 < A i j) = true := fun i j h => decide_eq_true (Nat.lt_of_lt_of_le (of_decide_eq_true h) (dcr_le A r n i j))
  refine sN_lt (i := i0) (fun i hi => cnt_imp (fun j hj h => mono i j h)) h0 ?_
  have e := cnt_dis (f := fun j => decide (0 < dcr A r n i0 j)) (g := fun j => decide (j = r i0)) (h := fun j => decide (0 < A i0 j)) (k := s) (fun j hj => ⟨fun h => ⟨mono i0 j h, decide_eq_false (fun q => by
    have := of_decide_eq_true h
    unfold dcr at this
    rw [if_pos q, q] at this
    omega)⟩, fun h => by
      rw [of_decide_eq_true h]
      exact decide_eq_true (by omega)⟩)
  have e2 := cnt_in (f := fun j => decide (j = r i0)) (k := s) hr (decide_eq_true rfl)
  show cnt (fun j => decide (0 < dcr A r n i0 j)) s < cnt (fun j => decide (0 < A i0 j)) s
  omega
theorem mn_b {s : Nat} {A : Nat → Nat → Nat} {r : Nat → Nat} (hs : 0 < s) (hb : bnd s A) (hr : ∀ i, i < s → r i < s) : mnF 1000000 A r s = mnF 1000 A r s := by
  have key : ∀ k, min 1000 (mnF 1000000 A r k) = mnF 1000 A r k := by
    intro k
    induction k with
    | zero => rfl
    | succ k ih =>
      show min 1000 (min (A k (r k)) (mnF 1000000 A r k)) = min (A k (r k)) (mnF 1000 A r k)
      rw [← ih]
      omega
  have h1 := (mnF_le (b := 1000000) (A := A) (r := r) (k := s)).2 0 hs
  have h2 := hb 0 (r 0) hs (hr 0 hs)
  have h3 := key s
  omega
theorem mn_pos {s b : Nat} {A : Nat → Nat → Nat} {r : Nat → Nat} (hb : 0 < b) : 0 < mnF b A r s ↔ pos s A r := by
  constructor
  · intro h i hi
    have := (mnF_le (b := b) (A := A) (r := r) (k := s)).2 i hi
    omega
  · intro h
    rcases mnF_at (b := b) (A := A) (r := r) (k := s) with q | ⟨i, h1, h2⟩
    · omega
    · have := h i h1
      omega
theorem mn_at {s : Nat} {A : Nat → Nat → Nat} {r : Nat → Nat} (hs : 0 < s) (hb : bnd s A) (hr : ∀ i, i < s → r i < s) : ∃ i, i < s ∧ mnF 1000 A r s = A i (r i) := by
  rcases mnF_at (b := 1000) (A := A) (r := r) (k := s) with q | q
  · have h1 := (mnF_le (b := 1000) (A := A) (r := r) (k := s)).2 0 hs
    have h2 := hb 0 (r 0) hs (hr 0 hs)
    exact ⟨0, hs, by omega⟩
  · exact q
theorem cde_congr {r q : Nat → Nat} : ∀ {n : Nat}, (∀ i, i < n → r i = q i) → cde r n = cde q n
  | 0, _ => rfl
  | n + 1, h => by
    show cde r n * 6 + r n = cde q n * 6 + q n
    rw [cde_congr (n := n) (fun i hi => h i (by omega)), h n (by omega)]
section MF
variable {s : Nat} {A : Nat → Nat → Nat}
def lft (s : Nat) (A : Nat → Nat → Nat) (f : Nat → Int32) : Prop := ∀ i j, i < s → j < s → f (6 * i + j) = nI (A i j)
theorem ix6 (i j : Nat) : ((6 : Int32) * nI i) + nI j = nI (6 * i + j) := by
  rw [show (6 : Int32) = nI 6 from rfl, nI_mul, nI_add]
theorem m_least {M : St} {r : Nat → Nat} (hs : s ≤ 6) (hb : bnd s A) (hA : lft s A (sA M 24)) (hr : ∀ i, i < s → r i < s) (h28 : ∀ i, i < s → sA M 28 i = nI (r i)) {Q : Int32 → Prop} (h : Q (nI (mnF 1000000 A r s))) : pX6_leastBy M (nI s) Q := by
  have hm : ∀ k, mnF 1000000 A r k ≤ 1000000 := fun k => mnF_le.1
  unfold pX6_leastBy lX6_leastBy_5
  refine lp_cnt (α := Int32) s (by omega) (fun k => nI (mnF 1000000 A r k)) (fun k K hk hK => ?_) (fun K => ?_)
  · show bX6_leastBy_5 M (nI s) _ _ (nI (mnF 1000000 A r k)) (nI k)
    have hK' : K (nI (min (A k (r k)) (mnF 1000000 A r k)), nI (k + 1)) := hK
    unfold bX6_leastBy_5
    have rk := hr k hk
    have hbk := hb k (r k) hk rk
    have hmk := hm k
    rw [nI_clamp (show k < 2 ^ 31 by omega), h28 k hk, ix6, nI_clamp (show 6 * k + r k < 2 ^ 31 by omega), hA k (r k) hk rk, nI_s1]
    have vk : vp_in (nI k) 6 := vp_in_nI (by omega) (by omega)
    have vr : vp_in (nI (6 * k + r k)) 36 := vp_in_nI (by omega) (by omega)
    refine ⟨fun q => absurd q (nI_ge hk (by omega)), fun _ => ⟨vk, vr, fun q => ?_, fun q => ⟨vk, vr, ?_⟩⟩⟩
    · have q2 := (nI_leI (by omega) (by omega)).mp q
      rintro _ rfl
      rw [Nat.min_eq_right q2] at hK'
      exact hK'
    · have q2 : ¬ mnF 1000000 A r k ≤ A k (r k) := fun q3 => q ((nI_leI (by omega) (by omega)).mpr q3)
      rintro _ rfl _ rfl
      rw [Nat.min_eq_left (by omega)] at hK'
      exact hK'
  · show bX6_leastBy_5 M (nI s) _ _ (nI (mnF 1000000 A r s)) (nI s)
    unfold bX6_leastBy_5
    exact ⟨fun _ => h, fun q => absurd (nI_le (Nat.le_refl _) (by omega)) q⟩
theorem m_rev {M : St} {k : Nat} (hs : s ≤ 6) (hk : k + 1 < s) {f : Nat → Int32} {Q : St → Prop} (h : ∀ g, (∀ i, i < s → g i = if k < i then f (s + k - i) else f i) → Q (uA M 28 g)) : lX6_next_100 Q (uA M 28 f) (nI (k + 1)) (nI (s - 1)) := by
  unfold lX6_next_100
  refine lp_of (I := fun q => ∃ c g, k + 1 + c ≤ s ∧ c ≤ s - 1 ∧ q = (uA M 28 g, nI (k + 1 + c), nI (s - 1 - c)) ∧ ∀ i, i < s → g i = if (k < i ∧ i < k + 1 + c) ∨ s - 1 - c < i then f (s + k - i) else f i) (μ := fun q => s - q.2.1.toNatClampNeg) ?_ _ ⟨0, f, by omega, by omega, rfl, fun i hi => by rw [if_neg (by omega)]⟩
  rintro q ⟨c, g, hc, hc2, rfl, hg⟩ K hK
  show bX6_next_100 Q _ (uA M 28 g) (nI (k + 1 + c)) (nI (s - 1 - c))
  unfold bX6_next_100
  have gg : sA (uA M 28 g) 28 = g := rfl
  by_cases e : s - 1 - c ≤ k + 1 + c
  · refine ⟨fun _ => h g (fun i hi => ?_), fun q => absurd (nI_le e (by omega)) q⟩
    rw [hg i hi]
    by_cases q : k < i
    · rw [if_pos q]
      by_cases q2 : (k < i ∧ i < k + 1 + c) ∨ s - 1 - c < i
      · rw [if_pos q2]
      · rw [if_neg q2, show s + k - i = i by omega]
    · rw [if_neg q, if_neg (by omega)]
  · rw [gg, nI_clamp (show k + 1 + c < 2 ^ 31 by omega), nI_clamp (show s - 1 - c < 2 ^ 31 by omega), nI_s1, nm1, nk1 (s - 1 - c) (by omega)]
    have va : vp_in (nI (k + 1 + c)) 6 := vp_in_nI (by omega) (by omega)
    have vb : vp_in (nI (s - 1 - c)) 6 := vp_in_nI (by omega) (by omega)
    refine ⟨fun q => absurd q (nI_ge (by omega) (by omega)), fun _ => ⟨va, ?_⟩⟩
    rintro _ rfl
    refine ⟨vb, va, ?_⟩
    rintro _ rfl
    refine ⟨vb, ?_⟩
    rintro _ rfl _ rfl _ rfl
    refine hK _ ⟨c + 1, upd (upd g (k + 1 + c) (g (s - 1 - c))) (s - 1 - c) (g (k + 1 + c)), by omega, by omega, ?_, fun i hi => ?_⟩ ?_
    · show (uA (uA (uA M 28 g) 28 (upd g (k + 1 + c) (g (s - 1 - c)))) 28 (upd (upd g (k + 1 + c) (g (s - 1 - c))) (s - 1 - c) (g (k + 1 + c))), nI (k + 1 + c + 1), nI (s - 1 - c - 1)) = _
      rw [uA_uA, uA_uA, show k + 1 + (c + 1) = k + 1 + c + 1 by omega, show s - 1 - (c + 1) = s - 1 - c - 1 by omega]
    · have ga := hg (k + 1 + c) (by omega)
      have gb := hg (s - 1 - c) (by omega)
      rw [if_neg (by omega)] at ga gb
      by_cases q1 : i = s - 1 - c
      · rw [q1, upd_same, ga, if_pos (by omega)]
        congr 1
        omega
      · rw [upd_other _ _ q1]
        by_cases q2 : i = k + 1 + c
        · rw [q2, upd_same, gb, if_pos (by omega)]
          congr 1
          omega
        · rw [upd_other _ _ q2, hg i hi]
          by_cases q3 : (k < i ∧ i < k + 1 + c) ∨ s - 1 - c < i
          · rw [if_pos q3, if_pos (by omega)]
          · rw [if_neg q3, if_neg (by omega)]
    · show s - (nI (k + 1 + c + 1)).toNatClampNeg < s - (nI (k + 1 + c)).toNatClampNeg
      rw [nI_clamp (by omega), nI_clamp (by omega)]
      omega
theorem m_next {M : St} {r : Nat → Nat} (hs : s ≤ 6) (hs1 : 1 ≤ s) (hr : prm s r) (h28 : ∀ i, i < s → sA M 28 i = nI (r i)) {Q : Int32 → St → Prop} (h0 : (∀ i, i + 1 < s → r (i + 1) < r i) → Q 0 M) (h1 : ∀ k j g, k + 1 < s → k < j → j < s → (∀ i, k < i → i + 1 < s → r (i + 1) < r i) → r k < r j → (∀ i, j < i → i < s → r i < r k) → (∀ i, i < s → g i = nI (nxt s r k j i)) → Q 1 (uA M 28 g)) : pX6_next M (nI s) Q := by
  have rl : ∀ i, i < s → r i < 2 ^ 31 := fun i hi => by have := hr.1 i hi; omega
  unfold pX6_next
  rw [nk2 s hs1, nk1 s hs1]
  rintro _ rfl
  unfold lX6_next_4
  refine lp_of (I := fun q => ∃ c, c ≤ s - 1 ∧ q = nI c - 1 ∧ ∀ i, c ≤ i → i + 1 < s → r (i + 1) < r i) (μ := fun q => (q + 1).toNatClampNeg) ?_ _ ⟨s - 1, Nat.le_refl _, rfl, fun i h1 h2 => by omega⟩
  rintro q ⟨c, hc, rfl, hd⟩ K hK
  show bX6_next_4 M (nI s) _ _ (nI c - 1)
  unfold bX6_next_4
  cases c with
  | zero => exact ⟨fun _ => ⟨fun q => absurd q (by decide), fun _ => h0 (fun i hi => hd i (Nat.zero_le _) hi)⟩, fun q => absurd (by decide) q⟩
  | succ k =>
    rw [nI_pred, nI_s1, nI_clamp (show k < 2 ^ 31 by omega), nI_clamp (show k + 1 < 2 ^ 31 by omega), h28 k (by omega), h28 (k + 1) (by omega), nm1]
    have vk : vp_in (nI k) 6 := vp_in_nI (by omega) (by omega)
    refine ⟨fun q => absurd q (nI_nneg (by omega)), fun _ => ⟨vk, vp_in_nI (by omega) (by omega), fun q => ?_, fun q => ?_⟩⟩
    · have q2 := (nI_leI (rl k (by omega)) (rl (k + 1) (by omega))).mp q
      have q3 : r k < r (k + 1) := by
        rcases Nat.lt_or_ge (r k) (r (k + 1)) with g | g
        · exact g
        · have := hr.2 k (k + 1) (by omega) (by omega) (by omega)
          omega
      refine ⟨fun _ => ?_, fun q4 => absurd (nI_pos' (by omega)) q4⟩
      rintro _ rfl
      unfold lX6_next_41
      refine lp_of (I := fun q => ∃ j, k < j ∧ j < s ∧ q = nI j ∧ ∀ i, j < i → i < s → r i < r k) (μ := fun q => q.toNatClampNeg) ?_ _ ⟨s - 1, by omega, by omega, rfl, fun i h1 h2 => by omega⟩
      rintro q ⟨j, hj1, hj2, rfl, hj3⟩ K2 hK2
      show bX6_next_41 M (nI s) (nI k) _ _ (nI j)
      unfold bX6_next_41
      have vj : vp_in (nI j) 6 := vp_in_nI (by omega) (by omega)
      rw [nI_clamp (show j < 2 ^ 31 by omega), nI_clamp (show k < 2 ^ 31 by omega), h28 k (by omega), h28 j hj2, nm1, nk1 j (by omega)]
      refine ⟨vj, vk, fun q => ⟨vk, ?_⟩, fun q => ?_⟩
      · have q4 := (nI_leI (rl k (by omega)) (rl j hj2)).mp q
        have q5 : r k < r j := by
          rcases Nat.lt_or_ge (r k) (r j) with g | g
          · exact g
          · have := hr.2 k j (by omega) hj2 (by omega)
            omega
        rw [nI_clamp (show j < 2 ^ 31 by omega), h28 j hj2, nI_s1]
        rintro _ rfl
        refine ⟨vj, vk, ?_⟩
        rintro _ rfl
        refine ⟨vj, ?_⟩
        rintro _ rfl _ rfl _ rfl
        show lX6_next_100 _ (uA (uA M 28 (upd (sA M 28) k (nI (r j)))) 28 (upd (upd (sA M 28) k (nI (r j))) j (nI (r k)))) (nI (k + 1)) (nI (s - 1))
        rw [uA_uA]
        refine m_rev hs (by omega) (fun g hg => h1 k j g (by omega) hj1 hj2 (fun i g1 g2 => hd i g1 g2) q5 hj3 (fun i hi => ?_))
        rw [hg i hi]
        unfold nxt pi
        by_cases g1 : k < i
        · rw [if_pos g1, if_neg (show ¬ i < k by omega), if_neg (show ¬ i = k by omega)]
          by_cases g2 : s + k - i = j
          · rw [if_pos g2, g2, upd_same]
          · rw [if_neg g2, upd_other _ _ g2, upd_other _ _ (by omega)]
            exact h28 _ (by omega)
        · rw [if_neg g1, upd_other _ _ (by omega)]
          by_cases g2 : i = k
          · rw [g2, upd_same, if_neg (by omega), if_pos rfl]
          · rw [upd_other _ _ g2, if_pos (by omega)]
            exact h28 i hi
      · have q4 : ¬ r k ≤ r j := fun q5 => q ((nI_leI (rl k (by omega)) (rl j hj2)).mpr q5)
        rintro _ rfl
        have jk : j ≠ k + 1 := fun q5 => by rw [q5] at q4; omega
        refine hK2 _ ⟨j - 1, by omega, by omega, rfl, fun i g1 g2 => ?_⟩ ?_
        · by_cases g3 : i = j
          · rw [g3]
            omega
          · exact hj3 i (by omega) g2
        · show (nI (j - 1)).toNatClampNeg < (nI j).toNatClampNeg
          rw [nI_clamp (by omega), nI_clamp (by omega)]
          omega
    · have q2 : ¬ r k ≤ r (k + 1) := fun q3 => q ((nI_leI (rl k (by omega)) (rl (k + 1) (by omega))).mpr q3)
      rintro _ rfl
      refine hK _ ⟨k, by omega, rfl, fun i g1 g2 => ?_⟩ ?_
      · by_cases g3 : i = k
        · rw [g3]
          omega
        · exact hd i (by omega) g2
      · show ((nI k - 1) + 1).toNatClampNeg < ((nI (k + 1) - 1) + 1).toNatClampNeg
        rw [Int32.sub_add_cancel, Int32.sub_add_cancel, nI_clamp (by omega), nI_clamp (by omega)]
        omega
end MF
