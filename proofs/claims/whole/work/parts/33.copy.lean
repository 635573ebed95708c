def cpy (it : Nat → Int32) (src dst n : Nat) : Nat → Int32 := fun q => if dst ≤ q ∧ q < dst + n then it (src + (q - dst)) else it q
theorem ix64' (i j k : Nat) : (((64 : Int32) * nI i) + nI j) + nI k = nI (64 * i + j + k) := by
  rw [ix64, nI_add]
theorem l_copy_up {a b i j n : Nat} (ha : a < 8) (hb : b < 8) (hi : i + n ≤ 64) (hj : j + n ≤ 64) (hd : 64 * b + j ≤ 64 * a + i ∨ 64 * a + i + n ≤ 64 * b + j) {K : St → Prop} {M : St} (hK : K (uA M 4 (cpy (sA M 4) (64 * a + i) (64 * b + j) n))) : lX6_copy_143 (nI a) (nI i) (nI b) (nI j) (nI n) 1 K M 0 := by
  refine lp_of (σ := St × Int32) (I := fun q => ∃ k, k ≤ n ∧ q = (uA M 4 (cpy (sA M 4) (64 * a + i) (64 * b + j) k), nI k)) (μ := fun q => n - q.2.toNatClampNeg) ?_ (M, 0) ⟨0, by omega, ?_⟩
  · rintro q ⟨k, hk, rfl⟩ K2 hK2
    show bX6_copy_143 (nI a) (nI i) (nI b) (nI j) (nI n) 1 K _ (uA M 4 _) (nI k)
    unfold bX6_copy_143
    refine ⟨fun h => ?_, fun h => ⟨fun q => absurd q (by decide), fun _ => ?_⟩⟩
    · have := (nI_le_iff (a := n) (b := k) (by omega) (by omega)).mp h
      have e : k = n := by omega
      subst e
      exact hK
    · have hlt : k < n := Nat.lt_of_not_le (fun q => h ((nI_le_iff (a := n) (b := k) (by omega) (by omega)).mpr q))
      rw [ix64', ix64']
      refine ⟨vp_in_nI (by omega) (by omega), vp_in_nI (by omega) (by omega), ?_⟩
      rintro _ rfl _ rfl
      refine hK2 _ ⟨k + 1, by omega, ?_⟩ ?_
      · rw [nI_clamp (by omega), nI_clamp (by omega), show nI k + 1 = nI (k + 1) from nI_add k 1, uA_uA]
        refine congrArg (fun f => (uA M 4 f, nI (k + 1))) (funext fun q => ?_)
        show upd (cpy (sA M 4) (64 * a + i) (64 * b + j) k) (64 * b + j + k) (cpy (sA M 4) (64 * a + i) (64 * b + j) k (64 * a + i + k)) q = _
        unfold upd
        by_cases e : q = 64 * b + j + k
        · rw [if_pos e]
          subst e
          unfold cpy
          rw [if_neg (by omega), if_pos (by omega)]
          congr 1
          omega
        · rw [if_neg e]
          unfold cpy
          by_cases h2 : 64 * b + j ≤ q ∧ q < 64 * b + j + k
          · rw [if_pos h2, if_pos (by omega)]
          · rw [if_neg h2, if_neg (by omega)]
      · show n - (nI k + 1).toNatClampNeg < n - (nI k).toNatClampNeg
        rw [show nI k + 1 = nI (k + 1) from nI_add k 1, nI_clamp (by omega), nI_clamp (by omega)]
        omega
  · have e : cpy (sA M 4) (64 * a + i) (64 * b + j) 0 = sA M 4 := funext fun q => by unfold cpy; rw [if_neg (by omega)]
    rw [e, uA_self]
    rfl
theorem l_copy_dn {a b i j n : Nat} (ha : a < 8) (hb : b < 8) (hi : i + n ≤ 64) (hj : j + n ≤ 64) (hd : 64 * a + i ≤ 64 * b + j ∨ 64 * b + j + n ≤ 64 * a + i) {K : St → Prop} {M : St} (hK : K (uA M 4 (cpy (sA M 4) (64 * a + i) (64 * b + j) n))) : lX6_copy_143 (nI a) (nI i) (nI b) (nI j) (nI n) 0 K M 0 := by
  refine lp_of (σ := St × Int32) (I := fun q => ∃ k, k ≤ n ∧ q = (uA M 4 (fun q => if 64 * b + j + (n - k) ≤ q ∧ q < 64 * b + j + n then sA M 4 (64 * a + i + (q - (64 * b + j))) else sA M 4 q), nI k)) (μ := fun q => n - q.2.toNatClampNeg) ?_ (M, 0) ⟨0, by omega, ?_⟩
  · rintro q ⟨k, hk, rfl⟩ K2 hK2
    show bX6_copy_143 (nI a) (nI i) (nI b) (nI j) (nI n) 0 K _ (uA M 4 _) (nI k)
    unfold bX6_copy_143
    refine ⟨fun h => ?_, fun h => ⟨fun _ => ?_, fun q => absurd rfl q⟩⟩
    · have := (nI_le_iff (a := n) (b := k) (by omega) (by omega)).mp h
      have e : k = n := by omega
      subst e
      have e2 : (fun q => if 64 * b + j + (k - k) ≤ q ∧ q < 64 * b + j + k then sA M 4 (64 * a + i + (q - (64 * b + j))) else sA M 4 q) = cpy (sA M 4) (64 * a + i) (64 * b + j) k := by
        funext q
        rw [Nat.sub_self, Nat.add_zero]
        rfl
      rw [e2]
      exact hK
    · have hlt : k < n := Nat.lt_of_not_le (fun q => h ((nI_le_iff (a := n) (b := k) (by omega) (by omega)).mpr q))
      have e8 : (nI n - 1) - nI k = nI (n - 1 - k) := by
        rw [show nI n - 1 = nI (n - 1) from nI_sub (b := 1) (by omega), nI_sub (by omega)]
      rintro _ rfl
      rw [e8, ix64', ix64']
      refine ⟨vp_in_nI (by omega) (by omega), vp_in_nI (by omega) (by omega), ?_⟩
      rintro _ rfl _ rfl
      refine hK2 _ ⟨k + 1, by omega, ?_⟩ ?_
      · rw [nI_clamp (by omega), nI_clamp (by omega), show nI k + 1 = nI (k + 1) from nI_add k 1, uA_uA]
        refine congrArg (fun f => (uA M 4 f, nI (k + 1))) (funext fun q => ?_)
        show upd (fun q => if 64 * b + j + (n - k) ≤ q ∧ q < 64 * b + j + n then sA M 4 (64 * a + i + (q - (64 * b + j))) else sA M 4 q) (64 * b + j + (n - 1 - k)) (if 64 * b + j + (n - k) ≤ 64 * a + i + (n - 1 - k) ∧ 64 * a + i + (n - 1 - k) < 64 * b + j + n then sA M 4 (64 * a + i + (64 * a + i + (n - 1 - k) - (64 * b + j))) else sA M 4 (64 * a + i + (n - 1 - k))) q = _
        unfold upd
        by_cases e : q = 64 * b + j + (n - 1 - k)
        · rw [if_pos e]
          subst e
          rw [if_neg (by omega), if_pos (by omega)]
          congr 1
          omega
        · rw [if_neg e]
          dsimp only
          by_cases h2 : 64 * b + j + (n - k) ≤ q ∧ q < 64 * b + j + n
          · rw [if_pos h2, if_pos (by omega)]
          · rw [if_neg h2, if_neg (by omega)]
      · show n - (nI k + 1).toNatClampNeg < n - (nI k).toNatClampNeg
        rw [show nI k + 1 = nI (k + 1) from nI_add k 1, nI_clamp (by omega), nI_clamp (by omega)]
        omega
  · have e : (fun q => if 64 * b + j + (n - 0) ≤ q ∧ q < 64 * b + j + n then sA M 4 (64 * a + i + (q - (64 * b + j))) else sA M 4 q) = sA M 4 := funext fun q => by rw [if_neg (by omega)]
    rw [e, uA_self]
    rfl
theorem add64 (x y : Int32) : (x.toInt64 + y.toInt64).toInt = x.toInt + y.toInt := by
  have h1 := x.toInt_lt
  have h2 := x.le_toInt
  have h3 := y.toInt_lt
  have h4 := y.le_toInt
  rw [Int64.toInt_add, Int32.toInt_toInt64, Int32.toInt_toInt64]
  apply Int.bmod_eq_of_le <;> omega
theorem RS_cpy {f : Nat → Option Ob} {la ma it : Nat → Int32} (h : RS f la ma it) {ia ib i j n : Nat} (hia : ia < 8) (hib : ib < 8) {oa ob_ : Nat} {aa la2 ab lb : Nat → Nat} {ta tb : St} (ha : f ia = some (oa, aa, la2, ta)) (hb : f ib = some (ob_, ab, lb, tb)) (hi : i + n ≤ la2 1) (hj : j + n ≤ lb 1) : RS (va_up f ib (some (ob_, ab, lb, uA tb 1 (va_cpy (sA ta 1) (sA tb 1) i j n)))) la ma (cpy it (64 * ia + i) (64 * ib + j) n) := by
  obtain ⟨k1, k2, k3, k4, k5⟩ := RS_some h hib hb
  obtain ⟨m1, m2, m3, m4, m5⟩ := RS_some h hia ha
  refine RS_up h (i := ib) ⟨k1, k2, k3, k4, fun k hk => ?_⟩ (fun j hj e => rfl) (fun j hj e => rfl) (fun j2 k hj2 e hk => ?_)
  · show va_cpy (sA ta 1) (sA tb 1) i j n k = cpy it (64 * ia + i) (64 * ib + j) n (64 * ib + k)
    have hk2 : k < lb 1 := hk
    unfold va_cpy cpy
    by_cases e : j ≤ k ∧ k < j + n
    · rw [if_pos e, if_pos (by omega), m5 _ (by omega)]
      congr 1
      omega
    · rw [if_neg e, if_neg (by omega)]
      exact k5 k hk
  · unfold cpy
    rw [if_neg (by omega)]
theorem st_2 : stepOK_2 Rel := by
  intro T M a1 a2 a3 a4 a5 h
  obtain ⟨hS, hN, hA, hF⟩ := h
  simp only [pX5_copy, pX6_copy, sh5_iff, sh6_iff, forall_eq, pX5_found, pX6_found, pX5_fine]
  by_cases h1 : 0 ≤ a1.toInt ∧ a1.toInt ≤ 7
  · obtain ⟨p, hp, rfl⟩ := nI_rg (n := 8) h1.1 (by omega) (by omega)
    by_cases h3 : 0 ≤ a3.toInt ∧ a3.toInt ≤ 7
    · obtain ⟨r, hr, rfl⟩ := nI_rg (n := 8) h3.1 (by omega) (by omega)
      simp only [if_pos h1, if_pos h3, one_ne, imp_F, not_F, imp_T, true_and, cl8 hp, in8 hp, cl8 hr, in8 hr, sA_uF]
      have n1 : (-1 : Int32) < 0 := by decide
      rcases lane_neg hS hp with ⟨e1, e2⟩ | ⟨o, a, l, t, e1, k1, k2, k3, k4, k5, k6⟩
      · rcases lane_neg hS hr with ⟨f1, f2⟩ | ⟨o', a', l', t', f1, m1, m2, m3, m4, m5, m6⟩
        · simp only [e1, e2, f1, f2, none_n, ob_n, imp_T, and_true, n1, not_T, imp_F, true_and]
          exact ⟨hS, hN, hA, rfl⟩
        · simp only [e1, e2, f1, none_n, some_n, ob_e, ob_n, imp_T, imp_F, and_true, n1, not_T, true_and]
          exact ⟨hS, hN, hA, rfl⟩
      · have hl : ¬ sA M 2 p < 0 := fun q => by have := lt_toInt.mp q; rw [l32_0] at this; omega
        rcases lane_neg hS hr with ⟨f1, f2⟩ | ⟨o', a', l', t', f1, m1, m2, m3, m4, m5, m6⟩
        · simp only [e1, f1, f2, none_n, some_n, ob_e, ob_n, imp_T, imp_F, and_true, hl, not_F, true_and, m1_ge]
          exact ⟨hS, hN, hA, rfl⟩
        · have hl2 : (0 : Int32) ≤ sA M 2 r := le_toInt'.mpr (by rw [l32_0]; exact m1)
          simp only [e1, f1, some_n, ob_e, imp_T, imp_F, and_true, hl, hl2, not_F, not_T, true_and, k3, m3, k4, m4, holds_iff k5, holds_iff m5]
          refine ⟨fun q => ?_, fun q => ⟨fun q2 => absurd q2 q, fun _ => ⟨hS, hN, hA, rfl⟩⟩⟩
          simp only [cmp_gt, lg_cmp_le]
          simp only [lt_toInt, Int64.lt_iff_toInt_lt, Int64.le_iff_toInt_le, add64, Int32.toInt_toInt64, l32_0, nI_toInt (show l 1 < 2 ^ 31 by omega), nI_toInt (show l' 1 < 2 ^ 31 by omega)]
          have bad : sF (tX (uX T (uF (tX T) 5 2))) 5 = sF (uF (uF (uF M 0 0) 1 0) 1 2) 1 := rfl
          by_cases g1 : 0 ≤ a2.toInt ∧ 0 ≤ a5.toInt ∧ a2.toInt + a5.toInt ≤ (l 1 : Int)
          · by_cases g2 : 0 ≤ a4.toInt ∧ 0 ≤ a5.toInt ∧ a4.toInt + a5.toInt ≤ (l' 1 : Int)
            · obtain ⟨i, hi, rfl⟩ := nI_rg (x := a2) (n := 65) g1.1 (by omega) (by omega)
              obtain ⟨j, hj, rfl⟩ := nI_rg (x := a4) (n := 65) g2.1 (by omega) (by omega)
              obtain ⟨n, hn, rfl⟩ := nI_rg (x := a5) (n := 65) g2.2.1 (by omega) (by omega)
              have ci : (nI i).toNatClampNeg = i := nI_clamp (by omega)
              have cj : (nI j).toNatClampNeg = j := nI_clamp (by omega)
              have cn : (nI n).toNatClampNeg = n := nI_clamp (by omega)
              have ti := nI_toInt (n := i) (by omega)
              have tj := nI_toInt (n := j) (by omega)
              have tn := nI_toInt (n := n) (by omega)
              rw [ti, tn] at g1
              rw [tj, tn] at g2
              simp only [ti, tj, tn, if_pos g1, if_pos g2, one_ne, imp_F, not_F, imp_T, true_and, ci, cj, cn]
              refine ⟨by omega, by omega, by omega, by omega, by omega, fun _ => ⟨fun q2 => by omega, fun _ => ⟨fun q2 => by omega, fun _ => ⟨fun q2 => by omega, fun _ => ⟨fun q2 => by omega, fun _ => ⟨fun _ => ⟨fun q2 => ?_, fun q2 => ?_⟩, fun q2 => by omega⟩⟩⟩⟩⟩, fun q2 => absurd q q2⟩
              · exact l_copy_dn hp hr (by omega) (by omega) (by omega) ⟨RS_cpy hS hp hr e1 f1 (by omega) (by omega), hN, hA, rfl⟩
              · exact l_copy_up hp hr (by omega) (by omega) (by omega) ⟨RS_cpy hS hp hr e1 f1 (by omega) (by omega), hN, hA, rfl⟩
            · simp only [if_pos g1, if_neg g2, one_ne, zero_eq, imp_F, not_F, not_T, imp_T, true_and, and_true]
              exact ⟨fun _ => ⟨fun q2 => by omega, fun _ => ⟨fun q2 => ⟨hS, hN, hA, rfl⟩, fun _ => ⟨fun q2 => by omega, fun _ => ⟨fun q2 => by omega, fun _ => ⟨fun q2 => by omega, fun _ => ⟨hS, hN, hA, rfl⟩⟩⟩⟩⟩⟩, fun q2 => absurd q q2⟩
          · simp only [if_neg g1, zero_eq, imp_F, not_T, imp_T, and_true, true_and]
            exact ⟨fun _ => ⟨fun q2 => ⟨hS, hN, hA, rfl⟩, fun _ => ⟨fun q2 => ⟨hS, hN, hA, rfl⟩, fun _ => ⟨fun q2 => ⟨hS, hN, hA, rfl⟩, fun _ => ⟨fun q2 => ⟨hS, hN, hA, rfl⟩, fun _ => ⟨fun q2 => by omega, fun _ => ⟨hS, hN, hA, rfl⟩⟩⟩⟩⟩⟩, fun q2 => absurd q q2⟩
    · simp only [if_pos h1, if_neg h3, one_ne, zero_eq, imp_F, not_F, not_T, imp_T, and_true, true_and]
      exact ⟨hS, hN, hA, hF⟩
  · simp only [if_neg h1, zero_eq, imp_F, not_T, imp_T, and_true, true_and]
    exact ⟨hS, hN, hA, hF⟩
