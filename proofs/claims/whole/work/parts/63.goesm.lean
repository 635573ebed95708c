theorem uA_pp (M : St) {a b : Nat} (hab : a ≠ b) (f g f' g' : Nat → Int32) : uA (uA (uA (uA M a f) b g) a f') b g' = uA (uA M a f') b g' := by
  unfold uA
  simp only [Prod.mk.injEq, true_and, and_true]
  funext j
  unfold va_up
  by_cases e : j = b
  · simp only [if_pos e]
  · by_cases e2 : j = a
    · simp only [if_neg e, if_pos e2]
    · simp only [if_neg e, if_neg e2]
theorem m_j169 {M : St} {L b l wv : Nat} (hL : L < 4) (hl : l < 2 ^ 31) (hwv : wv < 2) {f g : Nat → Int32} {x1 x5 x6 : Int32} {K : St → Int32 → Int32 → Int32 → Prop} (h : K (uA (uA M 22 (upd f L (nI b))) 23 (upd g L (nI (xr (l % 2) wv)))) (nI (l / 2)) (nI (2 * b + xr (l % 2) wv)) (nI (L + 1))) : jX6_goes_169 K (uA (uA M 22 f) 23 g) x1 x5 x6 (nI l) (nI b) (nI L) (nI wv) := by
  have vL : vp_in (nI L) 4 := vp_in_nI hL (by omega)
  have e2 : nI l / 2 = nI (l / 2) := nI_div2 hl
  have key : ∀ v s204, v = nI (xr (l % 2) wv) → s204 = uA (uA M 22 (upd f L (nI b))) 23 (upd g L v) → ∀ x8 : Int32, x8 = ((2 : Int32) * nI b) + sA s204 23 L → ∀ x7 : Int32, x7 = nI (l / 2) → ∀ x9 : Int32, x9 = nI (L + 1) → K s204 x7 x8 x9 := by
    rintro _ _ rfl rfl _ rfl _ rfl _ rfl
    rw [show sA (uA (uA M 22 (upd f L (nI b))) 23 (upd g L (nI (xr (l % 2) wv)))) 23 L = nI (xr (l % 2) wv) from upd_same _ _ _, show (2 : Int32) = nI 2 from rfl, nI_mul, nI_add]
    exact h
  unfold jX6_goes_169
  rw [nI_clamp (show L < 2 ^ 31 by omega), nI_rem2 hl, e2, nI_s1]
  refine ⟨vL, ?_⟩
  rintro _ rfl
  refine ⟨fun q => ⟨vL, ?_⟩, fun q => ⟨vL, ?_⟩⟩
  · rintro _ rfl
    refine ⟨vL, ?_⟩
    have hw0 : wv = 0 := (nI_eq (b := 0) (by omega) (by omega)).mp q
    refine key (nI (l % 2)) _ ?_ (uA_pp M (by omega) _ _ _ _)
    rw [hw0]
    unfold xr
    rw [Nat.add_zero, Nat.mod_mod]
  · rintro _ rfl
    refine ⟨vL, ?_⟩
    have hw1 : wv = 1 := by
      obtain rfl | rfl : wv = 0 ∨ wv = 1 := by omega
      · exact absurd rfl q
      · rfl
    refine key ((1 : Int32) - nI (l % 2)) _ ?_ (uA_pp M (by omega) _ _ _ _)
    rw [hw1]
    have : l % 2 < 2 := Nat.mod_lt _ (by omega)
    obtain q2 | q2 : l % 2 = 0 ∨ l % 2 = 1 := by omega
    · rw [q2]; decide
    · rw [q2]; decide
theorem m_goes {M : St} {w : Nat → Nat → Nat} {k x f0 : Nat} (hk : 1 ≤ k ∧ k ≤ 4) (hx : x < 2 ^ k) (hf0 : f0 + (2 * k - 1) * 2 ^ (k - 1) ≤ 512) (hwl : ∀ st j, w st j < 2) (hw : ∀ st j, st < 2 * k - 1 → j < 2 ^ (k - 1) → (sA M 4 (f0 + st * 2 ^ (k - 1) + j) = 0 ↔ w st j = 0)) {Q : Int32 → St → Prop} (h : ∀ f g, Q (nI (uu w k x (k - 1))) (uA (uA M 22 f) 23 g)) : lX6_goes_121 (nI k) (nI (2 ^ (k - 1))) (nI f0) (fun (s_231 : St) => (vp_in (nI (k - 1)) 4) ∧ lX6_goes_246 s_231 (nI k) (nI (2 ^ (k - 1))) (nI f0) (fun (z341_7 : Int32) => Q z341_7 s_231) (sA s_231 23 (nI (k - 1)).toNatClampNeg) (nI k - 2)) M (nI x) 0 0 := by
  have pw8 : 2 ^ (k - 1) ≤ 8 := Nat.pow_le_pow_right (by omega) (show k - 1 ≤ 3 by omega)
  unfold lX6_goes_121
  refine lp_of (I := fun q => ∃ L f g, L ≤ k ∧ q = (uA (uA M 22 f) 23 g, nI (dn w k x L).2, nI (dn w k x L).1, nI L) ∧ ∀ j, j < L → f j = nI (dn w k x j).1 ∧ g j = nI (dH w k x j)) (μ := fun q => k - q.2.2.2.toNatClampNeg) ?_ _ ⟨0, sA M 22, sA M 23, by omega, ?_, fun j hj => absurd hj (Nat.not_lt_zero _)⟩
  · rintro q ⟨L, f, g, hL, rfl, hfg⟩ K hK
    show bX6_goes_121 (nI k) (nI (2 ^ (k - 1))) (nI f0) _ _ (uA (uA M 22 f) 23 g) (nI (dn w k x L).2) (nI (dn w k x L).1) (nI L)
    unfold bX6_goes_121
    by_cases q : L = k
    · subst q
      refine ⟨fun _ => ⟨vp_in_nI (by omega) (by omega), ?_⟩, fun q => absurd (nI_le (Nat.le_refl _) (by omega)) q⟩
      have g0 : sA (uA (uA M 22 f) 23 g) 23 (nI (L - 1)).toNatClampNeg = nI (uu w L x 0) := by
        rw [nI_clamp (by omega)]
        exact (hfg (L - 1) (by omega)).2
      rw [g0, nk2 L hk.1]
      unfold lX6_goes_246
      refine lp_of (I := fun q => ∃ j, j ≤ L - 1 ∧ q = (nI (uu w L x j), nI (L - 1 - j) - 1)) (μ := fun q => (q.2 + 1).toNatClampNeg) ?_ _ ⟨0, by omega, rfl⟩
      rintro q ⟨j, hj, rfl⟩ K2 hK2
      show bX6_goes_246 (uA (uA M 22 f) 23 g) (nI L) (nI (2 ^ (L - 1))) (nI f0) _ _ (nI (uu w L x j)) (nI (L - 1 - j) - 1)
      unfold bX6_goes_246
      by_cases q : j = L - 1
      · subst q
        rw [show L - 1 - (L - 1) = 0 by omega]
        exact ⟨fun _ => h f g, fun q => absurd (by decide) q⟩
      · obtain ⟨d, hd⟩ : ∃ d, d = L - 2 - j := ⟨_, rfl⟩
        have ed : L - 1 - j = d + 1 := by omega
        have uix := uu_ix (w := w) hx (show j + 1 < L by omega)
        rw [← hd] at uix
        have u1 := uu_lt (w := w) (k := L) (x := x) j
        have pj := pw_le (show j + 1 ≤ 4 by omega)
        obtain ⟨d1', _⟩ := dn_lt (w := w) hx d (by omega)
        have pd := pw_le (show d + 1 ≤ 4 by omega)
        have pd0 := pw_le (show d ≤ 4 by omega)
        have pkd := pw_le (show L - 1 - d ≤ 4 by omega)
        have f22 : sA (uA (uA M 22 f) 23 g) 22 d = nI (dn w L x d).1 := (hfg d (by omega)).1
        have f23 : sA (uA (uA M 22 f) 23 g) 23 d = nI (dH w L x d) := (hfg d (by omega)).2
        have hix := idx_lt (r := 2 ^ (L - 1)) (m := 2 * L - 1) (x := 2 * L - 2 - d) (by omega) uix
        have hbig : (dn w L x d).1 * (2 * 2 ^ (L - 1 - d)) ≤ 16 * (2 * 16) := Nat.mul_le_mul (by omega) (by omega)
        have ei : ((nI f0 + (((((2 : Int32) * nI L) - 2) - nI d) * nI (2 ^ (L - 1)))) + ((nI (dn w L x d).1 * nI (2 ^ (L - d))) / 2)) + nI (uu w L x j) = nI (f0 + (2 * L - 2 - d) * 2 ^ (L - 1) + ((dn w L x d).1 * 2 ^ (L - 1 - d) + uu w L x j)) := by
          rw [tk2 L hk.1, nI_sub (show d ≤ 2 * L - 2 by omega), nI_mul, nI_add, hp_t (show d < L by omega), nI_mul, show (2 : Int32) = nI 2 from rfl, nI_div (by omega) (by omega), dbl_half, nI_add, nI_add]
          congr 1
          omega
        rw [ed, nI_pred, nI_sub (show d ≤ L by omega), shl1 (by omega), nm1, nI_clamp (show d < 2 ^ 31 by omega), f22, f23]
        refine ⟨fun q => absurd q (nI_nneg (by omega)), fun _ => ?_⟩
        rintro _ rfl
        refine ⟨vp_in_nI (by omega) (by omega), ?_⟩
        rintro _ rfl
        rw [ei, nI_clamp (by omega)]
        have e6 : L - 1 - (j + 1) = d := by omega
        have next : ∀ v, v = nI (uu w L x (j + 1)) → K2 (v, nI d - 1) := by
          rintro _ rfl
          refine hK2 _ ⟨j + 1, by omega, by rw [e6]⟩ ?_
          show ((nI d - 1) + 1).toNatClampNeg < ((nI (L - 1 - j) - 1) + 1).toNatClampNeg
          rw [Int32.sub_add_cancel, Int32.sub_add_cancel, nI_clamp (by omega), nI_clamp (by omega)]
          omega
        have eu : uu w L x (j + 1) = 2 * uu w L x j + xr (dH w L x d) (w (2 * L - 2 - d) ((dn w L x d).1 * 2 ^ (L - 1 - d) + uu w L x j)) := by
          show 2 * uu w L x j + xr (dH w L x (L - 2 - j)) (w (2 * L - 2 - (L - 2 - j)) ((dn w L x (L - 2 - j)).1 * 2 ^ (L - 1 - (L - 2 - j)) + uu w L x j)) = _
          rw [← hd]
        have hdH : dH w L x d < 2 := xr_lt _ _
        have hww := hw (2 * L - 2 - d) _ (by omega) uix
        refine ⟨vp_in_nI (by omega) (by omega), fun q => ⟨vp_in_nI (by omega) (by omega), ?_⟩, fun q => ⟨vp_in_nI (by omega) (by omega), ?_⟩⟩
        · rintro _ rfl _ rfl
          refine next _ ?_
          rw [eu, hww.mp q, show (2 : Int32) = nI 2 from rfl, nI_mul, nI_add]
          unfold xr
          rw [Nat.add_zero, Nat.mod_eq_of_lt hdH]
        · rintro _ rfl _ rfl
          refine next _ ?_
          have q2 : w (2 * L - 2 - d) ((dn w L x d).1 * 2 ^ (L - 1 - d) + uu w L x j) = 1 := by
            have := hwl (2 * L - 2 - d) ((dn w L x d).1 * 2 ^ (L - 1 - d) + uu w L x j)
            have : ¬ w (2 * L - 2 - d) ((dn w L x d).1 * 2 ^ (L - 1 - d) + uu w L x j) = 0 := fun q3 => q (hww.mpr q3)
            omega
          rw [eu, q2, show (1 : Int32) = nI 1 from rfl, nI_sub (show dH w L x d ≤ 1 by omega), show (2 : Int32) = nI 2 from rfl, nI_mul, nI_add]
          unfold xr
          congr 2
          omega
    · have hLk : L < k := by omega
      obtain ⟨d1, d2⟩ := dn_lt (w := w) hx L (by omega)
      have dix := dn_ix (w := w) hx hLk
      have p1 := pw_le (show L ≤ 4 by omega)
      have p2 := pw_le (show k - L ≤ 4 by omega)
      have p3 := pw_le (show k - 1 - L ≤ 4 by omega)
      have hix := idx_lt (r := 2 ^ (k - 1)) (m := 2 * k - 1) (x := L) (by omega) dix
      have hbig : (dn w k x L).1 * (2 * 2 ^ (k - 1 - L)) ≤ 16 * (2 * 16) := Nat.mul_le_mul (by omega) (by omega)
      have ei : ((nI f0 + (nI L * nI (2 ^ (k - 1)))) + ((nI (dn w k x L).1 * nI (2 ^ (k - L))) / 2)) + (nI (dn w k x L).2 / 2) = nI (f0 + L * 2 ^ (k - 1) + ((dn w k x L).1 * 2 ^ (k - 1 - L) + (dn w k x L).2 / 2)) := by
        rw [nI_mul, nI_add, hp_t hLk, nI_mul, show (2 : Int32) = nI 2 from rfl, nI_div (by omega) (by omega), dbl_half, nI_div (by omega) (by omega), nI_add, nI_add]
        congr 1
        omega
      rw [nI_sub (show L ≤ k by omega), shl1 (by omega)]
      refine ⟨fun q => absurd q (nI_ge (by omega) (by omega)), fun _ => ?_⟩
      rintro _ rfl
      rw [ei, nI_clamp (by omega)]
      refine ⟨vp_in_nI (by omega) (by omega), ?_⟩
      rintro _ rfl
      have hww := hw L _ (by omega) dix
      have next : K (uA (uA M 22 (upd f L (nI (dn w k x L).1))) 23 (upd g L (nI (xr ((dn w k x L).2 % 2) (w L ((dn w k x L).1 * 2 ^ (k - 1 - L) + (dn w k x L).2 / 2))))), nI ((dn w k x L).2 / 2), nI (2 * (dn w k x L).1 + xr ((dn w k x L).2 % 2) (w L ((dn w k x L).1 * 2 ^ (k - 1 - L) + (dn w k x L).2 / 2))), nI (L + 1)) := by
        refine hK _ ⟨L + 1, _, _, by omega, rfl, fun j hj => ?_⟩ ?_
        · by_cases q : j = L
          · rw [q, upd_same, upd_same]
            exact ⟨rfl, rfl⟩
          · rw [upd_other _ _ q, upd_other _ _ q]
            exact hfg j (by omega)
        · show k - (nI (L + 1)).toNatClampNeg < k - (nI L).toNatClampNeg
          rw [nI_clamp (by omega), nI_clamp (by omega)]
          omega
      refine ⟨fun q => ?_, fun q => ?_⟩
      · have q2 := hww.mp q
        have := m_j169 (M := M) (L := L) (b := (dn w k x L).1) (l := (dn w k x L).2) (wv := 0) (f := f) (g := g) (x1 := nI k) (x5 := nI (2 ^ (k - 1))) (x6 := nI f0) (K := fun s x7 x8 x9 => K (s, x7, x8, x9)) (by omega) (by omega) (by omega) (by rw [q2] at next; exact next)
        exact this
      · have q2 : w L ((dn w k x L).1 * 2 ^ (k - 1 - L) + (dn w k x L).2 / 2) = 1 := by
          have := hwl L ((dn w k x L).1 * 2 ^ (k - 1 - L) + (dn w k x L).2 / 2)
          have : ¬ w L ((dn w k x L).1 * 2 ^ (k - 1 - L) + (dn w k x L).2 / 2) = 0 := fun q3 => q (hww.mpr q3)
          omega
        have := m_j169 (M := M) (L := L) (b := (dn w k x L).1) (l := (dn w k x L).2) (wv := 1) (f := f) (g := g) (x1 := nI k) (x5 := nI (2 ^ (k - 1))) (x6 := nI f0) (K := fun s x7 x8 x9 => K (s, x7, x8, x9)) (by omega) (by omega) (by omega) (by rw [q2] at next; exact next)
        exact this
  · rw [uA_self, uA_self]
    rfl
def smG (M M2 : St) : Prop := (∀ j, j < 14 → sA M2 j = sA M j) ∧ ∀ j, j < 13 → sF M2 j = sF M j
theorem RS_same {f : Nat → Option Ob} {la ma it : Nat → Int32} (h : RS f la ma it) {p : Nat} {z : Ob} (hf : f p = some z) : RS (va_up f p (some z)) la ma it := by
  rw [← hf, va_upself]
  exact h
theorem Rel_up {T T2 : TS} {M M0 M2 : St} (h : Rel T M) (h0 : ∀ j, sA M0 j = sA M j) (h1 : sF M0 12 = sF M 12) (hs : smG M0 M2) (hS : RS (tS T2) (sA M 2) (sA M 3) (sA M 4)) (hN : tN T2 = tN T) (hA : tA T2 = tA T) (hF : sF (tX T2) 5 = sF M0 1) : Rel T2 M2 := by
  obtain ⟨r1, r2, r3, r4⟩ := h
  have e : ∀ j, j < 14 → sA M2 j = sA M j := fun j hj => (hs.1 j hj).trans (h0 j)
  unfold Rel
  rw [e 2 (by omega), e 3 (by omega), e 4 (by omega), e 5 (by omega), e 6 (by omega), e 7 (by omega), e 8 (by omega), e 9 (by omega), e 10 (by omega), e 11 (by omega), hs.2 12 (by omega), hs.2 1 (by omega), h1, hN, hA]
  exact ⟨hS, r2, r3, hF⟩
theorem l32_4 : (4 : Int32).toInt = 4 := by decide
theorem l64_4 : (4 : Int64).toInt = 4 := by decide
theorem shl2 : ∀ {k : Nat}, 1 ≤ k ∧ k ≤ 4 → nI (2 * k - 1) <<< (nI (k - 1) &&& 31) = nI ((2 * k - 1) * 2 ^ (k - 1))
  | 0, h => absurd h.1 (by omega)
  | 1, _ => by decide
  | 2, _ => by decide
  | 3, _ => by decide
  | 4, _ => by decide
  | n + 5, h => absurd h.2 (by omega)
theorem st_18 : stepOK_18 Rel := by
  intro T M a1 a2 a3 a4 hR
  have h := hR
  obtain ⟨hS, hN, hA, hF⟩ := h
  simp only [pX5_goes, pX6_goes, sh5_iff, sh6_iff, within_iff, in_iff, forall_eq, Int32.toInt_toInt64, l64_0, l64_1, l64_4, l32_0, l32_1, l32_4, pX5_found, pX6_found, pX5_fine]
  by_cases h1 : 0 ≤ a2.toInt ∧ a2.toInt ≤ 7
  · obtain ⟨p, hp, rfl⟩ := nI_rg (n := 8) h1.1 (by omega) (by omega)
    by_cases h2 : 1 ≤ a1.toInt ∧ a1.toInt ≤ 4
    · obtain ⟨k, hk5, rfl⟩ := nI_rg (n := 5) (x := a1) (by omega) (by omega) (by omega)
      have tk := nI_toInt (n := k) (by omega)
      have hk : 1 ≤ k ∧ k ≤ 4 := by omega
      have pk := pw_le hk.2
      have pw8 : 2 ^ (k - 1) ≤ 8 := Nat.pow_le_pow_right (by omega) (show k - 1 ≤ 3 by omega)
      have hB : (2 * k - 1) * 2 ^ (k - 1) ≤ 7 * 8 := Nat.mul_le_mul (by omega) pw8
      have s4 := shl2 hk
      have tp := tI_pred (n := 2 ^ k) (by omega)
      simp only [if_pos h1, if_pos h2, one_ne, imp_F, not_F, imp_T, true_and, cl8 hp, in8 hp, sA_uF, shl1 hk.2, tp, nk1 k hk.1, shl1 (n := k - 1) (by omega), tk1 k hk.1, s4, nI_mul (2 * k - 1)]
      by_cases h3 : 0 ≤ a4.toInt ∧ a4.toInt ≤ ((2 ^ k : Nat) : Int) - 1
      · obtain ⟨x, hx, rfl⟩ := nI_rg (n := 2 ^ k) h3.1 (by omega) (by omega)
        rcases lane_neg hS hp with ⟨e1, e2⟩ | ⟨o, a, l, t, e1, k1, k2, k3, k4, k5, k6⟩
        · simp only [if_pos h3, e1, e2, none_n, ob_n, imp_T, and_true, m1_ge, imp_F, not_F, true_and, one_ne]
          exact ⟨hS, hN, hA, rfl⟩
        · have hl : (0 : Int32) ≤ sA M 2 p := le_toInt'.mpr (by rw [l32_0]; exact k1)
          have tB := nI_toInt (n := (2 * k - 1) * 2 ^ (k - 1)) (by omega)
          simp only [if_pos h3, one_ne, e1, some_n, ob_e, imp_F, not_F, imp_T, true_and, hl, not_T, and_true, holds_iff k5, k4, lg_cmp_le]
          simp only [lt_toInt, Int64.le_iff_toInt_le, add64, Int32.toInt_toInt64, l32_0, nI_toInt (show l 1 < 2 ^ 31 by omega), tB]
          by_cases g1 : 0 ≤ a3.toInt ∧ 0 ≤ (((2 * k - 1) * 2 ^ (k - 1) : Nat) : Int) ∧ a3.toInt + (((2 * k - 1) * 2 ^ (k - 1) : Nat) : Int) ≤ (l 1 : Int)
          · obtain ⟨i, hi, rfl⟩ := nI_rg (x := a3) (n := 65) g1.1 (by omega) (by omega)
            have ti := nI_toInt (n := i) (by omega)
            have hil : i + (2 * k - 1) * 2 ^ (k - 1) ≤ l 1 := by
              have := g1.2.2
              rw [ti] at this
              omega
            simp only [if_pos g1, one_ne, imp_F, not_F, imp_T, true_and, ix64]
            refine c_bits hk hil k5 (fun R' hR' => ?_)
            refine c_follow (R := R') hk hx (fun st j => ?_) hR' ?_
            · unfold wS
              split <;> omega
            · refine ⟨fun q => by omega, fun _ => ⟨fun _ => ?_, fun q => absurd g1.2.2 q⟩⟩
              refine m_goes (f0 := 64 * p + i) (w := wS t i (2 ^ (k - 1))) hk hx (by omega) (fun st j => ?_) (fun st j hst hj => ?_) (fun f g => ⟨rfl, ?_⟩)
              · unfold wS
                split <;> omega
              · have hix := idx_lt (r := 2 ^ (k - 1)) (m := 2 * k - 1) hst hj
                have := k6 (i + st * 2 ^ (k - 1) + j) (by omega)
                show sA M 4 (64 * p + i + st * 2 ^ (k - 1) + j) = 0 ↔ _
                rw [show 64 * p + i + st * 2 ^ (k - 1) + j = 64 * p + (i + st * 2 ^ (k - 1) + j) by omega, ← this]
                unfold wS
                by_cases q : sA t 1 (i + st * 2 ^ (k - 1) + j) = 0
                · rw [if_pos q]
                  exact ⟨fun _ => rfl, fun _ => q⟩
                · rw [if_neg q]
                  exact ⟨fun q2 => absurd q2 q, fun q2 => absurd q2 (by omega)⟩
              · refine Rel_up hR (M0 := uF (uF M 0 0) 1 0) (fun j => rfl) rfl ⟨fun j hj => ?_, fun j hj => rfl⟩ (RS_same hS e1) rfl rfl rfl
                rw [sA_uA, if_neg (by omega), sA_uA, if_neg (by omega)]
          · simp only [if_neg g1, zero_eq, imp_F, not_T, imp_T, and_true, true_and]
            exact ⟨fun q2 => ⟨hS, hN, hA, rfl⟩, fun _ => ⟨fun q2 => by omega, fun _ => ⟨hS, hN, hA, rfl⟩⟩⟩
      · simp only [if_neg h3, zero_eq, imp_F, not_T, imp_T, and_true, true_and]
        exact ⟨hS, hN, hA, hF⟩
    · simp only [if_pos h1, if_neg h2, one_ne, zero_eq, imp_F, not_F, not_T, imp_T, and_true, true_and]
      exact ⟨hS, hN, hA, hF⟩
  · simp only [if_neg h1, zero_eq, imp_F, not_T, imp_T, and_true, true_and]
    exact ⟨hS, hN, hA, hF⟩
