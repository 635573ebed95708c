/-! the model's parts, all of them -/
section MG
variable {s : Nat} {A : Nat → Nat → Nat}
/-- the search: from an order with none above 0 ahead of it to the first one above 0 -/
theorem m_seek {M : St} {r0 r1 : Nat → Nat} {x3 : Int32} {g0 : Nat → Int32} {b0 : Bool} (hs : s ≤ 6) (hs1 : 1 ≤ s) (hb : bnd s A) (hA : lft s A (sA M 24)) (hex : prm s r1 ∧ pos s A r1) (h0 : prm s r0) (h2 : ∀ q, prm s q → pos s A q → ¬ lxl s q r0) (hg0 : ∀ i, i < s → g0 i = nI (r0 i)) (hb0 : b0 = true ↔ ¬ pos s A r0) {Q : St → Prop} (h : ∀ r g, isL s A r → (∀ i, i < s → g i = nI (r i)) → Q (uA M 28 g)) : lX6_findParts_50 (nI s) x3 Q (uA M 28 g0) (bI b0) := by
  unfold lX6_findParts_50
  refine lp_of (I := fun q => ∃ r g b, q = (uA M 28 g, bI b) ∧ prm s r ∧ (∀ q, prm s q → pos s A q → ¬ lxl s q r) ∧ (∀ i, i < s → g i = nI (r i)) ∧ (b = true ↔ ¬ pos s A r)) (μ := fun q => 6 ^ s - cde (fun i => (sA q.1 28 i).toNatClampNeg) s) ?_ _ ⟨r0, g0, b0, rfl, h0, h2, hg0, hb0⟩
  rintro q ⟨r, g, b, rfl, i1, i2, i3, i4⟩ K hK
  show bX6_findParts_50 (nI s) x3 _ _ (uA M 28 g) (bI b)
  unfold bX6_findParts_50
  have hdec : ∀ (r : Nat → Nat) (g : Nat → Int32), prm s r → (∀ i, i < s → g i = nI (r i)) → cde (fun i => (g i).toNatClampNeg) s = cde r s := by
    intro r g hr hg
    refine cde_congr (fun i hi => ?_)
    show (g i).toNatClampNeg = r i
    rw [hg i hi, nI_clamp (by have := hr.1 i hi; omega)]
  refine ⟨fun q => ?_, fun q => ?_⟩
  · have hb1 := bI_0.mp q
    have hp : pos s A r := by
      rcases Classical.em (pos s A r) with g | g
      · exact g
      · rw [i4.mpr g] at hb1
        cases hb1
    exact h r g ⟨i1, hp, i2⟩ i3
  · have hp := i4.mp (bI_n0 q)
    refine m_next (M := uA M 28 g) hs hs1 i1 i3 (fun hlast => ?_) (fun k j g2 k1 k2 k3 k4 k5 k6 hg2 => ?_)
    · exfalso
      rcases lx_tri r r1 s with e | e | e
      · exact hp (fun i hi => by rw [e i hi]; exact hex.2 i hi)
      · exact nxt_last i1 hex.1 hlast e
      · exact i2 r1 hex.1 hex.2 e
    · refine ⟨fun q2 => absurd q2 (by decide), fun _ => ?_⟩
      have np := nxt_prm i1 k1 ⟨k2, k3⟩
      have nm : ∀ q, prm s q → pos s A q → ¬ lxl s q (nxt s r k j) := by
        intro q q1 q2
        rcases lx_tri r q s with e | e | e
        · exact absurd (fun i hi => by rw [e i hi]; exact q2 i hi) hp
        · exact nxt_min i1 q1 k1 ⟨k2, k3⟩ k4 k5 k6 e
        · exact absurd e (i2 q q1 q2)
      have less : ∀ b2, 6 ^ s - cde (fun i => (sA (uA (uA M 28 g) 28 g2, bI b2).1 28 i).toNatClampNeg) s < 6 ^ s - cde (fun i => (sA (uA M 28 g, bI b).1 28 i).toNatClampNeg) s := by
        intro b2
        show 6 ^ s - cde (fun i => (g2 i).toNatClampNeg) s < 6 ^ s - cde (fun i => (g i).toNatClampNeg) s
        rw [hdec _ _ np hg2, hdec _ _ i1 i3]
        have e1 := cde_lt (s := s) (r := r) (q := nxt s r k j) (fun i hi => by have := i1.1 i hi; omega) (nxt_lt k1 k5)
        have e2 := cde_b (r := nxt s r k j) (n := s) (fun i hi => by have := np.1 i hi; omega)
        omega
      refine m_least (M := uA (uA M 28 g) 28 g2) (r := nxt s r k j) hs hb hA np.1 hg2 ?_
      have mp := mn_pos (s := s) (b := 1000000) (A := A) (r := nxt s r k j) (by omega)
      have ml := (mnF_le (b := 1000000) (A := A) (r := nxt s r k j) (k := s)).1
      refine ⟨fun q3 => ?_, fun q3 => ?_⟩
      · have z : mnF 1000000 A (nxt s r k j) s = 0 := (nI_eq (b := 0) (by omega) (by omega)).mp q3
        refine hK _ ⟨nxt s r k j, g2, true, by rw [uA_uA]; rfl, np, nm, hg2, ⟨fun _ q4 => ?_, fun _ => rfl⟩⟩ (less true)
        have := mp.mpr q4
        omega
      · have z : 0 < mnF 1000000 A (nxt s r k j) s := Nat.pos_of_ne_zero (fun q4 => q3 (by rw [q4]; rfl))
        exact hK _ ⟨nxt s r k j, g2, false, by rw [uA_uA]; rfl, np, nm, hg2, ⟨fun q4 => (nomatch q4), fun q4 => absurd (mp.mp z) q4⟩⟩ (less false)
theorem m_idn {M : St} {x3 : Int32} (hs : s ≤ 6) {Q : St → Prop} (h : ∀ g, (∀ i, i < s → g i = nI i) → Q (uA M 28 g)) : lX6_findParts_14 (nI s) x3 Q M 0 := by
  unfold lX6_findParts_14
  refine lp_of (I := fun q => ∃ c g, c ≤ s ∧ q = (uA M 28 g, nI c) ∧ ∀ i, i < c → g i = nI i) (μ := fun q => s - q.2.toNatClampNeg) ?_ _ ⟨0, sA M 28, by omega, by rw [uA_self]; rfl, fun i hi => absurd hi (Nat.not_lt_zero _)⟩
  rintro q ⟨c, g, hc, rfl, hg⟩ K hK
  show bX6_findParts_14 (nI s) x3 _ _ (uA M 28 g) (nI c)
  unfold bX6_findParts_14
  by_cases e : c = s
  · subst e
    exact ⟨fun _ => h g hg, fun q => absurd (nI_le (Nat.le_refl _) (by omega)) q⟩
  · rw [nI_s1]
    refine ⟨fun q => absurd q (nI_ge (by omega) (by omega)), fun _ => ⟨vp_in_nI (by omega) (by omega), ?_⟩⟩
    rintro _ rfl _ rfl
    rw [nI_clamp (by omega), uA_uA]
    refine hK _ ⟨c + 1, upd g c (nI c), by omega, rfl, fun i hi => ?_⟩ ?_
    · by_cases q : i = c
      · rw [q]
        exact upd_same _ _ _
      · rw [upd_other _ _ q]
        exact hg i (by omega)
    · show s - (nI (c + 1)).toNatClampNeg < s - (nI c).toNatClampNeg
      rw [nI_clamp (by omega), nI_clamp (by omega)]
      omega
theorem m_take {M : St} {r : Nat → Nat} {x3 : Int32} {p n : Nat} (hs : s ≤ 6) (hp : p < 36) (hb : bnd s A) (hA : lft s A (sA M 24)) (hr : ∀ i, i < s → r i < s) (hn : ∀ i, i < s → n ≤ A i (r i)) (h28 : ∀ i, i < s → sA M 28 i = nI (r i)) (h25 : sF M 25 = nI p) {Q : St → Prop} (h : ∀ f26 f24, (∀ i, i < s → f26 (6 * p + i) = nI (r i)) → (∀ q, q < 6 * p → f26 q = sA M 26 q) → lft s (dcr A r n) f24 → Q (uA (uA M 26 f26) 24 f24)) : lX6_findParts_91 (nI s) x3 (nI n) Q M 0 := by
  unfold lX6_findParts_91
  refine lp_of (I := fun q => ∃ c f26 f24, c ≤ s ∧ q = (uA (uA M 26 f26) 24 f24, nI c) ∧ (∀ i, i < c → f26 (6 * p + i) = nI (r i)) ∧ (∀ q, q < 6 * p → f26 q = sA M 26 q) ∧ (∀ i j, i < c → j < s → f24 (6 * i + j) = nI (dcr A r n i j)) ∧ (∀ i j, c ≤ i → i < s → j < s → f24 (6 * i + j) = nI (A i j))) (μ := fun q => s - q.2.toNatClampNeg) ?_ _ ⟨0, sA M 26, sA M 24, by omega, by rw [uA_self, uA_self]; rfl, fun i hi => absurd hi (Nat.not_lt_zero _), fun _ _ => rfl, fun i j hi => absurd hi (Nat.not_lt_zero _), fun i j _ hi hj => hA i j hi hj⟩
  rintro q ⟨c, f26, f24, hc, rfl, a1, a2, a3, a4⟩ K hK
  show bX6_findParts_91 (nI s) x3 (nI n) _ _ (uA (uA M 26 f26) 24 f24) (nI c)
  unfold bX6_findParts_91
  by_cases e : c = s
  · subst e
    exact ⟨fun _ => h f26 f24 a1 a2 (fun i j hi hj => a3 i j hi hj), fun q => absurd (nI_le (Nat.le_refl _) (by omega)) q⟩
  · have hcs : c < s := by omega
    have rc := hr c hcs
    have nc := hn c hcs
    have e28 : ∀ f f', sA (uA (uA M 26 f) 24 f') 28 c = nI (r c) := fun f f' => h28 c hcs
    have e28' : ∀ f'', sA (uA (uA (uA M 26 f26) 24 f24) 26 f'') 28 c = nI (r c) := fun f'' => h28 c hcs
    have e24 : ∀ f'', sA (uA (uA (uA M 26 f26) 24 f24) 26 f'') 24 = f24 := fun f'' => rfl
    rw [show sF (uA (uA M 26 f26) 24 f24) 25 = nI p from h25, ix6, nI_clamp (show c < 2 ^ 31 by omega), nI_clamp (show 6 * p + c < 2 ^ 31 by omega), nI_s1]
    have vc : vp_in (nI c) 6 := vp_in_nI (by omega) (by omega)
    refine ⟨fun q => absurd q (nI_ge hcs (by omega)), fun _ => ⟨vc, vp_in_nI (by omega) (by omega), ?_⟩⟩
    rintro _ rfl
    rw [e28, e28', ix6, nI_clamp (show 6 * c + r c < 2 ^ 31 by omega), e24, a4 c (r c) (Nat.le_refl _) hcs rc, nI_sub nc]
    have vr : vp_in (nI (6 * c + r c)) 36 := vp_in_nI (by omega) (by omega)
    refine ⟨vc, vr, ?_⟩
    rintro _ rfl
    refine ⟨vr, ?_⟩
    rintro _ rfl _ rfl
    rw [uA_pp M (by omega)]
    refine hK _ ⟨c + 1, _, _, by omega, rfl, fun i hi => ?_, fun q hq => ?_, fun i j hi hj => ?_, fun i j hi1 hi2 hj => ?_⟩ ?_
    · show upd f26 (6 * p + c) (nI (r c)) (6 * p + i) = _
      by_cases q : i = c
      · rw [q]
        exact upd_same _ _ _
      · rw [upd_other _ _ (by omega)]
        exact a1 i (by omega)
    · show upd f26 (6 * p + c) (nI (r c)) q = _
      rw [upd_other _ _ (by omega)]
      exact a2 q hq
    · by_cases q : i = c
      · subst q
        unfold dcr
        by_cases q2 : j = r i
        · rw [q2, upd_same, if_pos rfl]
        · rw [upd_other _ _ (by omega), if_neg q2]
          exact a4 i j (Nat.le_refl _) hcs hj
      · rw [upd_other _ _ (by omega)]
        exact a3 i j (by omega) hj
    · rw [upd_other _ _ (by omega)]
      exact a4 i j (by omega) hi2 hj
    · show s - (nI (c + 1)).toNatClampNeg < s - (nI c).toNatClampNeg
      rw [nI_clamp (by omega), nI_clamp (by omega)]
      omega
theorem m_parts {M : St} {N : Nat} (hs : s ≤ 6) (hs1 : 1 ≤ s) (hN : N ≤ 6000) (hb : bnd s A) (hreg : reg s A N) (hA : lft s A (sA M 24)) {Q : St → Prop} (h : ∀ T M2, T ≤ 36 → (∀ p, p < T → isL s (sq s A p) (lst s (sq s A p)) ∧ (∀ i, i < s → sA M2 26 (6 * p + i) = nI (lst s (sq s A p) i)) ∧ sA M2 27 p = nI (mnF 1000 (sq s A p) (lst s (sq s A p)) s)) → reg s (sq s A T) 0 → sF M2 25 = nI T → (∀ a, a < 14 → sA M2 a = sA M a) → (∀ j, j < 13 → sF M2 j = sF M j) → Q M2) : pX6_findParts M (nI s) (nI N) Q := by
  unfold pX6_findParts
  rintro _ rfl
  unfold lX6_findParts_7
  refine lp_of (I := fun q => ∃ p n M2, pc s (sq s A p) + p ≤ 36 ∧ n ≤ 6000 ∧ q = (M2, nI n) ∧ reg s (sq s A p) n ∧ lft s (sq s A p) (sA M2 24) ∧ sF M2 25 = nI p ∧ (∀ p', p' < p → isL s (sq s A p') (lst s (sq s A p')) ∧ (∀ i, i < s → sA M2 26 (6 * p' + i) = nI (lst s (sq s A p') i)) ∧ sA M2 27 p' = nI (mnF 1000 (sq s A p') (lst s (sq s A p')) s)) ∧ (∀ a, a < 14 → sA M2 a = sA M a) ∧ (∀ j, j < 13 → sF M2 j = sF M j)) (μ := fun q => q.2.toNatClampNeg) ?_ _ ⟨0, N, uF M 25 0, by have := pc_le hs A; exact this, hN, rfl, hreg, hA, rfl, fun p' h' => absurd h' (Nat.not_lt_zero _), fun a _ => rfl, fun j hj => if_neg (by omega)⟩
  rintro q ⟨p, n, M2, hp, hn, rfl, i1, i2, i3, i4, i5, i6⟩ K hK
  show bX6_findParts_7 (nI s) _ _ M2 (nI n)
  unfold bX6_findParts_7
  refine ⟨fun q => ?_, fun q => ?_⟩
  · have n0 : n = 0 := by
      have : n ≤ 0 := (nI_leI (b := 0) (by omega) (by omega)).mp q
      omega
    rw [n0] at i1
    exact h p M2 (by omega) i4 i1 i3 i5 i6
  · have n0 : 0 < n := Nat.pos_of_ne_zero (fun q2 => q (by rw [q2]; exact Int32.le_refl _))
    obtain ⟨r1, hr1, hp1⟩ := regular n0 i1.1 i1.2
    have hbq := sq_b hb p
    have idp : prm s (fun i => i) := ⟨fun i hi => hi, fun i j _ _ e => e⟩
    refine m_idn hs (fun g hg => ?_)
    refine m_least (M := uA M2 28 g) (r := fun i => i) hs hbq i2 idp.1 hg ?_
    have fin : ∀ r g2, isL s (sq s A p) r → (∀ i, i < s → g2 i = nI (r i)) → pX6_leastBy (uA M2 28 g2) (nI s) (fun r83 => lX6_findParts_91 (nI s) (nI n) r83 (fun (s_148 : St) => (vp_in (sF s_148 25) 50) ∧ ∀ s158 : St, s158 = (uA s_148 27 (upd (sA s_148 27) (sF s_148 25).toNatClampNeg r83)) → ∀ s166 : St, s166 = (uF s158 25 ((sF s158 25) + 1)) → ∀ x3_173 : Int32, x3_173 = (nI n - r83) → K (s166, x3_173)) (uA M2 28 g2) 0) := by
      intro r g2 hL hg2
      obtain ⟨l1, l2⟩ := lst_is hL
      have hg3 : ∀ i, i < s → g2 i = nI (lst s (sq s A p) i) := fun i hi => by rw [hg2 i hi, l2 i hi]
      have hmb := mn_b (s := s) (A := sq s A p) (r := lst s (sq s A p)) hs1 hbq l1.1.1
      refine m_least (M := uA M2 28 g2) (r := lst s (sq s A p)) hs hbq i2 l1.1.1 hg3 ?_
      rw [hmb]
      have hle := (mnF_le (b := 1000) (A := sq s A p) (r := lst s (sq s A p)) (k := s)).2
      have hle0 := (mnF_le (b := 1000) (A := sq s A p) (r := lst s (sq s A p)) (k := s)).1
      have hpos := (mn_pos (s := s) (b := 1000) (A := sq s A p) (r := lst s (sq s A p)) (by omega)).mpr l1.2.1
      obtain ⟨i0, h1, h2⟩ := mn_at hs1 hbq l1.1.1
      obtain ⟨d1, d2⟩ := reg_dcr i1 l1.1 hle hs1
      have hpc := pc_dcr (A := sq s A p) (r := lst s (sq s A p)) h1 (l1.1.1 i0 h1) h2 hpos
      refine m_take (A := sq s A p) (M := uA M2 28 g2) (p := p) hs (by omega) hbq i2 l1.1.1 hle hg3 i3 (fun f26 f24 b1 b2 b3 => ?_)
      have e25 : sF (uA (uA (uA M2 28 g2) 26 f26) 24 f24) 25 = nI p := i3
      rw [e25]
      refine ⟨vp_in_nI (by omega) (by omega), ?_⟩
      rintro _ rfl _ rfl _ rfl
      rw [nI_sub d1, nI_clamp (show p < 2 ^ 31 by omega)]
      refine hK _ ⟨p + 1, n - mnF 1000 (sq s A p) (lst s (sq s A p)) s, _, ?_, by omega, rfl, d2, b3, ?_, fun p' h' => ?_, fun a ha => ?_, fun j hj => ?_⟩ ?_
      · show pc s (dcr (sq s A p) (lst s (sq s A p)) (mnF 1000 (sq s A p) (lst s (sq s A p)) s)) + (p + 1) ≤ 36
        omega
      · show sF (uA (uA (uA M2 28 g2) 26 f26) 24 f24) 25 + 1 = nI (p + 1)
        rw [e25, nI_s1]
      · by_cases q3 : p' = p
        · subst q3
          exact ⟨l1, b1, upd_same _ _ _⟩
        · obtain ⟨o1, o2, o3⟩ := i4 p' (by omega)
          refine ⟨o1, fun i hi => ?_, ?_⟩
          · show f26 (6 * p' + i) = _
            rw [b2 _ (by omega)]
            exact o2 i hi
          · show upd _ p _ p' = _
            rw [upd_other _ _ q3]
            exact o3
      · rw [← i5 a ha]
        show sA (uA (uA (uA (uA M2 28 g2) 26 f26) 24 f24) 27 _) a = sA M2 a
        rw [sA_uA, if_neg (by omega), sA_uA, if_neg (by omega), sA_uA, if_neg (by omega), sA_uA, if_neg (by omega)]
      · rw [← i6 j hj]
        show sF (uF (uA (uA (uA (uA M2 28 g2) 26 f26) 24 f24) 27 _) 25 _) j = sF M2 j
        rw [sF_uF, if_neg (by omega)]
        rfl
      · show (nI (n - mnF 1000 (sq s A p) (lst s (sq s A p)) s)).toNatClampNeg < (nI n).toNatClampNeg
        rw [nI_clamp (by omega), nI_clamp (by omega)]
        omega
    have mp := mn_pos (s := s) (b := 1000000) (A := sq s A p) (r := fun i => i) (by omega)
    have ml := (mnF_le (b := 1000000) (A := sq s A p) (r := fun i => i) (k := s)).1
    refine ⟨fun q3 => ?_, fun q3 => ?_⟩
    · have z : mnF 1000000 (sq s A p) (fun i => i) s = 0 := (nI_eq (b := 0) (by omega) (by omega)).mp q3
      exact m_seek (A := sq s A p) (b0 := true) hs hs1 hbq i2 ⟨hr1, hp1⟩ idp (fun q q1 _ => id_least q1) hg ⟨fun _ q4 => by have := mp.mpr q4; omega, fun _ => rfl⟩ (fun r g2 hL hg2 => fin r g2 hL hg2)
    · have z : 0 < mnF 1000000 (sq s A p) (fun i => i) s := Nat.pos_of_ne_zero (fun q4 => q3 (by rw [q4]; rfl))
      exact m_seek (A := sq s A p) (b0 := false) hs hs1 hbq i2 ⟨hr1, hp1⟩ idp (fun q q1 _ => id_least q1) hg ⟨fun q4 => (nomatch q4), fun q4 => absurd (mp.mp z) q4⟩ (fun r g2 hL hg2 => fin r g2 hL hg2)
end MG
