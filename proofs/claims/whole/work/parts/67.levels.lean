/-! the orders of the halves, level by level; all bits -/
def Od (k : Nat) (o : Nat → Nat) : Nat → Nat → Nat
  | 0, t => o t
  | L + 1, t => nx (2 ^ (k - 1 - L)) (fun i => Od k o L (t / (2 * 2 ^ (k - 1 - L)) * (2 * 2 ^ (k - 1 - L)) + i)) (t % (2 * 2 ^ (k - 1 - L)))
def oB (k : Nat) (o : Nat → Nat) (L b : Nat) : Nat → Nat := fun i => Od k o L (b * (2 * 2 ^ (k - 1 - L)) + i)
def Bt (k : Nat) (o : Nat → Nat) (st j : Nat) : Nat :=
  if st + 1 < k then hf (2 * 2 ^ (k - 1 - st)) (oB k o st (j / 2 ^ (k - 1 - st))) (2 * (j % 2 ^ (k - 1 - st)))
  else if st + 1 = k then Od k o (k - 1) (2 * j)
  else hf (2 * 2 ^ (k - 1 - (2 * k - 2 - st))) (oB k o (2 * k - 2 - st) (j / 2 ^ (k - 1 - (2 * k - 2 - st)))) (iv (2 * 2 ^ (k - 1 - (2 * k - 2 - st))) (oB k o (2 * k - 2 - st) (j / 2 ^ (k - 1 - (2 * k - 2 - st)))) (2 * (j % 2 ^ (k - 1 - (2 * k - 2 - st)))))
theorem bm_div {b m j : Nat} (h : j < m) : (b * m + j) / m = b := by
  rw [Nat.mul_comm, Nat.mul_add_div (by omega), Nat.div_eq_of_lt h, Nat.add_zero]
theorem bm_mod {b m j : Nat} (h : j < m) : (b * m + j) % m = j := by
  rw [Nat.mul_comm, Nat.mul_add_mod, Nat.mod_eq_of_lt h]
section LV
variable {k : Nat} {o : Nat → Nat}
theorem Od_s {L b p : Nat} (hp : p < 2 * 2 ^ (k - 1 - L)) : Od k o (L + 1) (b * (2 * 2 ^ (k - 1 - L)) + p) = nx (2 ^ (k - 1 - L)) (oB k o L b) p := by
  show nx (2 ^ (k - 1 - L)) (fun i => Od k o L ((b * (2 * 2 ^ (k - 1 - L)) + p) / (2 * 2 ^ (k - 1 - L)) * (2 * 2 ^ (k - 1 - L)) + i)) ((b * (2 * 2 ^ (k - 1 - L)) + p) % (2 * 2 ^ (k - 1 - L))) = _
  rw [bm_div hp, bm_mod hp]
  rfl
theorem Bt_a {L b j : Nat} (h : L + 1 < k) (hj : j < 2 ^ (k - 1 - L)) : Bt k o L (b * 2 ^ (k - 1 - L) + j) = hf (2 * 2 ^ (k - 1 - L)) (oB k o L b) (2 * j) := by
  unfold Bt
  rw [if_pos h, bm_div hj, bm_mod hj]
theorem Bt_c {L b j : Nat} (h : L + 1 < k) (hj : j < 2 ^ (k - 1 - L)) : Bt k o (2 * k - 2 - L) (b * 2 ^ (k - 1 - L) + j) = hf (2 * 2 ^ (k - 1 - L)) (oB k o L b) (iv (2 * 2 ^ (k - 1 - L)) (oB k o L b) (2 * j)) := by
  unfold Bt
  rw [if_neg (by omega), if_neg (by omega), show 2 * k - 2 - (2 * k - 2 - L) = L by omega, bm_div hj, bm_mod hj]
theorem Bt_b {j : Nat} (h : 1 ≤ k) : Bt k o (k - 1) j = Od k o (k - 1) (2 * j) := by
  unfold Bt
  rw [if_neg (by omega), if_pos (by omega)]
theorem prm_congr {n : Nat} {o1 o2 : Nat → Nat} (h : ∀ i, i < n → o2 i = o1 i) (hp : prm n o1) : prm n o2 :=
  ⟨fun i hi => by rw [h i hi]; exact hp.1 i hi, fun i j hi hj e => by rw [h i hi, h j hj] at e; exact hp.2 i j hi hj e⟩
theorem oB_prm (hk : 1 ≤ k) (ho : prm (2 ^ k) o) : ∀ L, L < k → ∀ b, b < 2 ^ L → prm (2 * 2 ^ (k - 1 - L)) (oB k o L b)
  | 0, h, b, hb => by
    have hb0 : b = 0 := by
      have : b < 1 := hb
      omega
    have e : 2 * 2 ^ (k - 1 - 0) = 2 ^ k := by
      rw [← hp_t (show 0 < k by omega), Nat.sub_zero]
    rw [e]
    refine prm_congr (fun i hi => ?_) ho
    show o (b * _ + i) = o i
    rw [hb0, Nat.zero_mul, Nat.zero_add]
  | L + 1, h, b, hb => by
    have hb2 : b / 2 < 2 ^ L := by
      rw [Nat.pow_succ] at hb
      omega
    have ih := oB_prm hk ho L (by omega) (b / 2) hb2
    rw [← hp_s h]
    refine prm_congr (fun i hi => ?_) (nx_prm ih (show b % 2 < 2 from Nat.mod_lt _ (by omega)))
    show Od k o (L + 1) (b * (2 * 2 ^ (k - 1 - (L + 1))) + i) = nx (2 ^ (k - 1 - L)) (oB k o L (b / 2)) (b % 2 * 2 ^ (k - 1 - L) + i)
    have hlt := idx_lt (r := 2 ^ (k - 1 - L)) (m := 2) (x := b % 2) (f := i) (Nat.mod_lt _ (by omega)) hi
    rw [← hp_s h, ← Od_s hlt]
    congr 1
    have e : b / 2 * (2 * 2 ^ (k - 1 - L)) = (b / 2 * 2) * 2 ^ (k - 1 - L) := by rw [Nat.mul_assoc]
    rw [e, ← Nat.add_assoc, ← Nat.add_mul, show b / 2 * 2 + b % 2 = b by omega]
end LV
section CL
variable {k : Nat} {o : Nat → Nat}
theorem c_lvl {R : St} {d : Nat} (hk : 1 ≤ k ∧ k ≤ 4) (hd : d + 1 < k) (ho : prm (2 ^ k) o) (hR : ∀ t, t < 2 ^ k → sA R (20 + d) t = nI (Od k o d t)) {Q : St → Prop} (h : ∀ R2, (∀ t, t < 2 ^ k → sA R2 (20 + (d + 1)) t = nI (Od k o (d + 1) t)) → (∀ j, j < 2 ^ (k - 1) → sA R2 (10 + d) j = nI (Bt k o d j) ∧ sA R2 (10 + (2 * k - 2 - d)) j = nI (Bt k o (2 * k - 2 - d) j)) → (∀ st, st ≤ 6 → st ≠ d → st ≠ 2 * k - 2 - d → sA R2 (10 + st) = sA R (10 + st)) → Q R2) : lX3_setAllSwitches_21 (nI k) (nI (2 ^ k)) (nI d) (nI (2 * 2 ^ (k - 1 - d))) Q R 0 := by
  have pk := pw_le hk.2
  have p8 : 2 ^ (k - 1) ≤ 8 := Nat.pow_le_pow_right (by omega) (show k - 1 ≤ 3 by omega)
  have ekk : 2 ^ k = 2 * 2 ^ (k - 1) := by
    have := hp_t (k := k) (L := 0) (by omega)
    rw [Nat.sub_zero, Nat.sub_zero] at this
    exact this
  have ec := hp_c (show d < k by omega)
  have pm := pw_le (show k - 1 - d ≤ 4 by omega)
  have hprm := oB_prm hk.1 ho d (by omega)
  have hOd := fun b p hp => Od_s (k := k) (o := o) (L := d) (b := b) (p := p) hp
  have hBa := fun b j hj => Bt_a (k := k) (o := o) (L := d) (b := b) (j := j) hd hj
  have hBc := fun b j hj => Bt_c (k := k) (o := o) (L := d) (b := b) (j := j) hd hj
  have hoB : ∀ b i, oB k o d b i = Od k o d (b * (2 * 2 ^ (k - 1 - d)) + i) := fun b i => rfl
  rw [ekk] at hR h ⊢
  generalize 2 ^ (k - 1 - d) = m at *
  generalize 2 ^ d = D at *
  generalize 2 ^ (k - 1) = E at *
  have hbE : ∀ b, b < D → b * m + m ≤ E := by
    intro b hb
    rw [← ec, ← Nat.succ_mul]
    exact Nat.mul_le_mul_right m hb
  unfold lX3_setAllSwitches_21
  refine lp_of (I := fun q => ∃ b R2, b ≤ D ∧ q = (R2, nI (2 * (b * m))) ∧ (∀ t, t < 2 * (b * m) → sA R2 (20 + (d + 1)) t = nI (Od k o (d + 1) t)) ∧ (∀ j, j < b * m → sA R2 (10 + d) j = nI (Bt k o d j) ∧ sA R2 (10 + (2 * k - 2 - d)) j = nI (Bt k o (2 * k - 2 - d) j)) ∧ (∀ a, a ≠ 2 → a ≠ 3 → a ≠ 20 + (d + 1) → a ≠ 10 + d → a ≠ 10 + (2 * k - 2 - d) → sA R2 a = sA R a)) (μ := fun q => 2 * E - q.2.toNatClampNeg) ?_ _ ⟨0, R, by omega, by rw [Nat.zero_mul]; rfl, fun t ht => absurd ht (by rw [Nat.zero_mul]; exact Nat.not_lt_zero _), fun t ht => absurd ht (by rw [Nat.zero_mul]; exact Nat.not_lt_zero _), fun _ _ _ _ _ _ => rfl⟩
  rintro q ⟨b, R2, hb, rfl, i1, i2, i3⟩ K hK
  show bX3_setAllSwitches_21 (nI k) (nI (2 * E)) (nI d) (nI (2 * m)) _ _ R2 (nI (2 * (b * m)))
  unfold bX3_setAllSwitches_21
  by_cases e : b = D
  · subst e
    rw [ec] at i1 i2
    refine ⟨fun _ => h R2 i1 i2 (fun st h1 h2 h3 => i3 _ (by omega) (by omega) (by omega) (by omega) (by omega)), fun q => absurd (nI_le (by rw [ec]; exact Nat.le_refl _) (by omega)) q⟩
  · have hbD : b < D := by omega
    have hE := hbE b hbD
    have hop := hprm b hbD
    have es : (b + 1) * m = b * m + m := Nat.succ_mul b m
    have e2 : b * (2 * m) = 2 * (b * m) := by
      rw [Nat.mul_left_comm]
    refine ⟨fun q => absurd q (nI_ge (by omega) (by omega)), fun _ => ?_⟩
    rw [tk2 k hk.1]
    refine c_round (o := oB k o d b) (by omega) (by omega) hop (fun i hi => ?_) (fun f g hf1 hg1 => ?_)
    · rw [i3 (20 + d) (by omega) (by omega) (by omega) (by omega) (by omega), hR _ (by omega), hoB, e2]
    · refine c_outer (R := uA (uA R2 2 f) 3 g) (o := oB k o d b) (last := 2 * k - 2) (B := b * m) (by omega) (by omega) (by omega) hop hf1 hg1 (fun R3 j1 j2 => ?_)
      have r20 : ∀ i, sA R3 (20 + d) i = sA R2 (20 + d) i := by
        intro i
        rw [j2 _ _ (by omega), sA_uA, if_neg (by omega), sA_uA, if_neg (by omega)]
      refine c_hand (o := oB k o d b) (by omega) (by omega) hop (fun i hi => ?_) (fun i hi => ?_) (fun R4 l1 l2 => ?_)
      · rw [r20, i3 (20 + d) (by omega) (by omega) (by omega) (by omega) (by omega), hR _ (by omega), hoB, e2]
      · rw [j2 _ _ (by omega)]
        exact hg1 i hi
      · have fr : ∀ a, a ≠ 2 → a ≠ 3 → ∀ i, ¬ (a = 20 + (d + 1) ∧ 2 * (b * m) ≤ i ∧ i < 2 * (b * m) + 2 * m) → ¬ ((a = 10 + d ∨ a = 10 + (2 * k - 2 - d)) ∧ b * m ≤ i ∧ i < b * m + m) → sA R4 a i = sA R2 a i := by
          intro a h2 h3 i h4 h5
          rw [l2 a i h4, j2 a i h5, sA_uA, if_neg h3, sA_uA, if_neg h2]
        rw [nI_add]
        rintro _ rfl
        refine hK _ ⟨b + 1, R4, by omega, ?_, fun t ht => ?_, fun j hj => ?_, fun a h2 h3 h4 h5 h6 => ?_⟩ ?_
        · rw [es, Nat.mul_add]
        · by_cases q : t < 2 * (b * m)
          · rw [fr _ (by omega) (by omega) _ (by omega) (by omega)]
            exact i1 t q
          · obtain ⟨p, rfl⟩ : ∃ p, t = 2 * (b * m) + p := ⟨t - 2 * (b * m), by omega⟩
            have hp : p < 2 * m := by omega
            rw [l1 p hp, ← hOd b p hp, e2]
        · by_cases q : j < b * m
          · rw [fr _ (by omega) (by omega) _ (by omega) (by omega), fr _ (by omega) (by omega) _ (by omega) (by omega)]
            exact i2 j q
          · obtain ⟨p, rfl⟩ : ∃ p, j = b * m + p := ⟨j - b * m, by omega⟩
            have hp : p < m := by omega
            rw [l2 _ _ (by omega), l2 _ _ (by omega), (j1 p hp).1, (j1 p hp).2, hBa b p hp, hBc b p hp]
            exact ⟨rfl, rfl⟩
        · rw [← i3 a h2 h3 h4 h5 h6]
          funext i
          exact fr a h2 h3 i (fun q => h4 q.1) (fun q => by rcases q.1 with q | q; exact h5 q; exact h6 q)
        · show 2 * E - (nI (2 * (b * m) + 2 * m)).toNatClampNeg < 2 * E - (nI (2 * (b * m))).toNatClampNeg
          rw [nI_clamp (by omega), nI_clamp (by omega)]
          omega
theorem c_all {R : St} (hk : 1 ≤ k ∧ k ≤ 4) (ho : prm (2 ^ k) o) (hR : ∀ t, t < 2 ^ k → sA R 20 t = nI (o t)) {Q : St → Prop} (h : ∀ R2, (∀ st j, st < 2 * k - 1 → j < 2 ^ (k - 1) → sA R2 (10 + st) j = nI (Bt k o st j)) → Q R2) : pX3_setAllSwitches R (nI k) Q := by
  have pk := pw_le hk.2
  have p8 : 2 ^ (k - 1) ≤ 8 := Nat.pow_le_pow_right (by omega) (show k - 1 ≤ 3 by omega)
  have ekk : 2 ^ k = 2 * 2 ^ (k - 1) := by
    have := hp_t (k := k) (L := 0) (by omega)
    rw [Nat.sub_zero, Nat.sub_zero] at this
    exact this
  unfold pX3_setAllSwitches
  rw [shl1 hk.2]
  rintro _ rfl
  unfold lX3_setAllSwitches_6
  refine lp_of (I := fun q => ∃ d R2, d ≤ k - 1 ∧ q = (R2, nI d) ∧ (∀ t, t < 2 ^ k → sA R2 (20 + d) t = nI (Od k o d t)) ∧ (∀ st, st < d → ∀ j, j < 2 ^ (k - 1) → sA R2 (10 + st) j = nI (Bt k o st j) ∧ sA R2 (10 + (2 * k - 2 - st)) j = nI (Bt k o (2 * k - 2 - st) j))) (μ := fun q => k - 1 - q.2.toNatClampNeg) ?_ _ ⟨0, R, by omega, rfl, hR, fun st hs => absurd hs (Nat.not_lt_zero _)⟩
  rintro q ⟨d, R2, hd, rfl, i1, i2⟩ K hK
  show bX3_setAllSwitches_6 (nI k) (nI (2 ^ k)) _ _ R2 (nI d)
  unfold bX3_setAllSwitches_6
  rw [nk1 k hk.1, nI_s1]
  by_cases e : d = k - 1
  · subst e
    refine ⟨fun _ => ?_, fun q => absurd (nI_le (Nat.le_refl _) (by omega)) q⟩
    unfold lX3_setAllSwitches_77
    refine lp_of (I := fun q => ∃ j R3, j ≤ 2 ^ (k - 1) ∧ q = (R3, nI j) ∧ (∀ c, c < j → sA R3 (10 + (k - 1)) c = nI (Od k o (k - 1) (2 * c))) ∧ (∀ a, a ≠ 10 + (k - 1) → sA R3 a = sA R2 a)) (μ := fun q => 2 ^ (k - 1) - q.2.toNatClampNeg) ?_ _ ⟨0, R2, by omega, rfl, fun c hc => absurd hc (Nat.not_lt_zero _), fun _ _ => rfl⟩
    rintro q ⟨j, R3, hj, rfl, l1, l2⟩ K2 hK2
    show bX3_setAllSwitches_77 (nI k) (nI (2 ^ k)) _ _ R3 (nI j)
    unfold bX3_setAllSwitches_77
    have e2 : nI (2 ^ k) / 2 = nI (2 ^ (k - 1)) := by
      rw [nI_div2 (by omega), ekk, show 2 * 2 ^ (k - 1) / 2 = 2 ^ (k - 1) by omega]
    have e2j : (2 : Int32) * nI j = nI (2 * j) := nI_mul 2 j
    rw [e2, e2j, nk1 k hk.1, nI_s1]
    by_cases e : j = 2 ^ (k - 1)
    · subst e
      refine ⟨fun _ => h R3 (fun st c hst hc => ?_), fun q => absurd (nI_le (Nat.le_refl _) (by omega)) q⟩
      by_cases q : st = k - 1
      · rw [q, l1 c hc, Bt_b hk.1]
      · rw [l2 _ (by omega)]
        by_cases q2 : st < k - 1
        · exact (i2 st q2 c hc).1
        · have := (i2 (2 * k - 2 - st) (by omega) c hc).2
          rw [show 2 * k - 2 - (2 * k - 2 - st) = st by omega] at this
          exact this
    · have v : sA R3 (20 + (k - 1)) (2 * j) = nI (Od k o (k - 1) (2 * j)) := by
        rw [l2 _ (by omega)]
        exact i1 _ (by omega)
      rw [nI_clamp (show k - 1 < 2 ^ 31 by omega), nI_clamp (show j < 2 ^ 31 by omega), nI_clamp (show 2 * j < 2 ^ 31 by omega), v]
      refine ⟨fun q => absurd q (nI_ge (by omega) (by omega)), fun _ => ⟨vp_in_nI (by omega) (by omega), vp_in_nI (by omega) (by omega), vp_in_nI (by omega) (by omega), vp_in_nI (by omega) (by omega), ?_⟩⟩
      rintro _ rfl _ rfl
      refine hK2 _ ⟨j + 1, _, by omega, rfl, fun c hc => ?_, fun a ha => ?_⟩ ?_
      · rw [sA_uA, if_pos rfl]
        by_cases q : c = j
        · rw [q]
          exact upd_same _ _ _
        · rw [upd_other _ _ q]
          exact l1 c (by omega)
      · rw [sA_uA, if_neg ha]
        exact l2 a ha
      · show 2 ^ (k - 1) - (nI (j + 1)).toNatClampNeg < 2 ^ (k - 1) - (nI j).toNatClampNeg
        rw [nI_clamp (by omega), nI_clamp (by omega)]
        omega
  · refine ⟨fun q => absurd q (nI_ge (by omega) (by omega)), fun _ => ?_⟩
    have hsz : nI (2 ^ k) >>> (nI d &&& 31) = nI (2 * 2 ^ (k - 1 - d)) := by
      have e1 : 2 ^ k / 2 ^ d = 2 * 2 ^ (k - 1 - d) := by
        rw [Nat.pow_div (by omega) (by omega), ← hp_t (show d < k by omega)]
      rw [pk_shrN (by omega) (nI d &&& 31) d (s_l d (by omega)), e1]
    rw [hsz]
    rintro _ rfl
    refine c_lvl hk (by omega) ho i1 (fun R3 l1 l2 l3 => ?_)
    rintro _ rfl
    refine hK _ ⟨d + 1, R3, by omega, rfl, l1, fun st hst j hj => ?_⟩ ?_
    · by_cases q : st = d
      · rw [q]
        exact l2 j hj
      · rw [l3 st (by omega) q (by omega), l3 (2 * k - 2 - st) (by omega) (by omega) (by omega)]
        exact i2 st (by omega) j hj
    · show k - 1 - (nI (d + 1)).toNatClampNeg < k - 1 - (nI d).toNatClampNeg
      rw [nI_clamp (by omega), nI_clamp (by omega)]
      omega
end CL
