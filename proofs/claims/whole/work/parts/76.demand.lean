/-! demand -/
theorem l32_m1 : (-1 : Int32).toInt = -1 := by decide
theorem l64_m1 : (-1 : Int64).toInt = -1 := by decide
theorem l32_35 : (35 : Int32).toInt = 35 := by decide
theorem sN_i {f : Nat → Nat} {i : Nat} : ∀ {k : Nat}, i < k → f i ≤ sN f k
  | 0, h => absurd h (Nat.not_lt_zero _)
  | k + 1, h => by
    rw [sN_s]
    by_cases e : i = k
    · rw [e]
      omega
    · have := sN_i (f := f) (i := i) (k := k) (by omega)
      omega
theorem reg0_no {s : Nat} {A : Nat → Nat → Nat} (hs : 0 < s) (h : reg s A 0) {q : Nat → Nat} (hq : prm s q) : ¬ pos s A q := by
  intro hp
  have h1 := hp 0 hs
  have h2 := sN_i (f := fun j => A 0 j) (hq.1 0 hs)
  rw [h.1 0 hs] at h2
  have h3 : A 0 (q 0) ≤ 0 := h2
  omega
/-- in the class's run and the model's there are as many parts -/
theorem same_T {s : Nat} {A : Nat → Nat → Nat} (hs : 0 < s) {t T : Nat} (h1 : ∀ p, p < t → isL s (sq s A p) (lst s (sq s A p))) (h2 : ∀ q, prm s q → pos s (sq s A t) q → False) (h3 : ∀ p, p < T → isL s (sq s A p) (lst s (sq s A p))) (h4 : reg s (sq s A T) 0) : t = T := by
  rcases Nat.lt_trichotomy t T with g | g | g
  · have := h3 t g
    exact (h2 _ this.1 this.2.1).elim
  · exact g
  · have := h1 T g
    exact absurd this.2.1 (reg0_no hs h4 this.1)
theorem le_T {s : Nat} {A : Nat → Nat → Nat} (hs : 0 < s) {t T : Nat} (h1 : ∀ p, p < t → isL s (sq s A p) (lst s (sq s A p))) (h4 : reg s (sq s A T) 0) : t ≤ T := by
  refine Nat.le_of_not_lt (fun g => ?_)
  have := h1 T g
  exact absurd this.2.1 (reg0_no hs h4 this.1)
theorem st_19 : stepOK_19 Rel := by
  intro T M a1 a2 a3 a4 a5 hR
  have h := hR
  obtain ⟨hS, hN, hA, hF⟩ := h
  simp only [pX5_demand, pX6_demand, sh5_iff, sh6_iff, within_iff, in_iff, forall_eq, Int32.toInt_toInt64, l64_0, l64_1, l64_6, l64_m1, l32_0, l32_1, l32_6, l32_m1, l32_35, pX5_found, pX6_found, pX5_fine]
  by_cases h1 : 0 ≤ a1.toInt ∧ a1.toInt ≤ 7
  · obtain ⟨p, hp, rfl⟩ := nI_rg (n := 8) h1.1 (by omega) (by omega)
    by_cases h2 : 1 ≤ a3.toInt ∧ a3.toInt ≤ 6
    · obtain ⟨s, hs7, rfl⟩ := nI_rg (n := 7) (x := a3) (by omega) (by omega) (by omega)
      have tk := nI_toInt (n := s) (by omega)
      have hs : s ≤ 6 := by omega
      have hs1 : 1 ≤ s := by omega
      have hss : s * s ≤ 36 := Nat.mul_le_mul hs hs
      have tp := tI_pred (n := s) (by omega)
      simp only [if_pos h1, if_pos h2, one_ne, imp_F, not_F, imp_T, true_and, cl8 hp, in8 hp, sA_uF, tp, nI_mul s s]
      by_cases h3 : -1 ≤ a5.toInt ∧ a5.toInt ≤ (s : Int) - 1
      · rcases lane_neg hS hp with ⟨e1, e2⟩ | ⟨o, a, l, t, e1, k1, k2, k3, k4, k5, k6⟩
        · simp only [if_pos h3, e1, e2, none_n, ob_n, imp_T, and_true, m1_ge, imp_F, not_F, true_and, one_ne]
          exact ⟨hS, hN, hA, rfl⟩
        · have hl : (0 : Int32) ≤ sA M 2 p := le_toInt'.mpr (by rw [l32_0]; exact k1)
          have tB := nI_toInt (n := s * s) (by omega)
          simp only [if_pos h3, one_ne, e1, some_n, ob_e, imp_F, not_F, imp_T, true_and, hl, not_T, and_true, holds_iff k5, k4, lg_cmp_le]
          simp only [lt_toInt, Int64.le_iff_toInt_le, add64, Int32.toInt_toInt64, l32_0, nI_toInt (show l 1 < 2 ^ 31 by omega), tB]
          by_cases g1 : 0 ≤ a2.toInt ∧ 0 ≤ ((s * s : Nat) : Int) ∧ a2.toInt + ((s * s : Nat) : Int) ≤ (l 1 : Int)
          · obtain ⟨i, hi, rfl⟩ := nI_rg (x := a2) (n := 65) g1.1 (by omega) (by omega)
            have ti := nI_toInt (n := i) (by omega)
            have hil : i + s * s ≤ l 1 := by
              have := g1.2.2
              rw [ti] at this
              omega
            have ni : ¬ (nI i).toInt < 0 := by omega
            simp only [if_pos g1, one_ne, imp_F, not_F, imp_T, true_and]
            have hvM : ∀ x y, x < s → y < s → sA (uF M 0 0) 4 (64 * p + i + s * x + y) = (fun x y => sA t 1 (i + x * s + y)) x y := by
              intro x y hx hy
              have h1 := idx_lt (r := s) (m := s) hx hy
              have := k6 (i + x * s + y) (by omega)
              show sA M 4 (64 * p + i + s * x + y) = sA t 1 (i + x * s + y)
              rw [this, Nat.mul_comm s x]
              congr 1
              omega
            refine c_table (v := fun x y => sA t 1 (i + x * s + y)) hs hs1 hil k5 (fun x y _ _ => rfl) (fun hno P2 => ?_) (fun hok P2 p3 prow => ?_)
            · refine ⟨fun _ => ⟨fun q => absurd q ni, fun _ => ⟨fun _ => ?_, fun q => absurd g1.2.2 q⟩⟩, fun q => absurd rfl q⟩
              refine m_table (v := fun x y => sA t 1 (i + x * s + y)) hs hs1 hp (by omega) hvM (fun _ f z => ?_) (fun hok => absurd hok hno)
              refine ⟨fun _ => ?_, fun q => absurd rfl q⟩
              exact Rel_up hR (M0 := uF M 0 0) (fun j => rfl) rfl ⟨fun j hj => by rw [sA_uA, if_neg (by omega)], fun j hj => rfl⟩ (RS_same hS e1) rfl rfl hF
            · refine ⟨fun q => absurd q (by decide), fun _ => ?_⟩
              have hbn : bnd s (vN (fun x y => sA t 1 (i + x * s + y))) := fun x y hx hy => (rng_vN (hok.1 x y hx hy)).2
              have hreg : reg s (vN (fun x y => sA t 1 (i + x * s + y))) (sN (fun b => vN (fun x y => sA t 1 (i + x * s + y)) 0 b) s) := ⟨fun x hx => (hok.2 x hx).1, fun y hy => (hok.2 y hy).2⟩
              have hN6 : sN (fun b => vN (fun x y => sA t 1 (i + x * s + y)) 0 b) s ≤ 6000 := by
                have := sN_bd (f := fun b => vN (fun x y => sA t 1 (i + x * s + y)) 0 b) (s := s) (fun y hy => hbn 0 y (by omega) hy)
                omega
              generalize hV : vN (fun x y => sA t 1 (i + x * s + y)) = V at *
              generalize hNN : sN (fun b => V 0 b) s = NN at *
              -- what the model comes to
              have model : ∀ (B Y : St → Prop) (x4 x5 : Int32), (∀ TT M2, TT ≤ 36 → (∀ p, p < TT → isL s (sq s V p) (lst s (sq s V p)) ∧ (∀ i, i < s → sA M2 26 (6 * p + i) = nI (lst s (sq s V p) i)) ∧ sA M2 27 p = nI (mnF 1000 (sq s V p) (lst s (sq s V p)) s)) → reg s (sq s V TT) 0 → sF M2 25 = nI TT → smG (uF (uF M 0 0) 1 0) M2 → Y M2) → lX6_demand_95 (nI p) (nI i) (nI s) x4 x5 (fun (s_295 : St) (z295_6 : Int32) (z295_7 : Int32) => (z295_7 = 0 → B s_295) ∧ (¬ z295_7 = 0 → pX6_findParts (uF s_295 1 0) (nI s) z295_6 (fun s312 => Y s312))) (uF M 0 0) 0 1 0 := by
                intro B Y x4 x5 hX
                refine m_table (v := fun x y => sA t 1 (i + x * s + y)) hs hs1 hp (by omega) hvM (fun hno => absurd hok hno) (fun _ f hf => ?_)
                refine ⟨fun q => absurd q (by decide), fun _ => ?_⟩
                rw [hV, hNN]
                refine m_parts (M := uF (uA (uF M 0 0) 24 f) 1 0) (A := V) hs hs1 hN6 hbn hreg (fun x y hx hy => ?_) (fun TT M2 t1 t2 t3 t4 t5 t6 => ?_)
                · show f (6 * x + y) = nI (V x y)
                  rw [hf x y hx hy, ← hV]
                  exact (rng_vN (hok.1 x y hx hy)).1
                · refine hX TT M2 t1 t2 t3 t4 ⟨fun j hj => ?_, fun j hj => ?_⟩
                  · rw [t5 j hj]
                    show sA (uA (uF M 0 0) 24 f) j = sA (uF M 0 0) j
                    rw [sA_uA, if_neg (by omega)]
                  · rw [t6 j hj]
                    rfl
              have fin : ∀ (T2 : TS) (M2 : St), smG (uF (uF M 0 0) 1 0) M2 → tS T2 = va_up (tS T) p (some (o, a, l, t)) → tN T2 = tN T → tA T2 = tA T → sF (tX T2) 5 = 0 → Rel T2 M2 := by
                intro T2 M2 hg q1 q2 q3 q4
                refine Rel_up hR (M0 := uF (uF M 0 0) 1 0) (fun j => rfl) rfl hg ?_ q2 q3 q4
                rw [q1]
                exact RS_same hS e1
              refine ⟨fun q0 => ?_, fun q0 => ⟨fun q1 => ?_, fun q1 => ?_⟩⟩
              · refine c_upTo (w := 36) (A := V) (P := P2) hs (Nat.le_refl _) hbn prow p3 (fun tt P3 u1 u2 u3 u4 => ?_)
                refine ⟨fun q => absurd q ni, fun _ => ⟨fun _ => ?_, fun q => absurd g1.2.2 q⟩⟩
                refine model _ _ _ _ (fun TT M2 t1 t2 t3 t4 t5 => ?_)
                have eT : tt = TT := by
                  by_cases w : tt < 36
                  · exact same_T hs1 u2 (u3 w) (fun p hp => (t2 p hp).1) t3
                  · have := le_T hs1 u2 t3
                    omega
                rw [t4, eT]
                exact ⟨fun _ => ⟨rfl, fin _ _ t5 rfl rfl rfl rfl⟩, fun q => absurd q0 q⟩
              · have nr : ¬ (0 ≤ a4.toInt ∧ a4.toInt ≤ 35) := (bit_ne _).mp q1
                refine ⟨fun q => absurd q ni, fun _ => ⟨fun _ => ?_, fun q => absurd g1.2.2 q⟩⟩
                refine model _ _ _ _ (fun TT M2 t1 t2 t3 t4 t5 => ?_)
                rw [t4, tI_pred (by omega), if_neg (by omega)]
                exact ⟨fun q => absurd q q0, fun _ => ⟨fun _ => fin _ _ t5 rfl rfl rfl rfl, fun q => absurd rfl q⟩⟩
              · have rr : 0 ≤ a4.toInt ∧ a4.toInt ≤ 35 := by
                  rcases Classical.em (0 ≤ a4.toInt ∧ a4.toInt ≤ 35) with g | g
                  · exact g
                  · exact absurd ((bit_ne _).mpr g) q1
                obtain ⟨pp, hpp, rfl⟩ := nI_rg (x := a4) (n := 36) rr.1 (by omega) (by omega)
                have tpp := nI_toInt (n := pp) (by omega)
                rw [nI_s1]
                refine c_upTo (w := pp + 1) (A := V) (P := P2) hs (by omega) hbn prow p3 (fun tt P3 u1 u2 u3 u4 => ?_)
                have ttt := nI_toInt (n := tt) (by omega)
                rw [tpp, ttt]
                refine ⟨fun q2 => ?_, fun q2 => ?_⟩
                · have et : tt = pp + 1 := by omega
                  subst et
                  obtain ⟨w1, w2⟩ := u4 rfl (by omega)
                  rw [show pp + 1 - 1 = pp by omega] at w1 w2
                  refine ⟨fun q3 => ?_, fun q3 => ?_⟩
                  · refine ⟨fun q => absurd q ni, fun _ => ⟨fun _ => ?_, fun q => absurd g1.2.2 q⟩⟩
                    refine model _ _ _ _ (fun TT M2 t1 t2 t3 t4 t5 => ?_)
                    have hT := le_T hs1 u2 t3
                    rw [t4, tI_pred (by omega), if_pos (by omega)]
                    refine ⟨fun q => absurd q q0, fun _ => ⟨fun q => absurd q (by decide), fun _ => ⟨fun q5 => ?_, fun q5 => ?_⟩⟩⟩
                    · rw [q3] at q5
                      exact absurd q5 (by decide)
                    · refine ⟨vp_in_nI (by omega) (by omega), ?_, fin _ _ t5 rfl rfl rfl rfl⟩
                      rw [nI_clamp (show pp < 2 ^ 31 by omega), (t2 pp (by omega)).2.2]
                      exact w2
                  · have a5n : 0 ≤ a5.toInt := by
                      have : a5.toInt ≠ -1 := fun q4 => q3 (Int32.toInt_inj.mp (by rw [q4, l32_m1]))
                      omega
                    obtain ⟨jj, hjj, rfl⟩ := nI_rg (x := a5) (n := s) a5n (by omega) (by omega)
                    refine ⟨vp_in_nI (by omega) (by omega), fun q => absurd q ni, fun _ => ⟨fun _ => ?_, fun q => absurd g1.2.2 q⟩⟩
                    refine model _ _ _ _ (fun TT M2 t1 t2 t3 t4 t5 => ?_)
                    have hT := le_T hs1 u2 t3
                    rw [t4, tI_pred (by omega), if_pos (by omega)]
                    refine ⟨fun q => absurd q q0, fun _ => ⟨fun q => absurd q (by decide), fun _ => ⟨fun q5 => ?_, fun q5 => absurd (nI_pos' (by omega)) q5⟩⟩⟩
                    rw [ix6, nI_clamp (show jj < 2 ^ 31 by omega), nI_clamp (show 6 * pp + jj < 2 ^ 31 by omega), (t2 pp (by omega)).2.1 jj hjj]
                    exact ⟨vp_in_nI (by omega) (by omega), w1 jj hjj, fin _ _ t5 rfl rfl rfl rfl⟩
                · refine ⟨fun q => absurd q ni, fun _ => ⟨fun _ => ?_, fun q => absurd g1.2.2 q⟩⟩
                  refine model _ _ _ _ (fun TT M2 t1 t2 t3 t4 t5 => ?_)
                  have eT : tt = TT := same_T hs1 u2 (u3 (by omega)) (fun p hp => (t2 p hp).1) t3
                  rw [t4, tI_pred (by omega), if_neg (by omega)]
                  exact ⟨fun q => absurd q q0, fun _ => ⟨fun _ => fin _ _ t5 rfl rfl rfl rfl, fun q => absurd rfl q⟩⟩
          · simp only [if_neg g1, zero_eq, imp_F, not_T, imp_T, and_true, true_and]
            exact ⟨fun q2 => ⟨hS, hN, hA, rfl⟩, fun _ => ⟨fun q2 => by omega, fun _ => ⟨hS, hN, hA, rfl⟩⟩⟩
      · simp only [if_neg h3, zero_eq, imp_F, not_T, imp_T, and_true, true_and]
        exact ⟨hS, hN, hA, hF⟩
    · simp only [if_pos h1, if_neg h2, one_ne, zero_eq, imp_F, not_F, not_T, imp_T, and_true, true_and]
      exact ⟨hS, hN, hA, hF⟩
  · simp only [if_neg h1, zero_eq, imp_F, not_T, imp_T, and_true, true_and]
    exact ⟨hS, hN, hA, hF⟩
