/-! a new net; the start -/
theorem m_fill {n : Nat} (hn : n ≤ 72) {ln : Nat → Nat} (hl : ln 0 = n) {s : St} {v : Int32} {Q : St → Prop} (h : ∀ f, (∀ j, j < n → f j = v) → Q (uA s 0 f)) : pJ7_fill_53178 ln s v Q := by
  unfold pJ7_fill_53178
  rintro _ rfl
  unfold lJ7_fill_53178_5
  refine lp_of (I := fun q => ∃ k f, k ≤ n ∧ q = (uA s 0 f, nI k) ∧ ∀ j, j < k → f j = v) (μ := fun q => n - q.2.toNatClampNeg) ?_ (s, 0) ⟨0, sA s 0, by omega, ?_, fun j hj => absurd hj (Nat.not_lt_zero j)⟩
  · rintro q ⟨k, f, hk, rfl, hf⟩ K hK
    show bJ7_fill_53178_5 ln v _ _ _ (uA s 0 f) (nI k)
    unfold bJ7_fill_53178_5
    rw [hl]
    refine ⟨fun q => ?_, fun q => ?_⟩
    · have : n ≤ k := (nI_le_iff (a := n) (b := k) (by omega) (by omega)).mp q
      exact h f (fun j hj => hf j (by omega))
    · have hlt : k < n := Nat.lt_of_not_le (fun q2 => q (nI_le (a := n) (b := k) q2 (by omega)))
      refine ⟨vp_in_nI (by omega) (by omega), ?_⟩
      rintro _ rfl _ rfl
      rw [nI_s1, nI_clamp (by omega)]
      refine hK _ ⟨k + 1, upd f k v, by omega, ?_, fun j hj => ?_⟩ ?_
      · rw [uA_uA]; rfl
      · unfold upd
        by_cases e : j = k
        · rw [if_pos e]
        · rw [if_neg e]; exact hf j (by omega)
      · show n - (nI (k + 1)).toNatClampNeg < n - (nI k).toNatClampNeg
        rw [nI_clamp (by omega), nI_clamp (by omega)]
        omega
  · rw [uA_self]; rfl
theorem cnt_T : ∀ k, cnt (fun _ => true) k = k
  | 0 => rfl
  | k + 1 => by unfold cnt; rw [cnt_T k]; rfl
theorem cnt_F : ∀ k, cnt (fun _ => false) k = 0
  | 0 => rfl
  | k + 1 => by unfold cnt; rw [cnt_F k]; rfl
def N0 (m l r : Nat) : NSt := (m, l, r, fun _ => false, fun _ => none)
theorem N0_wf {m l r : Nat} (hm : 1 ≤ m ∧ m ≤ 12) (hl : 1 ≤ l ∧ l ≤ 6) (hr : 1 ≤ r ∧ r ≤ 6) : NWf (N0 m l r) :=
  ⟨hm, hl, hr, fun _ _ => rfl, fun _ _ _ h => (nomatch h), fun _ _ _ _ _ h => (nomatch h), fun _ _ _ _ _ h => (nomatch h), fun _ _ _ _ _ h => (nomatch h)⟩
theorem uA_9_10 (M : St) (f g f' g' : Nat → Int32) : uA (uA (uA (uA M 9 f) 10 g) 9 f') 10 g' = uA (uA M 9 f') 10 g' := by
  unfold uA
  simp only [Prod.mk.injEq, true_and, and_true]
  funext j
  unfold va_up
  by_cases e : j = 10
  · simp only [if_pos e]
  · by_cases e2 : j = 9
    · simp only [if_neg e, if_pos e2]
    · simp only [if_neg e, if_neg e2]
theorem uA_9_10s (M : St) : uA (uA M 9 (sA M 9)) 10 (sA M 10) = M := by
  rw [uA_self]
  exact uA_self M 10
theorem m_net82 {p : Nat} (hp : p < 6) {M : St} {Q : St → Prop} (h : ∀ f, (∀ j, f j = if 12 * p ≤ j ∧ j < 12 * p + 12 then 0 else sA M 8 j) → Q (uA M 8 f)) : lX6_net_82 (nI p) Q M 0 := by
  unfold lX6_net_82
  refine lp_of (I := fun q => ∃ k f, k ≤ 12 ∧ q = (uA M 8 f, nI k) ∧ ∀ j, f j = if 12 * p ≤ j ∧ j < 12 * p + k then 0 else sA M 8 j) (μ := fun q => 12 - q.2.toNatClampNeg) ?_ (M, 0) ⟨0, sA M 8, by omega, by rw [uA_self]; rfl, fun j => by rw [if_neg (by omega)]⟩
  rintro q ⟨k, f, hk, rfl, hf⟩ K hK
  show bX6_net_82 _ _ _ (uA M 8 f) (nI k)
  unfold bX6_net_82
  refine ⟨fun q => ?_, fun q => ?_⟩
  · have : 12 ≤ k := (nI_le_iff (a := 12) (b := k) (by omega) (by omega)).mp q
    obtain rfl : k = 12 := by omega
    exact h f hf
  · have hlt : k < 12 := Nat.lt_of_not_le (fun q2 => q (nI_le (a := 12) (b := k) q2 (by omega)))
    have ei : ((12 : Int32) * nI p) + nI k = nI (12 * p + k) := by
      rw [show (12 : Int32) = nI 12 from rfl, nI_mul, nI_add]
    rw [ei]
    refine ⟨vp_in_nI (by omega) (by omega), ?_⟩
    rintro _ rfl _ rfl
    rw [nI_s1, nI_clamp (by omega)]
    refine hK _ ⟨k + 1, upd f (12 * p + k) 0, by omega, ?_, fun j => ?_⟩ ?_
    · rw [uA_uA]; rfl
    · unfold upd
      by_cases e : j = 12 * p + k
      · rw [if_pos e, if_pos (by omega)]
      · rw [if_neg e, hf j]
        by_cases h2 : 12 * p ≤ j ∧ j < 12 * p + k
        · rw [if_pos h2, if_pos (by omega)]
        · rw [if_neg h2, if_neg (by omega)]
    · show 12 - (nI (k + 1)).toNatClampNeg < 12 - (nI k).toNatClampNeg
      rw [nI_clamp (by omega), nI_clamp (by omega)]
      omega
theorem m_net111 {p : Nat} (hp : p < 6) {M : St} {Q : St → Prop} (h : ∀ f g, (∀ j, f j = if 36 * p ≤ j ∧ j < 36 * p + 36 then -1000000 else sA M 9 j) → (∀ j, g j = if 36 * p ≤ j ∧ j < 36 * p + 36 then -1000000 else sA M 10 j) → Q (uA (uA M 9 f) 10 g)) : lX6_net_111 (nI p) Q M 0 := by
  unfold lX6_net_111
  refine lp_of (I := fun q => ∃ k f g, k ≤ 36 ∧ q = (uA (uA M 9 f) 10 g, nI k) ∧ (∀ j, f j = if 36 * p ≤ j ∧ j < 36 * p + k then -1000000 else sA M 9 j) ∧ (∀ j, g j = if 36 * p ≤ j ∧ j < 36 * p + k then -1000000 else sA M 10 j)) (μ := fun q => 36 - q.2.toNatClampNeg) ?_ (M, 0) ⟨0, sA M 9, sA M 10, by omega, by rw [uA_9_10s]; rfl, fun j => by rw [if_neg (by omega)], fun j => by rw [if_neg (by omega)]⟩
  rintro q ⟨k, f, g, hk, rfl, hf, hg⟩ K hK
  show bX6_net_111 _ _ _ (uA (uA M 9 f) 10 g) (nI k)
  unfold bX6_net_111
  refine ⟨fun q => ?_, fun q => ?_⟩
  · have : 36 ≤ k := (nI_le_iff (a := 36) (b := k) (by omega) (by omega)).mp q
    obtain rfl : k = 36 := by omega
    exact h f g hf hg
  · have hlt : k < 36 := Nat.lt_of_not_le (fun q2 => q (nI_le (a := 36) (b := k) q2 (by omega)))
    have ei : ((36 : Int32) * nI p) + nI k = nI (36 * p + k) := by
      rw [show (36 : Int32) = nI 36 from rfl, nI_mul, nI_add]
    rw [ei]
    refine ⟨vp_in_nI (by omega) (by omega), ?_⟩
    rintro _ rfl
    refine ⟨vp_in_nI (by omega) (by omega), ?_⟩
    rintro _ rfl _ rfl
    rw [nI_s1, nI_clamp (by omega)]
    refine hK _ ⟨k + 1, upd f (36 * p + k) (-1000000), upd g (36 * p + k) (-1000000), by omega, ?_, fun j => ?_, fun j => ?_⟩ ?_
    · rw [uA_9_10]; rfl
    · unfold upd
      by_cases e : j = 36 * p + k
      · rw [if_pos e, if_pos (by omega)]
      · rw [if_neg e, hf j]
        by_cases h2 : 36 * p ≤ j ∧ j < 36 * p + k
        · rw [if_pos h2, if_pos (by omega)]
        · rw [if_neg h2, if_neg (by omega)]
    · unfold upd
      by_cases e : j = 36 * p + k
      · rw [if_pos e, if_pos (by omega)]
      · rw [if_neg e, hg j]
        by_cases h2 : 36 * p ≤ j ∧ j < 36 * p + k
        · rw [if_pos h2, if_pos (by omega)]
        · rw [if_neg h2, if_neg (by omega)]
    · show 36 - (nI (k + 1)).toNatClampNeg < 36 - (nI k).toNatClampNeg
      rw [nI_clamp (by omega), nI_clamp (by omega)]
      omega
theorem nI_nneg {a : Nat} (h : a < 2 ^ 31) : ¬ nI a < 0 := fun q => absurd ((nI_lt_iff (a := a) (b := 0) h (by omega)).mp q) (Nat.not_lt_zero _)
theorem c_net {m l r : Nat} (hm : 1 ≤ m ∧ m ≤ 12) (hl : 1 ≤ l ∧ l ≤ 6) (hr : 1 ≤ r ∧ r ≤ 6) {Q : (Nat → Nat) → St → Prop} (h : ∀ ln t, CRep (N0 m l r) ln t → Q ln t) : pX1_init (nI m) (nI l) (nI r) Q := by
  have h1 : r * l ≤ 36 := Nat.mul_le_mul hr.2 hl.2
  have h2 : m * r ≤ 72 := Nat.mul_le_mul hm.2 hr.2
  unfold pX1_init
  rw [nI_mul, nI_mul, nI_clamp (by omega), nI_clamp (by omega), nI_clamp (by omega)]
  refine ⟨nI_nneg (by omega), by omega, nI_nneg (by omega), by omega, nI_nneg (by omega), by omega, nI_nneg (by omega), by omega, nI_nneg (by omega), by omega, nI_nneg (by omega), by omega, nI_nneg (by omega), by omega, nI_nneg (by omega), by omega, nI_nneg (by omega), by omega, ?_⟩
  refine m_fill (n := r * l) (by omega) rfl (fun f1 hf1 => ?_)
  rintro _ rfl
  refine m_fill (n := r * l) (by omega) rfl (fun f2 hf2 => ?_)
  rintro _ rfl
  refine m_fill (n := m * r) (by omega) rfl (fun f3 hf3 => ?_)
  rintro _ rfl
  refine m_fill (n := m * r) (by omega) rfl (fun f4 hf4 => ?_)
  rintro _ rfl
  refine h _ _ ⟨⟨rfl, rfl, rfl, rfl, ?_, ?_⟩, ⟨rfl, rfl, rfl, rfl, rfl, rfl, rfl, rfl, rfl⟩, fun x _ => rfl, fun a ha => hf1 a ha, fun a ha => hf2 a ha, fun b _ => Or.inr ⟨rfl, fun a x q => (nomatch q)⟩, fun x f hx hf => Or.inl ⟨?_, fun a b q => (nomatch q)⟩, fun x f hx hf => Or.inl ⟨?_, fun a b q => (nomatch q)⟩⟩
  · show nI m = nI (cnt (fun _ => true) m)
    rw [cnt_T]
  · show (0 : Int32) = nI (cnt (fun _ => false) (r * l))
    rw [cnt_F]
    rfl
  · have hx' : x < m := hx
    have hf' : f < r := hf
    exact hf3 (x * r + f) (by have : x * r + r ≤ m * r := by rw [← Nat.succ_mul]; exact Nat.mul_le_mul_right r hx'
                              omega)
  · have hx' : x < m := hx
    have hf' : f < r := hf
    exact hf4 (x * r + f) (by have : x * r + r ≤ m * r := by rw [← Nat.succ_mul]; exact Nat.mul_le_mul_right r hx'
                              omega)
theorem st_4 : stepOK_4 Rel := by
  intro T M a1 a2 a3 a4 h
  obtain ⟨hS, hN, hA, hF⟩ := h
  simp only [pX5_net, pX6_net, pl5_iff, pl6_iff, within_iff, in_iff, forall_eq, Int32.toInt_toInt64, l32_1, l32_6, l32_12, l64_1, l64_6, l64_12]
  by_cases h1 : 0 ≤ a1.toInt ∧ a1.toInt ≤ 5
  · by_cases h2 : 1 ≤ a2.toInt ∧ a2.toInt ≤ 12
    · by_cases h3 : 1 ≤ a3.toInt ∧ a3.toInt ≤ 6
      · by_cases h4 : 1 ≤ a4.toInt ∧ a4.toInt ≤ 6
        · obtain ⟨p, hp, rfl⟩ := nI_rg (n := 6) h1.1 (by omega) (by omega)
          obtain ⟨m, hm, rfl⟩ := nI_rg (n := 13) (x := a2) (by omega) (by omega) (by omega)
          obtain ⟨l, hl, rfl⟩ := nI_rg (n := 7) (x := a3) (by omega) (by omega) (by omega)
          obtain ⟨r, hr, rfl⟩ := nI_rg (n := 7) (x := a4) (by omega) (by omega) (by omega)
          simp only [if_pos h1, if_pos h2, if_pos h3, if_pos h4, one_ne, imp_F, not_F, imp_T, true_and, cl6 hp]
          rw [nI_toInt (by omega)] at h2 h3 h4
          have km : 1 ≤ m ∧ m ≤ 12 := by omega
          have kl : 1 ≤ l ∧ l ≤ 6 := by omega
          have kr : 1 ≤ r ∧ r ≤ 6 := by omega
          have hw := N0_wf km kl kr
          refine c_net km kl kr (fun ln t hc q a => ⟨in6 hp, ?_⟩)
          refine c_kind hw hc ?_
          simp only [pX5_fine, forall_eq]
          refine ⟨in6 hp, in6 hp, in6 hp, ?_⟩
          refine m_net82 hp (fun dd hdd => m_net111 hp (fun ou by_ hou hby => ?_))
          have hm : MRep (N0 m l r) p (upd (sA M 5) p (nI m)) (upd (sA M 6) p (nI l)) (upd (sA M 7) p (nI r)) dd ou by_ := by
            refine ⟨⟨upd_same _ _ _, upd_same _ _ _, upd_same _ _ _⟩, fun x hx => ?_, fun a ha => ?_, fun a b x ha q => (nomatch q)⟩
            · rw [hdd, if_pos (by have : x < m := hx; omega)]; rfl
            · rw [hou, if_pos (by omega)]; rfl
          refine m_kind (N := N0 m l r) hp hw ?_ ⟨rfl, hS, ?_, hA, rfl⟩
          · exact hm
          refine RN_up hN (p := p) ⟨N0 m l r, hw, hc, hm⟩ (fun j hj e => ⟨upd_other _ _ e, upd_other _ _ e, upd_other _ _ e⟩) (fun j k hj e hk => ?_) (fun j k hj e hk => ⟨?_, ?_⟩)
          · show dd (12 * j + k) = _
            rw [hdd, if_neg (by omega)]
            rfl
          · show ou (36 * j + k) = _
            rw [hou, if_neg (by omega)]
            rfl
          · show by_ (36 * j + k) = _
            rw [hby, if_neg (by omega)]
            rfl
        · simp only [if_pos h1, if_pos h2, if_pos h3, if_neg h4, one_ne, zero_eq, imp_F, not_F, not_T, imp_T, and_true, true_and]
          exact ⟨hS, hN, hA, hF⟩
      · simp only [if_pos h1, if_pos h2, if_neg h3, one_ne, zero_eq, imp_F, not_F, not_T, imp_T, and_true, true_and]
        exact ⟨hS, hN, hA, hF⟩
    · simp only [if_pos h1, if_neg h2, one_ne, zero_eq, imp_F, not_F, not_T, imp_T, and_true, true_and]
      exact ⟨hS, hN, hA, hF⟩
  · simp only [if_neg h1, zero_eq, imp_F, not_T, imp_T, and_true, true_and]
    exact ⟨hS, hN, hA, hF⟩
theorem st_init : pX5_init (fun T => pX6_init (fun M => Rel T M)) := by
  simp only [pX5_init, pX0_init, pX3_init, pX2_init, pX6_init, forall_eq]
  refine ⟨in8 (i := 0) (by omega), in8 (i := 1) (by omega), in8 (i := 2) (by omega), in8 (i := 3) (by omega), in8 (i := 4) (by omega), in8 (i := 5) (by omega), in8 (i := 6) (by omega), in8 (i := 7) (by omega), ?_⟩
  refine ⟨?_, fun p _ => rfl, ⟨rfl, 0, by omega, rfl, fun j hj => absurd hj (Nat.not_lt_zero j)⟩, rfl⟩
  intro i hi
  obtain e | e | e | e | e | e | e | e : i = 0 ∨ i = 1 ∨ i = 2 ∨ i = 3 ∨ i = 4 ∨ i = 5 ∨ i = 6 ∨ i = 7 := by omega
  all_goals (subst e; rfl)
