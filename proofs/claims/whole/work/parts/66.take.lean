/-! bits of a mask (the first rows begin as the kit's own on bits); an order taken -/
def bt (x : Int32) (i : Nat) : Bool := x.toBitVec.getLsbD i
theorem b_ext {x y : Int32} (h : ∀ i, i < 32 → bt x i = bt y i) : x = y := Int32.toBitVec_inj.mp (BitVec.eq_of_getLsbD_eq (fun i hi => h i hi))
theorem b_or (x y : Int32) (i : Nat) : bt (x ||| y) i = (bt x i || bt y i) := by unfold bt; rw [Int32.toBitVec_or, BitVec.getLsbD_or]
theorem b_and (x y : Int32) (i : Nat) : bt (x &&& y) i = (bt x i && bt y i) := by unfold bt; rw [Int32.toBitVec_and, BitVec.getLsbD_and]
theorem b_0 (i : Nat) : bt 0 i = false := BitVec.getLsbD_zero
theorem s_l : ∀ n, n < 32 → ((nI n &&& 31).toBitVec.smod 32).toNat = n := by decide +kernel
theorem b_shl (n : Nat) (hn : n < 32) (x : Int32) {i : Nat} (hi : i < 32) : bt (x <<< (nI n &&& 31)) i = (decide (n ≤ i) && bt x (i - n)) := by
  unfold bt
  rw [Int32.toBitVec_shiftLeft]
  show (x.toBitVec <<< ((nI n &&& 31).toBitVec.smod 32).toNat).getLsbD i = _
  rw [s_l n hn, BitVec.getLsbD_shiftLeft]
  rcases Nat.lt_or_ge i n with h | h
  · simp [h, Nat.not_le.mpr h]
  · simp [hi, h, Nat.not_lt.mpr h]
theorem b_sshr (n : Nat) (hn : n < 32) (x : Int32) {i : Nat} (hi : i < 32) : bt (x >>> (nI n &&& 31)) i = if n + i < 32 then bt x (n + i) else bt x 31 := by
  unfold bt
  rw [Int32.toBitVec_shiftRight]
  show (x.toBitVec.sshiftRight ((nI n &&& 31).toBitVec.smod 32).toNat).getLsbD i = _
  rw [s_l n hn, BitVec.getLsbD_sshiftRight, BitVec.msb_eq_getLsbD_last]
  simp [hi]
theorem b_1 : ∀ i, i < 32 → bt 1 i = decide (i = 0) := by decide +kernel
theorem and1 (x : Int32) : x &&& 1 = 1 ↔ bt x 0 = true := by
  constructor
  · intro h
    have := congrArg (fun z => bt z 0) h
    have h2 : bt (x &&& 1) 0 = bt 1 0 := this
    rw [b_and, b_1 0 (by omega)] at h2
    simpa using h2
  · intro h
    refine b_ext (fun i hi => ?_)
    rw [b_and, b_1 i hi]
    by_cases e : i = 0
    · rw [e, h]
      rfl
    · rw [decide_eq_false e, Bool.and_false]
theorem bit_iff (mm : Int32) {w : Nat} (hw : w < 32) : (mm >>> (nI w &&& 31)) &&& 1 = 1 ↔ bt mm w = true := by
  rw [and1, b_sshr w hw mm (by omega), if_pos (by omega), Nat.add_zero]
theorem bit_or (mm : Int32) {v w : Nat} (hv : v < 32) (hw : w < 32) : bt (mm ||| ((1 : Int32) <<< (nI v &&& 31))) w = (bt mm w || decide (w = v)) := by
  rw [b_or, b_shl v hv 1 hw]
  congr 1
  by_cases e : v ≤ w
  · rw [decide_eq_true e, Bool.true_and, b_1 _ (by omega)]
    by_cases e2 : w = v
    · rw [decide_eq_true e2, decide_eq_true (by omega)]
    · rw [decide_eq_false e2, decide_eq_false (by omega)]
  · rw [decide_eq_false e, Bool.false_and, decide_eq_false (by omega)]
/-- the mask behind so many numbers of an order, if they can be of one -/
def tkM (u : Nat → Int32) (n : Nat) : Nat → Option Int32
  | 0 => some 0
  | t + 1 => match tkM u n t with | none => none | some mm => if (0 ≤ (u t).toInt ∧ (u t).toInt ≤ (n : Int) - 1) ∧ ¬ (mm >>> (u t &&& 31)) &&& 1 = 1 then some (mm ||| ((1 : Int32) <<< (u t &&& 31))) else none
section TK
variable {u : Nat → Int32} {n : Nat}
theorem tkM_none {t : Nat} (h : tkM u n t = none) : ∀ d, tkM u n (t + d) = none
  | 0 => h
  | d + 1 => by
    show tkM u n (t + d + 1) = none
    unfold tkM
    rw [tkM_none h d]
theorem tkM_y {t : Nat} {mm : Int32} (h : tkM u n t = some mm) (h1 : 0 ≤ (u t).toInt ∧ (u t).toInt ≤ (n : Int) - 1) (h2 : ¬ (mm >>> (u t &&& 31)) &&& 1 = 1) : tkM u n (t + 1) = some (mm ||| ((1 : Int32) <<< (u t &&& 31))) := by
  show (match tkM u n t with | none => none | some mm => if (0 ≤ (u t).toInt ∧ (u t).toInt ≤ (n : Int) - 1) ∧ ¬ (mm >>> (u t &&& 31)) &&& 1 = 1 then some (mm ||| ((1 : Int32) <<< (u t &&& 31))) else none) = _
  rw [h]
  exact if_pos ⟨h1, h2⟩
theorem tkM_n {t : Nat} {mm : Int32} (h : tkM u n t = some mm) (h1 : ¬ ((0 ≤ (u t).toInt ∧ (u t).toInt ≤ (n : Int) - 1) ∧ ¬ (mm >>> (u t &&& 31)) &&& 1 = 1)) : tkM u n (t + 1) = none := by
  show (match tkM u n t with | none => none | some mm => if (0 ≤ (u t).toInt ∧ (u t).toInt ≤ (n : Int) - 1) ∧ ¬ (mm >>> (u t &&& 31)) &&& 1 = 1 then some (mm ||| ((1 : Int32) <<< (u t &&& 31))) else none) = _
  rw [h]
  exact if_neg h1
theorem tkM_inv (hn : n ≤ 16) : ∀ (t : Nat) (mm : Int32), tkM u n t = some mm → (∀ i, i < t → ∃ w, w < n ∧ u i = nI w) ∧ (∀ i j, i < t → j < t → u i = u j → i = j) ∧ ∀ w, w < 16 → (bt mm w = true ↔ ∃ i, i < t ∧ u i = nI w)
  | 0, mm, h => by
    cases h
    refine ⟨fun i hi => absurd hi (Nat.not_lt_zero _), fun i j hi => absurd hi (Nat.not_lt_zero _), fun w _ => ?_⟩
    rw [b_0]
    exact ⟨fun q => (nomatch q), fun ⟨i, hi, _⟩ => absurd hi (Nat.not_lt_zero _)⟩
  | t + 1, mm, h => by
    cases e : tkM u n t with
    | none =>
      have := tkM_none e 1
      rw [h] at this
      cases this
    | some m0 =>
      obtain ⟨i1, i2, i3⟩ := tkM_inv hn t m0 e
      by_cases g : (0 ≤ (u t).toInt ∧ (u t).toInt ≤ (n : Int) - 1) ∧ ¬ (m0 >>> (u t &&& 31)) &&& 1 = 1
      · rw [tkM_y e g.1 g.2] at h
        obtain ⟨v, hv, ev⟩ := nI_rg (n := n) g.1.1 (by omega) (by omega)
        have g2 := g.2
        rw [ev] at h g2
        have g3 : ¬ bt m0 v = true := fun q => g2 ((bit_iff m0 (by omega)).mpr q)
        cases h
        refine ⟨fun i hi => ?_, fun i j hi hj q => ?_, fun w hw => ?_⟩
        · by_cases q : i = t
          · exact ⟨v, hv, by rw [q]; exact ev⟩
          · exact i1 i (by omega)
        · by_cases q1 : i = t
          · by_cases q2 : j = t
            · omega
            · exfalso
              refine g3 ((i3 v (by omega)).mpr ⟨j, by omega, ?_⟩)
              rw [← q, q1, ev]
          · by_cases q2 : j = t
            · exfalso
              refine g3 ((i3 v (by omega)).mpr ⟨i, by omega, ?_⟩)
              rw [q, q2, ev]
            · exact i2 i j (by omega) (by omega) q
        · rw [bit_or m0 (by omega) (by omega), Bool.or_eq_true, i3 w hw, decide_eq_true_eq]
          constructor
          · rintro (⟨i, hi, q⟩ | q)
            · exact ⟨i, by omega, q⟩
            · exact ⟨t, by omega, by rw [q]; exact ev⟩
          · rintro ⟨i, hi, q⟩
            by_cases q1 : i = t
            · right
              rw [q1, ev] at q
              exact ((nI_eq (by omega) (by omega)).mp q).symm
            · exact Or.inl ⟨i, by omega, q⟩
      · rw [tkM_n e g] at h
        cases h
theorem tkM_prm (hn : n ≤ 16) {mm : Int32} (h : tkM u n n = some mm) : ∃ o, prm n o ∧ ∀ t, t < n → u t = nI (o t) := by
  obtain ⟨i1, i2, _⟩ := tkM_inv hn n mm h
  have e : ∀ t, t < n → u t = nI ((u t).toInt.toNat) := by
    intro t ht
    obtain ⟨w, hw, ew⟩ := i1 t ht
    rw [ew, nI_toInt (by omega)]
    rfl
  have b : ∀ t, t < n → (u t).toInt.toNat < n := by
    intro t ht
    obtain ⟨w, hw, ew⟩ := i1 t ht
    rw [ew, nI_toInt (by omega)]
    omega
  refine ⟨fun t => (u t).toInt.toNat, ⟨b, fun i j hi hj q => ?_⟩, e⟩
  refine i2 i j hi hj ?_
  rw [e i hi, e j hj]
  exact congrArg nI q
end TK
theorem c_order {ln : Nat → Nat} {R t : St} {i k : Nat} (hk : 1 ≤ k ∧ k ≤ 4) (hi : i + 2 ^ k ≤ ln 1) (hl : ln 1 ≤ 64) {Q : Int32 → (St × St) → Prop} (h0 : tkM (fun c => sA t 1 (i + c)) (2 ^ k) (2 ^ k) = none → ∀ R', Q 0 (R', t)) (h1 : ∀ mm R', tkM (fun c => sA t 1 (i + c)) (2 ^ k) (2 ^ k) = some mm → (∀ c, c < 2 ^ k → sA R' 20 c = sA t 1 (i + c)) → Q 1 (R', t)) : pX3_takeOrder ln (R, t) (nI i) (nI k) Q := by
  have pk := pw_le hk.2
  unfold pX3_takeOrder
  rw [shl1 hk.2]
  rintro _ rfl
  generalize 2 ^ k = n at *
  unfold lX3_takeOrder_11
  refine lp_of (I := fun q => ∃ c mm f, c ≤ n ∧ q = ((uA R 20 f, t), mm, nI c) ∧ tkM (fun c => sA t 1 (i + c)) n c = some mm ∧ ∀ j, j < c → f j = sA t 1 (i + j)) (μ := fun q => n - q.2.2.toNatClampNeg) ?_ _ ⟨0, 0, sA R 20, by omega, by rw [uA_self]; rfl, rfl, fun j hj => absurd hj (Nat.not_lt_zero _)⟩
  rintro q ⟨c, mm, f, hc, rfl, hm, hf⟩ K hK
  show bX3_takeOrder_11 ln (nI i) (nI n) _ _ _ (uA R 20 f, t) mm (nI c)
  unfold bX3_takeOrder_11
  by_cases e : c = n
  · subst e
    exact ⟨fun _ => h1 mm _ hm hf, fun q => absurd (nI_le (Nat.le_refl _) (by omega)) q⟩
  · have hcn : c < n := by omega
    have fail : ∀ h : ¬ ((0 ≤ (sA t 1 (i + c)).toInt ∧ (sA t 1 (i + c)).toInt ≤ (n : Int) - 1) ∧ ¬ (mm >>> (sA t 1 (i + c) &&& 31)) &&& 1 = 1), Q 0 (uA R 20 f, t) := by
      intro h
      refine h0 ?_ _
      have := tkM_none (tkM_n (u := fun c => sA t 1 (i + c)) hm h) (n - (c + 1))
      rw [show c + 1 + (n - (c + 1)) = n by omega] at this
      exact this
    rw [nI_add, nI_clamp (show i + c < 2 ^ 31 by omega), nI_s1]
    refine ⟨fun q => absurd q (nI_ge hcn (by omega)), fun _ => ⟨vp_in_nI (by omega) (by omega), ?_⟩⟩
    rintro _ rfl
    rw [within_iff, tI_pred (by omega), l32_0]
    show ((if 0 ≤ (sA t 1 (i + c)).toInt ∧ (sA t 1 (i + c)).toInt ≤ (n : Int) - 1 then 1 else 0 : Int32) = 0 → Q 0 (uA R 20 f, t)) ∧ _
    by_cases g : 0 ≤ (sA t 1 (i + c)).toInt ∧ (sA t 1 (i + c)).toInt ≤ (n : Int) - 1
    · rw [if_pos g]
      refine ⟨fun q => absurd q (by decide), fun _ => ⟨fun q => fail (fun q2 => q2.2 q), fun q => ?_⟩⟩
      rintro _ rfl
      refine ⟨vp_in_nI (n := 0) (by omega) (by omega), vp_in_nI (by omega) (by omega), ?_⟩
      rintro _ rfl _ rfl
      refine hK _ ⟨c + 1, _, upd f c (sA t 1 (i + c)), by omega, ?_, tkM_y (u := fun c => sA t 1 (i + c)) hm g q, fun j hj => ?_⟩ ?_
      · rw [nI_clamp (by omega)]
        show ((uA (uA R 20 f) 20 (upd (sA (uA R 20 f) 20) c (sA t 1 (i + c))), t), _, _) = ((uA R 20 (upd f c (sA t 1 (i + c))), t), _, _)
        rw [uA_uA]
        rfl
      · by_cases q2 : j = c
        · rw [q2]
          exact upd_same _ _ _
        · rw [upd_other _ _ q2]
          exact hf j (by omega)
      · show n - (nI (c + 1)).toNatClampNeg < n - (nI c).toNatClampNeg
        rw [nI_clamp (by omega), nI_clamp (by omega)]
        omega
    · rw [if_neg g]
      exact ⟨fun _ => fail (fun q2 => g q2.1), fun q => absurd rfl q⟩
theorem m_order {M : St} {i k p : Nat} {x4 x5 : Int32} (hp : p < 8) (hk : 1 ≤ k ∧ k ≤ 4) (hi : i + 2 ^ k ≤ 64) {u : Nat → Int32} (hu : ∀ c, c < 2 ^ k → sA M 4 (64 * p + i + c) = u c) {Q0 Q1 : St → Prop} (h0 : tkM u (2 ^ k) (2 ^ k) = none → ∀ f, Q0 (uA M 19 f)) (h1 : ∀ mm f, tkM u (2 ^ k) (2 ^ k) = some mm → (∀ c, c < 2 ^ k → f c = u c) → Q1 (uA M 19 f)) : lX6_bit_114 (nI k) (nI p) (nI i) x4 x5 (nI (2 ^ k)) Q0 Q1 M 0 0 := by
  have pk := pw_le hk.2
  generalize 2 ^ k = n at *
  unfold lX6_bit_114
  refine lp_of (I := fun q => ∃ c mm f, c ≤ n ∧ q = (uA M 19 f, mm, nI c) ∧ tkM u n c = some mm ∧ ∀ j, j < c → f j = u j) (μ := fun q => n - q.2.2.toNatClampNeg) ?_ _ ⟨0, 0, sA M 19, by omega, by rw [uA_self]; rfl, rfl, fun j hj => absurd hj (Nat.not_lt_zero _)⟩
  rintro q ⟨c, mm, f, hc, rfl, hm, hf⟩ K hK
  show bX6_bit_114 (nI k) (nI p) (nI i) x4 x5 (nI n) _ _ _ (uA M 19 f) mm (nI c)
  unfold bX6_bit_114
  by_cases e : c = n
  · subst e
    exact ⟨fun _ => h1 mm _ hm hf, fun q => absurd (nI_le (Nat.le_refl _) (by omega)) q⟩
  · have hcn : c < n := by omega
    have fail : ∀ h : ¬ ((0 ≤ (u c).toInt ∧ (u c).toInt ≤ (n : Int) - 1) ∧ ¬ (mm >>> (u c &&& 31)) &&& 1 = 1), Q0 (uA M 19 f) := by
      intro h
      refine h0 ?_ _
      have := tkM_none (tkM_n hm h) (n - (c + 1))
      rw [show c + 1 + (n - (c + 1)) = n by omega] at this
      exact this
    have e4 : sA (uA M 19 f) 4 (64 * p + i + c) = u c := hu c hcn
    rw [ix64, nI_add, nI_clamp (show 64 * p + i + c < 2 ^ 31 by omega), nI_s1, e4]
    refine ⟨fun q => absurd q (nI_ge hcn (by omega)), fun _ => ⟨vp_in_nI (by omega) (by omega), ?_⟩⟩
    rintro _ rfl
    rw [in_iff, Int32.toInt_toInt64, Int32.toInt_toInt64, tI_pred (by omega), l64_0]
    by_cases g : 0 ≤ (u c).toInt ∧ (u c).toInt ≤ (n : Int) - 1
    · rw [if_pos g]
      refine ⟨fun q => absurd q (by decide), fun _ => ⟨fun q => fail (fun q2 => q2.2 q), fun q => ?_⟩⟩
      rintro _ rfl
      refine ⟨vp_in_nI (by omega) (by omega), ?_⟩
      rintro _ rfl _ rfl
      refine hK _ ⟨c + 1, _, upd f c (u c), by omega, ?_, tkM_y hm g q, fun j hj => ?_⟩ ?_
      · rw [nI_clamp (by omega), uA_uA]
        rfl
      · by_cases q2 : j = c
        · rw [q2]
          exact upd_same _ _ _
        · rw [upd_other _ _ q2]
          exact hf j (by omega)
      · show n - (nI (c + 1)).toNatClampNeg < n - (nI c).toNatClampNeg
        rw [nI_clamp (by omega), nI_clamp (by omega)]
        omega
    · rw [if_neg g]
      exact ⟨fun _ => fail (fun q2 => g q2.1), fun q => absurd rfl q⟩
