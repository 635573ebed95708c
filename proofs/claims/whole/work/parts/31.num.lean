/-! numbers: Int32 by Nat -/
theorem nI_mul (a b : Nat) : nI a * nI b = nI (a * b) := (Int32.ofNat_mul a b).symm
theorem nI_sub {a b : Nat} (h : b ≤ a) : nI a - nI b = nI (a - b) := by
  have e : nI (a - b) + nI b = nI a := by rw [nI_add, Nat.sub_add_cancel h]
  rw [← e, Int32.add_sub_cancel]
theorem nI_lt_iff {a b : Nat} (ha : a < 2 ^ 31) (hb : b < 2 ^ 31) : nI a < nI b ↔ a < b := by
  rw [Int32.lt_iff_toInt_lt, nI_toInt ha, nI_toInt hb]
  omega
theorem nI_le_iff {a b : Nat} (ha : a < 2 ^ 31) (hb : b < 2 ^ 31) : nI a ≤ nI b ↔ a ≤ b := by
  rw [Int32.le_iff_toInt_le, nI_toInt ha, nI_toInt hb]
  omega
theorem nI_eq_iff {a b : Nat} (ha : a < 2 ^ 31) (hb : b < 2 ^ 31) : nI a = nI b ↔ a = b := by
  rw [← Int32.toInt_inj, nI_toInt ha, nI_toInt hb]
  omega
theorem nI_div {a b : Nat} (ha : a < 2 ^ 31) (hb : b < 2 ^ 31) : nI a / nI b = nI (a / b) := by
  have h1 : a / b ≤ a := Nat.div_le_self a b
  rw [← Int32.toInt_inj, Int32.toInt_div, nI_toInt ha, nI_toInt hb, nI_toInt (by omega), ← Int.ofNat_tdiv]
  generalize a / b = c at h1 ⊢
  apply Int.bmod_eq_of_le <;> omega
theorem nI_rem {a b : Nat} (ha : a < 2 ^ 31) (hb : b < 2 ^ 31) : nI a - nI a / nI b * nI b = nI (a % b) := by
  rw [nI_div ha hb, nI_mul, nI_sub (by rw [Nat.mul_comm]; exact Nat.mul_div_le a b)]
  congr 1
  have := Nat.div_add_mod a b
  rw [Nat.mul_comm] at this
  omega
theorem nI_rg {x : Int32} {n : Nat} (h0 : 0 ≤ x.toInt) (h1 : x.toInt < n) (hn : n ≤ 2 ^ 31) : ∃ i : Nat, i < n ∧ x = nI i := by
  refine ⟨x.toInt.toNat, by omega, ?_⟩
  rw [← Int32.toInt_inj, nI_toInt (by omega)]
  omega
theorem lt_toInt {x y : Int32} : x < y ↔ x.toInt < y.toInt := Int32.lt_iff_toInt_lt
theorem le_toInt' {x y : Int32} : x ≤ y ↔ x.toInt ≤ y.toInt := Int32.le_iff_toInt_le
theorem cmp_lt (x y : Int64) : lg_cmp x y < 0 ↔ x < y := lg_cmp_lt x y
theorem cmp_gt (x y : Int64) : 0 < lg_cmp x y ↔ y < x := lg_cmp_gt x y
/-! within -/
theorem within_iff {x a b : Int32} {Q : Int32 → Prop} : pX5_within x a b Q ↔ Q (if a.toInt ≤ x.toInt ∧ x.toInt ≤ b.toInt then 1 else 0) := by
  unfold pX5_within
  simp only [lt_toInt]
  by_cases h1 : x.toInt < a.toInt
  · rw [if_neg (by omega)]
    exact ⟨fun h => h.1 h1, fun h => ⟨fun _ => h, fun q => absurd h1 q⟩⟩
  · by_cases h2 : b.toInt < x.toInt
    · rw [if_neg (by omega)]
      exact ⟨fun h => (h.2 h1).1 h2, fun h => ⟨fun q => absurd q h1, fun _ => ⟨fun _ => h, fun q => absurd h2 q⟩⟩⟩
    · rw [if_pos (by omega)]
      exact ⟨fun h => (h.2 h1).2 h2, fun h => ⟨fun q => absurd q h1, fun _ => ⟨fun q => absurd q h2, fun _ => h⟩⟩⟩
theorem in_iff {x a b : Int64} {Q : Int32 → Prop} : pX6_in x a b Q ↔ Q (if a.toInt ≤ x.toInt ∧ x.toInt ≤ b.toInt then 1 else 0) := by
  unfold pX6_in
  simp only [cmp_lt, cmp_gt, Int64.lt_iff_toInt_lt]
  by_cases h1 : x.toInt < a.toInt
  · rw [if_neg (by omega)]
    exact ⟨fun h => h.1 h1, fun h => ⟨fun _ => h, fun q => absurd h1 q⟩⟩
  · by_cases h2 : b.toInt < x.toInt
    · rw [if_neg (by omega)]
      exact ⟨fun h => (h.2 h1).1 h2, fun h => ⟨fun q => absurd q h1, fun _ => ⟨fun _ => h, fun q => absurd h2 q⟩⟩⟩
    · rw [if_pos (by omega)]
      exact ⟨fun h => (h.2 h1).2 h2, fun h => ⟨fun q => absurd q h1, fun _ => ⟨fun q => absurd q h2, fun _ => h⟩⟩⟩
theorem nar_bit (P : Prop) [Decidable P] : narrow .boolean (.int (if P then 1 else 0)) = .int (if P then 1 else 0) := by
  by_cases h : P
  · rw [if_pos h]; rfl
  · rw [if_neg h]; rfl
theorem bit_ne (P : Prop) [Decidable P] : ((if P then 1 else 0 : Int32) = 0) ↔ ¬ P := by
  by_cases h : P
  · rw [if_pos h]; exact ⟨fun q => absurd q (by decide), fun q => absurd h q⟩
  · rw [if_neg h]; exact ⟨fun _ => h, fun _ => rfl⟩
theorem sh5_iff {x : Int32} {Q : Int32 → Prop} : pX5_isSheet x Q ↔ Q (if 0 ≤ x.toInt ∧ x.toInt ≤ 7 then 1 else 0) := by
  unfold pX5_isSheet
  rw [within_iff]
  exact ⟨fun h => h.2, fun h => ⟨nar_bit _, h⟩⟩
theorem pl5_iff {x : Int32} {Q : Int32 → Prop} : pX5_isPlace x Q ↔ Q (if 0 ≤ x.toInt ∧ x.toInt ≤ 5 then 1 else 0) := by
  unfold pX5_isPlace
  rw [within_iff]
  exact ⟨fun h => h.2, fun h => ⟨nar_bit _, h⟩⟩
theorem kd5_iff {x : Int32} {Q : Int32 → Prop} : pX5_isKind x Q ↔ Q (if 0 ≤ x.toInt ∧ x.toInt ≤ 3 then 1 else 0) := by
  unfold pX5_isKind
  rw [within_iff]
  exact ⟨fun h => h.2, fun h => ⟨nar_bit _, h⟩⟩
theorem sh6_iff {x : Int32} {Q : Int32 → Prop} : pX6_isSheet x Q ↔ Q (if 0 ≤ x.toInt ∧ x.toInt ≤ 7 then 1 else 0) := by
  unfold pX6_isSheet
  rw [in_iff, Int32.toInt_toInt64]
  exact ⟨fun h => h.2, fun h => ⟨nar_bit _, h⟩⟩
theorem pl6_iff {x : Int32} {Q : Int32 → Prop} : pX6_isPlace x Q ↔ Q (if 0 ≤ x.toInt ∧ x.toInt ≤ 5 then 1 else 0) := by
  unfold pX6_isPlace
  rw [in_iff, Int32.toInt_toInt64]
  exact ⟨fun h => h.2, fun h => ⟨nar_bit _, h⟩⟩
theorem va_upup {α : Type} (f : Nat → α) (k : Nat) (v w : α) : va_up (va_up f k v) k w = va_up f k w := by
  funext j
  by_cases h : j = k <;> simp [va_up, h]
theorem va_upself {α : Type} (f : Nat → α) (k : Nat) : va_up f k (f k) = f := by
  funext j
  by_cases h : j = k <;> simp [va_up, h]
theorem uA_uA (s : St) (k : Nat) (f g : Nat → Int32) : uA (uA s k f) k g = uA s k g := by
  show (s.1, va_up (va_up s.2.1 k f) k g, s.2.2) = (s.1, va_up s.2.1 k g, s.2.2)
  rw [va_upup]
theorem uA_self (s : St) (k : Nat) : uA s k (sA s k) = s := by
  show (s.1, va_up s.2.1 k (s.2.1 k), s.2.2) = s
  rw [va_upself]
theorem uF_uF (s : St) (k : Nat) (v w : Int32) : uF (uF s k v) k w = uF s k w := by
  show (va_up (va_up s.1 k v) k w, s.2.1, s.2.2) = (va_up s.1 k w, s.2.1, s.2.2)
  rw [va_upup]
theorem uF_self (s : St) (k : Nat) : uF s k (sF s k) = s := by
  show (va_up s.1 k (s.1 k), s.2.1, s.2.2) = s
  rw [va_upself]
