/-! the relation between the class's state and the model's -/
def RS (f : Nat → Option Ob) (la ma it : Nat → Int32) : Prop := ∀ i, i < 8 → match f i with
  | none => la i = -1
  | some z => (0 ≤ (la i).toInt ∧ (la i).toInt ≤ 2) ∧ sF z.2.2.2 0 = la i ∧ ma i = nI (z.2.2.1 1) ∧ z.2.2.1 1 ≤ 64 ∧ ∀ j, j < z.2.2.1 1 → sA z.2.2.2 1 j = it (64 * i + j)
theorem RS_none {f : Nat → Option Ob} {la ma it : Nat → Int32} (h : RS f la ma it) {i : Nat} (hi : i < 8) (hf : f i = none) : la i = -1 := by
  have := h i hi
  rw [hf] at this
  exact this
theorem RS_some {f : Nat → Option Ob} {la ma it : Nat → Int32} (h : RS f la ma it) {i : Nat} (hi : i < 8) {o : Nat} {a l : Nat → Nat} {t : St} (hf : f i = some (o, a, l, t)) : (0 ≤ (la i).toInt ∧ (la i).toInt ≤ 2) ∧ sF t 0 = la i ∧ ma i = nI (l 1) ∧ l 1 ≤ 64 ∧ ∀ j, j < l 1 → sA t 1 j = it (64 * i + j) := by
  have := h i hi
  rw [hf] at this
  exact this
theorem holds_iff {l : Nat → Nat} {t : St} {i n : Int32} {Q : Int32 → Prop} (hl : l 1 ≤ 64) : pX4_holds l t i n Q ↔ Q (if 0 ≤ i.toInt ∧ 0 ≤ n.toInt ∧ i.toInt + n.toInt ≤ (l 1 : Int) then 1 else 0) := by
  have e1 : (Int32.ofNat (l 1)).toInt = (l 1 : Int) := nI_toInt (n := l 1) (by omega)
  unfold pX4_holds
  simp only [lt_toInt, e1, Int32.toInt_zero]
  by_cases h1 : i.toInt < 0
  · rw [if_neg (by omega)]
    exact ⟨fun h => h.1 h1, fun h => ⟨fun _ => h, fun q => absurd h1 q⟩⟩
  · by_cases h2 : n.toInt < 0
    · rw [if_neg (by omega)]
      exact ⟨fun h => (h.2 h1).1 h2, fun h => ⟨fun q => absurd q h1, fun _ => ⟨fun _ => h, fun q => absurd h2 q⟩⟩⟩
    · by_cases h3 : (l 1 : Int) < n.toInt
      · rw [if_neg (by omega)]
        exact ⟨fun h => ((h.2 h1).2 h2).1 h3, fun h => ⟨fun q => absurd q h1, fun _ => ⟨fun q => absurd q h2, fun _ => ⟨fun _ => h, fun q => absurd h3 q⟩⟩⟩⟩
      · have e2 : (Int32.ofNat (l 1) - n).toInt = (l 1 : Int) - n.toInt := by
          rw [Int32.toInt_sub, e1]
          apply Int.bmod_eq_of_le <;> omega
        rw [e2]
        by_cases h4 : (l 1 : Int) - n.toInt < i.toInt
        · rw [if_neg (by omega)]
          exact ⟨fun h => (((h.2 h1).2 h2).2 h3).1 h4, fun h => ⟨fun q => absurd q h1, fun _ => ⟨fun q => absurd q h2, fun _ => ⟨fun q => absurd q h3, fun _ => ⟨fun _ => h, fun q => absurd h4 q⟩⟩⟩⟩⟩
        · rw [if_pos (by omega)]
          exact ⟨fun h => (((h.2 h1).2 h2).2 h3).2 h4, fun h => ⟨fun q => absurd q h1, fun _ => ⟨fun q => absurd q h2, fun _ => ⟨fun q => absurd q h3, fun _ => ⟨fun q => absurd q h4, fun _ => h⟩⟩⟩⟩⟩
/-- a net: middle ones, lines each, switches, which are dead, the calls by line in: (line out, middle one) -/
abbrev NSt : Type := Nat × Nat × Nat × (Nat → Bool) × (Nat → Option (Nat × Nat))
def nM (N : NSt) : Nat := N.1
def nL (N : NSt) : Nat := N.2.1
def nR (N : NSt) : Nat := N.2.2.1
def nD (N : NSt) : Nat → Bool := N.2.2.2.1
def nC (N : NSt) : Nat → Option (Nat × Nat) := N.2.2.2.2
/-- how many of the first k hold -/
def cnt (f : Nat → Bool) : Nat → Nat
  | 0 => 0
  | k + 1 => cnt f k + (if f k then 1 else 0)
def NWf (N : NSt) : Prop :=
  (1 ≤ nM N ∧ nM N ≤ 12) ∧ (1 ≤ nL N ∧ nL N ≤ 6) ∧ (1 ≤ nR N ∧ nR N ≤ 6) ∧
  (∀ a, nR N * nL N ≤ a → nC N a = none) ∧
  (∀ a b x, nC N a = some (b, x) → b < nR N * nL N ∧ x < nM N ∧ nD N x = false) ∧
  (∀ a a2 b x x2, nC N a = some (b, x) → nC N a2 = some (b, x2) → a = a2) ∧
  (∀ a a2 b b2 x, nC N a = some (b, x) → nC N a2 = some (b2, x) → a / nL N = a2 / nL N → a = a2) ∧
  (∀ a a2 b b2 x, nC N a = some (b, x) → nC N a2 = some (b2, x) → b / nL N = b2 / nL N → a = a2)
def CRep (N : NSt) (l : Nat → Nat) (t : St) : Prop :=
  (sF t 0 = nI (nM N) ∧ sF t 1 = nI (nL N) ∧ sF t 2 = nI (nR N) ∧ sF t 3 = nI (nR N * nL N) ∧ sF t 13 = nI (cnt (fun x => !nD N x) (nM N)) ∧ sF t 14 = nI (cnt (fun a => (nC N a).isSome) (nR N * nL N))) ∧
  (l 4 = nM N ∧ l 5 = nR N * nL N ∧ l 6 = nR N * nL N ∧ l 7 = nR N * nL N ∧ l 8 = nM N * nR N ∧ l 9 = nM N * nR N ∧ l 10 = nR N * nL N ∧ l 11 = nR N * nL N ∧ l 12 = nR N * nL N) ∧
  (∀ x, x < nM N → sA t 4 x = if nD N x then 1 else 0) ∧
  (∀ a, a < nR N * nL N → sA t 5 a = match nC N a with | none => -1000000 | some q => nI q.1) ∧
  (∀ a, a < nR N * nL N → sA t 6 a = match nC N a with | none => -1000000 | some q => nI q.2) ∧
  (∀ b, b < nR N * nL N → (sA t 7 b = 1 ∧ ∃ a x, nC N a = some (b, x)) ∨ (sA t 7 b = 0 ∧ ∀ a x, nC N a ≠ some (b, x))) ∧
  (∀ x f, x < nM N → f < nR N → (sA t 8 (x * nR N + f) = -1 ∧ ∀ a b, nC N a = some (b, x) → a / nL N ≠ f) ∨ ∃ a b, sA t 8 (x * nR N + f) = nI a ∧ nC N a = some (b, x) ∧ a / nL N = f) ∧
  (∀ x f, x < nM N → f < nR N → (sA t 9 (x * nR N + f) = -1 ∧ ∀ a b, nC N a = some (b, x) → b / nL N ≠ f) ∨ ∃ a b, sA t 9 (x * nR N + f) = nI a ∧ nC N a = some (b, x) ∧ b / nL N = f)
def MRep (N : NSt) (p : Nat) (md ln ou dd out by_ : Nat → Int32) : Prop :=
  (md p = nI (nM N) ∧ ln p = nI (nL N) ∧ ou p = nI (nR N)) ∧
  (∀ x, x < nM N → dd (12 * p + x) = if nD N x then 1 else 0) ∧
  (∀ a, a < 36 → out (36 * p + a) = match nC N a with | none => -1000000 | some q => nI q.1) ∧
  (∀ a b x, a < 36 → nC N a = some (b, x) → by_ (36 * p + a) = nI x)
def RN (g : Nat → Option Ob) (md ln ou dd out by_ : Nat → Int32) : Prop := ∀ p, p < 6 → match g p with
  | none => md p = 0
  | some z => ∃ N, NWf N ∧ CRep N z.2.2.1 z.2.2.2 ∧ MRep N p md ln ou dd out by_
def RA (sa : St) (tr : Nat → Int32) (n : Int32) : Prop := sF sa 1 = n ∧ ∃ k, k ≤ 16 ∧ n = nI k ∧ ∀ j, j < k → sA sa 0 j = tr j
def Rel (T : TS) (M : St) : Prop := RS (tS T) (sA M 2) (sA M 3) (sA M 4) ∧ RN (tN T) (sA M 5) (sA M 6) (sA M 7) (sA M 8) (sA M 9) (sA M 10) ∧ RA (tA T) (sA M 11) (sF M 12) ∧ sF (tX T) 5 = sF M 1
theorem st_23 : stepOK_23 Rel := by
  intro T M h
  obtain ⟨hS, hN, hA, hF⟩ := h
  simp only [pX5_status, pX6_status, forall_eq]
  exact ⟨hF, hS, hN, hA, hF⟩
theorem l32_0 : (0 : Int32).toInt = 0 := by decide
theorem l32_1 : (1 : Int32).toInt = 1 := by decide
theorem l32_2 : (2 : Int32).toInt = 2 := by decide
theorem l32_6 : (6 : Int32).toInt = 6 := by decide
theorem l32_12 : (12 : Int32).toInt = 12 := by decide
theorem l32_64 : (64 : Int32).toInt = 64 := by decide
theorem l64_0 : (0 : Int64).toInt = 0 := by decide
theorem l64_1 : (1 : Int64).toInt = 1 := by decide
theorem l64_2 : (2 : Int64).toInt = 2 := by decide
theorem l64_6 : (6 : Int64).toInt = 6 := by decide
theorem l64_12 : (12 : Int64).toInt = 12 := by decide
theorem one_ne : ((1 : Int32) = 0) ↔ False := ⟨fun h => absurd h (by decide), False.elim⟩
theorem zero_eq : ((0 : Int32) = 0) ↔ True := ⟨fun _ => trivial, fun _ => rfl⟩
theorem imp_F {P : Prop} : (False → P) ↔ True := ⟨fun _ => trivial, fun _ h => h.elim⟩
theorem imp_T {P : Prop} : (True → P) ↔ P := ⟨fun h => h trivial, fun h _ => h⟩
theorem not_F : (¬ False) ↔ True := ⟨fun _ => trivial, fun _ h => h⟩
theorem not_T : (¬ True) ↔ False := ⟨fun h => h trivial, False.elim⟩
/-- RS when one place is written -/
theorem RS_up {f : Nat → Option Ob} {la ma it la2 ma2 it2 : Nat → Int32} (h : RS f la ma it) {i : Nat} {z : Option Ob} (hz : match z with | none => la2 i = -1 | some z => (0 ≤ (la2 i).toInt ∧ (la2 i).toInt ≤ 2) ∧ sF z.2.2.2 0 = la2 i ∧ ma2 i = nI (z.2.2.1 1) ∧ z.2.2.1 1 ≤ 64 ∧ ∀ j, j < z.2.2.1 1 → sA z.2.2.2 1 j = it2 (64 * i + j))
    (h1 : ∀ j, j < 8 → j ≠ i → la2 j = la j) (h2 : ∀ j, j < 8 → j ≠ i → ma2 j = ma j) (h3 : ∀ j k, j < 8 → j ≠ i → k < 64 → it2 (64 * j + k) = it (64 * j + k)) : RS (va_up f i z) la2 ma2 it2 := by
  intro j hj
  by_cases e : j = i
  · subst e
    rw [show va_up f j z j = z from if_pos rfl]
    exact hz
  · rw [va_up_ne _ _ e]
    have := h j hj
    cases hf : f j with
    | none =>
      rw [hf] at this
      show la2 j = -1
      rw [h1 j hj e]
      exact this
    | some w =>
      rw [hf] at this
      obtain ⟨k1, k2, k3, k4, k5⟩ := this
      refine ⟨by rw [h1 j hj e]; exact k1, by rw [h1 j hj e]; exact k2, by rw [h2 j hj e]; exact k3, k4, fun k hk => ?_⟩
      rw [h3 j k hj e (by omega)]
      exact k5 k hk
/-- the model's loop that empties a sheet's items -/
theorem l_sheet {i : Nat} (hi : i < 8) {x3 : Int32} {K : St → Prop} {M : St} (hK : ∀ it2, (∀ j, it2 j = if 64 * i ≤ j ∧ j < 64 * i + 64 then 0 else sA M 4 j) → K (uA M 4 it2)) : lX6_sheet_65 (nI i) x3 K M 0 := by
  refine lp_of (σ := St × Int32) (I := fun q => ∃ k it, k ≤ 64 ∧ q = (uA M 4 it, nI k) ∧ ∀ j, it j = if 64 * i ≤ j ∧ j < 64 * i + k then 0 else sA M 4 j) (μ := fun q => 64 - q.2.toNatClampNeg) ?_ (M, 0) ⟨0, sA M 4, by omega, ?_, fun j => by rw [if_neg (by omega)]⟩
  · rintro q ⟨k, it, hk, rfl, hit⟩ K2 hK2
    show bX6_sheet_65 (nI i) x3 K _ (uA M 4 it) (nI k)
    unfold bX6_sheet_65
    refine ⟨fun h => ?_, fun h => ?_⟩
    · have h64 : k = 64 := by
        have := (nI_le_iff (a := 64) (b := k) (by omega) (by omega)).mp h
        omega
      subst h64
      exact hK it hit
    · have hlt : k < 64 := by
        exact Nat.lt_of_not_le (fun q => h ((nI_le_iff (a := 64) (b := k) (by omega) (by omega)).mpr q))
      have e : ((64 : Int32) * nI i) + nI k = nI (64 * i + k) := by
        rw [show (64 : Int32) = nI 64 from rfl, nI_mul, nI_add]
      rw [e]
      refine ⟨vp_in_nI (by omega) (by omega), ?_⟩
      rintro _ rfl _ rfl
      refine hK2 _ ⟨k + 1, upd it (64 * i + k) 0, by omega, ?_, fun j => ?_⟩ ?_
      · rw [nI_clamp (by omega)]
        rw [show nI k + 1 = nI (k + 1) from nI_add k 1, uA_uA]
        rfl
      · unfold upd
        by_cases e : j = 64 * i + k
        · rw [if_pos e, if_pos (by omega)]
        · rw [if_neg e, hit j]
          by_cases h2 : 64 * i ≤ j ∧ j < 64 * i + k
          · rw [if_pos h2, if_pos (by omega)]
          · rw [if_neg h2, if_neg (by omega)]
      · show 64 - (nI k + 1).toNatClampNeg < 64 - (nI k).toNatClampNeg
        rw [show nI k + 1 = nI (k + 1) from nI_add k 1, nI_clamp (by omega), nI_clamp (by omega)]
        omega
  · rw [uA_self]
    rfl
theorem in8 {i : Nat} (hi : i < 8) : vp_in (nI i) 8 := vp_in_nI hi (by omega)
theorem in6 {i : Nat} (hi : i < 6) : vp_in (nI i) 6 := vp_in_nI hi (by omega)
theorem cl8 {i : Nat} (hi : i < 8) : (nI i).toNatClampNeg = i := nI_clamp (by omega)
theorem cl6 {i : Nat} (hi : i < 6) : (nI i).toNatClampNeg = i := nI_clamp (by omega)
theorem upd_same (f : Nat → Int32) (k : Nat) (v : Int32) : upd f k v k = v := if_pos rfl
theorem upd_other (f : Nat → Int32) {k j : Nat} (v : Int32) (h : j ≠ k) : upd f k v j = f j := if_neg h
theorem st_0 : stepOK_0 Rel := by
  intro T M a1 a2 a3 h
  obtain ⟨hS, hN, hA, hF⟩ := h
  simp only [pX5_sheet, pX6_sheet, sh5_iff, sh6_iff, within_iff, in_iff, Int32.toInt_toInt64, forall_eq, l32_0, l32_2, l64_0, l64_2, pX5_found, pX6_found, pX5_fine]
  by_cases h1 : 0 ≤ a1.toInt ∧ a1.toInt ≤ 7
  · obtain ⟨i, hi, rfl⟩ := nI_rg (n := 8) h1.1 (by omega) (by omega)
    simp only [if_pos h1, one_ne, imp_F, not_F, imp_T, true_and]
    by_cases h2 : 0 ≤ a2.toInt ∧ a2.toInt ≤ 2
    · simp only [if_pos h2, one_ne, imp_F, not_F, imp_T, true_and]
      by_cases h3 : a3 ≤ 64
      · refine ⟨fun _ => ⟨fun h4 => ?_, fun h4 => ?_⟩, fun q => absurd h3 q⟩
        · have h5 := le_toInt'.mp h3
          have h6 := le_toInt'.mp h4
          rw [l32_64] at h5
          rw [l32_0] at h6
          obtain ⟨n, hn, rfl⟩ := nI_rg (n := 65) h6 (by omega) (by omega)
          refine ⟨fun q => absurd (lt_toInt.mp q) (by rw [l32_0]; omega), by rw [nI_clamp (by omega)]; omega, fun q a => ⟨in8 hi, fun _ => ⟨fun _ => ⟨in8 hi, in8 hi, ?_⟩, fun q => absurd h4 q⟩, fun q => absurd h3 q⟩⟩
          refine l_sheet hi (fun it2 hit => ⟨?_, hN, hA, rfl⟩)
          rw [cl8 hi]
          refine RS_up hS (i := i) ?_ (fun j hj e => upd_other _ _ e) (fun j hj e => upd_other _ _ e) (fun j k hj e hk => ?_)
          · refine ⟨by show 0 ≤ (upd _ i a2 i).toInt ∧ (upd _ i a2 i).toInt ≤ 2; rw [upd_same]; exact h2, ?_, ?_, ?_, fun j hj => ?_⟩
            · show a2 = upd _ i a2 i
              rw [upd_same]
            · show upd _ i (nI n) i = nI ((nI n).toNatClampNeg)
              rw [upd_same, nI_clamp (by omega)]
            · show (nI n).toNatClampNeg ≤ 64
              rw [nI_clamp (by omega)]
              omega
            · have hj2 : j < (nI n).toNatClampNeg := hj
              rw [nI_clamp (by omega)] at hj2
              show (0 : Int32) = it2 (64 * i + j)
              rw [hit, if_pos (by omega)]
          · show it2 (64 * j + k) = sA M 4 (64 * j + k)
            rw [hit, if_neg (by omega)]
            rfl
        · refine ⟨fun _ => ⟨fun q => absurd q h4, fun _ => ⟨hS, hN, hA, rfl⟩⟩, fun q => absurd h3 q⟩
      · exact ⟨fun q => absurd q h3, fun _ => ⟨fun q => absurd q h3, fun _ => ⟨hS, hN, hA, hF⟩⟩⟩
    · simp only [if_neg h2, zero_eq, imp_F, not_T, imp_T, and_true]
      exact ⟨hS, hN, hA, hF⟩
  · simp only [if_neg h1, zero_eq, imp_F, not_T, imp_T, and_true, true_and]
    exact ⟨hS, hN, hA, hF⟩
theorem lane_neg {f : Nat → Option Ob} {la ma it : Nat → Int32} (h : RS f la ma it) {i : Nat} (hi : i < 8) : (f i = none ∧ la i = -1) ∨ ∃ o a l t, f i = some (o, a, l, t) ∧ 0 ≤ (la i).toInt ∧ (la i).toInt ≤ 2 ∧ sF t 0 = la i ∧ ma i = nI (l 1) ∧ l 1 ≤ 64 ∧ ∀ j, j < l 1 → sA t 1 j = it (64 * i + j) := by
  cases hf : f i with
  | none => exact Or.inl ⟨rfl, RS_none h hi hf⟩
  | some z =>
    obtain ⟨o, a, l, t⟩ := z
    obtain ⟨k1, k2, k3, k4, k5⟩ := RS_some h hi hf
    exact Or.inr ⟨o, a, l, t, rfl, k1.1, k1.2, k2, k3, k4, k5⟩
theorem sm_e {α : Type} {z w : α} {P : α → Prop} : (∀ x, some z = some x → P x) ↔ P z := ⟨fun h => h z rfl, fun h x e => by cases e; exact h⟩
theorem ob_e {o : Nat} {a l : Nat → Nat} {t : St} {P : Nat → (Nat → Nat) → (Nat → Nat) → St → Prop} : (∀ (o2 : Nat) (a2 l2 : Nat → Nat) (t2 : St), some (o, a, l, t) = some (o2, a2, l2, t2) → P o2 a2 l2 t2) ↔ P o a l t := ⟨fun h => h o a l t rfl, fun h o2 a2 l2 t2 e => by cases e; exact h⟩
theorem ob_n {P : Nat → (Nat → Nat) → (Nat → Nat) → St → Prop} : (∀ (o2 : Nat) (a2 l2 : Nat → Nat) (t2 : St), (none : Option Ob) = some (o2, a2, l2, t2) → P o2 a2 l2 t2) ↔ True := ⟨fun _ => trivial, fun _ o2 a2 l2 t2 e => by cases e⟩
theorem some_n {z : Ob} : (some z = none) ↔ False := ⟨fun h => (by cases h), False.elim⟩
theorem none_n : ((none : Option Ob) = none) ↔ True := ⟨fun _ => trivial, fun _ => rfl⟩
theorem m1_ge : ((0 : Int32) ≤ -1) ↔ False := ⟨fun h => absurd h (by decide), False.elim⟩
theorem st_3 : stepOK_3 Rel := by
  intro T M a1 h
  obtain ⟨hS, hN, hA, hF⟩ := h
  simp only [pX5_drop, pX6_drop, sh5_iff, sh6_iff, forall_eq, pX5_found, pX6_found, pX5_fine]
  by_cases h1 : 0 ≤ a1.toInt ∧ a1.toInt ≤ 7
  · obtain ⟨i, hi, rfl⟩ := nI_rg (n := 8) h1.1 (by omega) (by omega)
    simp only [if_pos h1, one_ne, imp_F, not_F, imp_T, true_and, cl8 hi, in8 hi, sA_uF]
    rcases lane_neg hS hi with ⟨e1, e2⟩ | ⟨o, a, l, t, e1, k1, k2, k3, k4, k5, k6⟩
    · simp only [e1, e2, none_n, ob_n, imp_T, and_true, m1_ge, imp_F, not_F, true_and]
      exact ⟨hS, hN, hA, rfl⟩
    · have hl : (0 : Int32) ≤ sA M 2 i := le_toInt'.mpr k1
      simp only [e1, some_n, ob_e, imp_F, true_and, hl, imp_T, not_T, and_true]
      refine ⟨?_, ?_, hN, hA, rfl⟩
      · show Int32.ofNat (l 1) = sA M 3 i
        rw [k4]
        rfl
      · refine RS_up hS (i := i) (z := none) (upd_same _ _ _) (fun j hj e => upd_other _ _ e) (fun j hj e => rfl) (fun j k hj e hk => rfl)
  · simp only [if_neg h1, zero_eq, imp_F, not_T, imp_T, and_true, true_and]
    exact ⟨hS, hN, hA, hF⟩
theorem ix64 (i j : Nat) : ((64 : Int32) * nI i) + nI j = nI (64 * i + j) := by
  rw [show (64 : Int32) = nI 64 from rfl, nI_mul, nI_add]
theorem tI_pred {n : Nat} (hn : n ≤ 64) : (nI n - 1).toInt = (n : Int) - 1 := by
  rw [Int32.toInt_sub, nI_toInt (by omega), l32_1]
  apply Int.bmod_eq_of_le <;> omega
theorem RS_put {f : Nat → Option Ob} {la ma it : Nat → Int32} (h : RS f la ma it) {i j : Nat} (hi : i < 8) {o : Nat} {a l : Nat → Nat} {t : St} (hf : f i = some (o, a, l, t)) (hj : j < l 1) (v : Int32) : RS (va_up f i (some (o, a, l, uA t 1 (upd (sA t 1) j v)))) la ma (upd it (64 * i + j) v) := by
  obtain ⟨k1, k2, k3, k4, k5⟩ := RS_some h hi hf
  refine RS_up h (i := i) ⟨k1, k2, k3, k4, fun k hk => ?_⟩ (fun j hj e => rfl) (fun j hj e => rfl) (fun j2 k hj2 e hk => upd_other _ _ (by omega))
  show upd (sA t 1) j v k = upd it (64 * i + j) v (64 * i + k)
  unfold upd
  by_cases e : k = j
  · rw [if_pos e, if_pos (by omega)]
  · rw [if_neg e, if_neg (by omega)]
    exact k5 k hk
theorem st_1 : stepOK_1 Rel := by
  intro T M a1 a2 a3 h
  obtain ⟨hS, hN, hA, hF⟩ := h
  simp only [pX5_set, pX6_set, sh5_iff, sh6_iff, in_iff, forall_eq, pX5_found, pX6_found, pX5_fine, pX4_cutToLane, Int32.toInt_toInt64]
  by_cases h1 : 0 ≤ a1.toInt ∧ a1.toInt ≤ 7
  · obtain ⟨i, hi, rfl⟩ := nI_rg (n := 8) h1.1 (by omega) (by omega)
    simp only [if_pos h1, one_ne, imp_F, not_F, imp_T, true_and, cl8 hi, in8 hi, sA_uF]
    rcases lane_neg hS hi with ⟨e1, e2⟩ | ⟨o, a, l, t, e1, k1, k2, k3, k4, k5, k6⟩
    · simp only [e1, e2, none_n, ob_n, imp_T, and_true, m1_ge, imp_F, not_F, true_and]
      exact ⟨hS, hN, hA, rfl⟩
    · have hl : (0 : Int32) ≤ sA M 2 i := le_toInt'.mpr (by rw [l32_0]; exact k1)
      simp only [e1, some_n, ob_e, imp_F, true_and, hl, imp_T, not_T, and_true, holds_iff k5, k4, tI_pred k5, l64_0, l32_1]
      by_cases hp : 0 ≤ a2.toInt ∧ a2.toInt ≤ (l 1 : Int) - 1
      · obtain ⟨j, hj, rfl⟩ := nI_rg (n := l 1) hp.1 (by omega) (by omega)
        have hin : vp_in (nI j) (l 1) := vp_in_nI hj (by omega)
        have hi5 : vp_in (nI (64 * i + j)) 512 := vp_in_nI (by omega) (by omega)
        have hcj : (nI j).toNatClampNeg = j := nI_clamp (by omega)
        have hck : (nI (64 * i + j)).toNatClampNeg = 64 * i + j := nI_clamp (by omega)
        simp only [if_pos hp, if_pos (show 0 ≤ (nI j).toInt ∧ (0 : Int) ≤ 1 ∧ (nI j).toInt + 1 ≤ (l 1 : Int) by omega), one_ne, imp_F, not_F, imp_T, true_and, hin, ix64, hi5, hcj, hck, k3]
        refine ⟨fun q0 => ?_, fun q0 => ⟨fun q1 => ?_, fun q1 => ?_⟩⟩
        · refine ⟨fun _ => ⟨?_, RS_put hS hi e1 hj _, hN, hA, rfl⟩, fun q => absurd q0 q⟩
          show upd _ j _ j = upd _ (64 * i + j) _ (64 * i + j)
          rw [upd_same, upd_same]
        · refine ⟨fun q => absurd q q0, fun _ => ⟨fun _ => ⟨?_, RS_put hS hi e1 hj _, hN, hA, rfl⟩, fun q => absurd q1 q⟩⟩
          show upd _ j _ j = upd _ (64 * i + j) _ (64 * i + j)
          rw [upd_same, upd_same]
        · refine ⟨fun q => absurd q q0, fun _ => ⟨fun q => absurd q q1, fun _ => ⟨?_, RS_put hS hi e1 hj _, hN, hA, rfl⟩⟩⟩
          show upd _ j _ j = upd _ (64 * i + j) _ (64 * i + j)
          rw [upd_same, upd_same]
      · simp only [if_neg hp, if_neg (show ¬ (0 ≤ a2.toInt ∧ (0 : Int) ≤ 1 ∧ a2.toInt + 1 ≤ (l 1 : Int)) by omega), zero_eq, imp_F, not_T, imp_T, and_true, true_and]
        exact ⟨hS, hN, hA, rfl⟩
  · simp only [if_neg h1, zero_eq, imp_F, not_T, imp_T, and_true, true_and]
    exact ⟨hS, hN, hA, hF⟩
