/-! a table with one sum in all its rows and columns has an order above 0 -/
def sN (f : Nat → Nat) : Nat → Nat
  | 0 => 0
  | k + 1 => sN f k + f k
theorem sN_s (f : Nat → Nat) (k : Nat) : sN f (k + 1) = sN f k + f k := rfl
theorem sN_congr {f g : Nat → Nat} : ∀ {k : Nat}, (∀ i, i < k → f i = g i) → sN f k = sN g k
  | 0, _ => rfl
  | k + 1, h => by rw [sN_s, sN_s, sN_congr (k := k) (fun i hi => h i (by omega)), h k (by omega)]
theorem sN_le {f g : Nat → Nat} : ∀ {k : Nat}, (∀ i, i < k → f i ≤ g i) → sN f k ≤ sN g k
  | 0, _ => Nat.le_refl _
  | k + 1, h => by
    have h1 := sN_le (k := k) (fun i hi => h i (by omega))
    have h2 := h k (by omega)
    rw [sN_s, sN_s]
    omega
theorem sN_add (f g : Nat → Nat) : ∀ k, sN (fun i => f i + g i) k = sN f k + sN g k
  | 0 => rfl
  | k + 1 => by
    rw [sN_s, sN_s, sN_s, sN_add f g k]
    omega
theorem sN_zero {f : Nat → Nat} {k : Nat} (h : ∀ i, i < k → f i = 0) : sN f k = 0 := by
  rw [sN_congr (g := fun _ => 0) h]
  clear h
  induction k with
  | zero => rfl
  | succ k ih => rw [sN_s, ih]
theorem sN_swap (a : Nat → Nat → Nat) (n : Nat) : ∀ m, sN (fun i => sN (fun j => a i j) n) m = sN (fun j => sN (fun i => a i j) m) n
  | 0 => (sN_zero (fun _ _ => rfl)).symm
  | m + 1 => by
    rw [sN_s, sN_swap a n m, ← sN_add]
    exact sN_congr (fun i hi => rfl)
theorem sN_ind (P : Nat → Bool) (c : Nat) : ∀ k, sN (fun i => if P i = true then c else 0) k = cnt P k * c
  | 0 => by rw [show cnt P 0 = 0 from rfl, Nat.zero_mul]; rfl
  | k + 1 => by
    rw [sN_s, sN_ind P c k, cnt_s, Nat.add_mul]
    congr 1
    by_cases e : P k = true
    · rw [if_pos e, if_pos e, Nat.one_mul]
    · rw [if_neg e, if_neg e, Nat.zero_mul]
theorem cnt_imp {f g : Nat → Bool} : ∀ {k : Nat}, (∀ i, i < k → f i = true → g i = true) → cnt f k ≤ cnt g k
  | 0, _ => Nat.le_refl _
  | k + 1, h => by
    have h1 := cnt_imp (k := k) (fun i hi => h i (by omega))
    have h2 := h k (by omega)
    rw [cnt_s, cnt_s]
    cases e : f k with
    | false => simp only [Bool.false_eq_true, if_false]; omega
    | true => rw [h2 e]; omega
theorem cnt_or {f g h : Nat → Bool} : ∀ {k : Nat}, (∀ i, i < k → h i = true → f i = true ∨ g i = true) → cnt h k ≤ cnt f k + cnt g k
  | 0, _ => Nat.le_refl _
  | k + 1, q => by
    have h1 := cnt_or (k := k) (fun i hi => q i (by omega))
    have h2 := q k (by omega)
    rw [cnt_s, cnt_s, cnt_s]
    cases e : h k with
    | false => simp only [Bool.false_eq_true, if_false]; omega
    | true =>
      rcases h2 e with e2 | e2
      · rw [e2]; simp only [if_true]; omega
      · rw [e2]; simp only [if_true]; omega
theorem cnt_dis {f g h : Nat → Bool} : ∀ {k : Nat}, (∀ i, i < k → (f i = true → h i = true ∧ g i = false) ∧ (g i = true → h i = true)) → cnt f k + cnt g k ≤ cnt h k
  | 0, _ => Nat.le_refl _
  | k + 1, q => by
    have h1 := cnt_dis (k := k) (fun i hi => q i (by omega))
    obtain ⟨h2, h3⟩ := q k (by omega)
    rw [cnt_s, cnt_s, cnt_s]
    cases e : f k with
    | true =>
      obtain ⟨a, b⟩ := h2 e
      rw [a, b]
      simp only [if_true, Bool.false_eq_true, if_false]
      omega
    | false =>
      cases e2 : g k with
      | true => rw [h3 e2]; simp only [if_true, Bool.false_eq_true, if_false]; omega
      | false => simp only [Bool.false_eq_true, if_false]; omega
theorem cnt_ex {f : Nat → Bool} : ∀ {k : Nat}, 0 < cnt f k → ∃ i, i < k ∧ f i = true
  | 0, h => absurd h (Nat.lt_irrefl _)
  | k + 1, h => by
    cases e : f k with
    | true => exact ⟨k, by omega, e⟩
    | false =>
      rw [cnt_s, e] at h
      obtain ⟨i, h1, h2⟩ := cnt_ex (k := k) (by simpa using h)
      exact ⟨i, by omega, h2⟩
theorem cnt_in {f : Nat → Bool} {k i : Nat} (hi : i < k) (h : f i = true) : 0 < cnt f k := by
  have e : cnt f (i + 1) = cnt f i + 1 := by rw [cnt_s, h]; rfl
  have := cnt_mo (f := f) (show i + 1 ≤ k by omega)
  omega
theorem cnt_1 (a : Nat) : ∀ k, cnt (fun i => decide (i = a)) k ≤ 1 ∧ (k ≤ a → cnt (fun i => decide (i = a)) k = 0)
  | 0 => ⟨Nat.zero_le _, fun _ => rfl⟩
  | k + 1 => by
    obtain ⟨h1, h2⟩ := cnt_1 a k
    have e : cnt (fun i => decide (i = a)) (k + 1) = cnt (fun i => decide (i = a)) k + (if decide (k = a) = true then 1 else 0) := rfl
    by_cases q : k = a
    · rw [e, decide_eq_true q, h2 (by omega)]
      exact ⟨Nat.le_refl _, fun h => by omega⟩
    · rw [e, decide_eq_false q]
      exact ⟨h1, fun h => h2 (by omega)⟩
def nb (s : Nat) (E : Nat → Nat → Bool) (X Y : Nat → Bool) (y : Nat) : Bool := Y y && anyT (fun x => X x && E x y) s
theorem nb_iff {s : Nat} {E : Nat → Nat → Bool} {X Y : Nat → Bool} {y : Nat} : nb s E X Y y = true ↔ Y y = true ∧ ∃ x, x < s ∧ X x = true ∧ E x y = true := by
  unfold nb
  rw [Bool.and_eq_true, anyT_iff]
  simp only [Bool.and_eq_true]
def HC (s : Nat) (E : Nat → Nat → Bool) (X Y : Nat → Bool) : Prop := ∀ Z : Nat → Bool, (∀ i, i < s → Z i = true → X i = true) → cnt Z s ≤ cnt (nb s E Z Y) s
theorem hall (s : Nat) (E : Nat → Nat → Bool) : ∀ (n : Nat) (X Y : Nat → Bool), cnt X s ≤ n → HC s E X Y → ∃ f : Nat → Nat, (∀ x, x < s → X x = true → f x < s ∧ Y (f x) = true ∧ E x (f x) = true) ∧ ∀ x x2, x < s → x2 < s → X x = true → X x2 = true → f x = f x2 → x = x2 := by
  intro n
  induction n with
  | zero =>
    intro X Y hn hH
    have no : ∀ x, x < s → X x = true → False := fun x hx h => by have := cnt_in hx h; omega
    exact ⟨fun _ => 0, fun x hx h => (no x hx h).elim, fun x x2 hx _ h => (no x hx h).elim⟩
  | succ n ih =>
    intro X Y hn hH
    rcases Classical.em (∃ x, x < s ∧ X x = true) with ⟨x0, hx0, h0⟩ | hno
    · rcases Classical.em (∃ Z : Nat → Bool, (∀ i, i < s → Z i = true → X i = true) ∧ 0 < cnt Z s ∧ cnt Z s < cnt X s ∧ cnt (nb s E Z Y) s ≤ cnt Z s) with ⟨Z, z1, z2, z3, z4⟩ | hc
      · obtain ⟨f1, a1, a2⟩ := ih Z Y (by omega) (fun W hW => hH W (fun i hi q => z1 i hi (hW i hi q)))
        have c2 : cnt (fun x => X x && !Z x) s + cnt Z s ≤ cnt X s := cnt_dis (fun i hi => ⟨fun q => by
          rw [Bool.and_eq_true, Bool.not_eq_true'] at q
          exact q, fun q => z1 i hi q⟩)
        obtain ⟨f2, b1, b2⟩ := ih (fun x => X x && !Z x) (fun y => Y y && !nb s E Z Y y) (by omega) (fun W hW => by
          have e1 : cnt W s + cnt Z s ≤ cnt (fun x => W x || Z x) s := cnt_dis (fun i hi => ⟨fun q => by
            have := hW i hi q
            rw [Bool.and_eq_true, Bool.not_eq_true'] at this
            exact ⟨by rw [q]; rfl, this.2⟩, fun q => by rw [q, Bool.or_true]⟩)
          have e2 := hH (fun x => W x || Z x) (fun i hi q => by
            rw [Bool.or_eq_true] at q
            rcases q with q | q
            · have := hW i hi q
              rw [Bool.and_eq_true] at this
              exact this.1
            · exact z1 i hi q)
          have e3 : cnt (nb s E (fun x => W x || Z x) Y) s ≤ cnt (nb s E W (fun y => Y y && !nb s E Z Y y)) s + cnt (nb s E Z Y) s := cnt_or (fun y hy q => by
            obtain ⟨q1, x, q2, q3, q4⟩ := nb_iff.mp q
            cases e : nb s E Z Y y with
            | true => exact Or.inr rfl
            | false =>
              left
              refine nb_iff.mpr ⟨by rw [q1, e]; rfl, x, q2, ?_, q4⟩
              rw [Bool.or_eq_true] at q3
              rcases q3 with q3 | q3
              · exact q3
              · have := nb_iff.mpr ⟨q1, x, q2, q3, q4⟩
                rw [e] at this
                cases this)
          omega)
        refine ⟨fun x => if Z x = true then f1 x else f2 x, fun x hx h => ?_, fun x x2 hx hx2 h h2 q => ?_⟩
        · cases e : Z x with
          | true =>
            show (if Z x = true then f1 x else f2 x) < s ∧ _
            simp only [e, if_true]
            exact a1 x hx e
          | false =>
            obtain ⟨q1, q2, q3⟩ := b1 x hx (by rw [h, e]; rfl)
            rw [Bool.and_eq_true] at q2
            simp only [e, Bool.false_eq_true, if_false]
            exact ⟨q1, q2.1, q3⟩
        · have cross : ∀ u v, u < s → v < s → Z u = true → Z v = false → X v = true → f1 u ≠ f2 v := by
            intro u v hu hv zu zv xv q
            obtain ⟨q1, q2, q3⟩ := a1 u hu zu
            obtain ⟨p1, p2, p3⟩ := b1 v hv (by rw [xv, zv]; rfl)
            rw [Bool.and_eq_true, Bool.not_eq_true'] at p2
            have := nb_iff.mpr ⟨q2, u, hu, zu, q3⟩
            rw [q, p2.2] at this
            cases this
          cases e : Z x with
          | true =>
            cases e2 : Z x2 with
            | true =>
              simp only [e, e2, if_true] at q
              exact a2 x x2 hx hx2 e e2 q
            | false =>
              simp only [e, e2, if_true, Bool.false_eq_true, if_false] at q
              exact absurd q (cross x x2 hx hx2 e e2 h2)
          | false =>
            cases e2 : Z x2 with
            | true =>
              simp only [e, e2, if_true, Bool.false_eq_true, if_false] at q
              exact absurd q.symm (cross x2 x hx2 hx e2 e h)
            | false =>
              simp only [e, e2, Bool.false_eq_true, if_false] at q
              exact b2 x x2 hx hx2 (by rw [h, e]; rfl) (by rw [h2, e2]; rfl) q
      · have one : 0 < cnt (fun i => decide (i = x0)) s := cnt_in hx0 (decide_eq_true rfl)
        have hh := hH (fun i => decide (i = x0)) (fun i hi q => by rw [of_decide_eq_true q]; exact h0)
        obtain ⟨y0, hy0, q0⟩ := cnt_ex (f := nb s E (fun i => decide (i = x0)) Y) (k := s) (by omega)
        obtain ⟨yY, x', hx', ex', hE'⟩ := nb_iff.mp q0
        have ex0 : x' = x0 := of_decide_eq_true ex'
        subst ex0
        have c2 : cnt (fun x => X x && !decide (x = x')) s + cnt (fun i => decide (i = x')) s ≤ cnt X s := cnt_dis (fun i hi => ⟨fun q => by
          rw [Bool.and_eq_true, Bool.not_eq_true'] at q
          exact q, fun q => by rw [of_decide_eq_true q]; exact h0⟩)
        obtain ⟨f2, b1, b2⟩ := ih (fun x => X x && !decide (x = x')) (fun y => Y y && !decide (y = y0)) (by omega) (fun W hW => by
          have wX : cnt W s ≤ cnt (fun x => X x && !decide (x = x')) s := cnt_imp hW
          by_cases w0 : cnt W s = 0
          · omega
          · have hlt : cnt W s < cnt (nb s E W Y) s := by
              refine Nat.lt_of_not_le (fun q => hc ⟨W, fun i hi q2 => ?_, by omega, by omega, q⟩)
              have := hW i hi q2
              rw [Bool.and_eq_true] at this
              exact this.1
            have e3 : cnt (nb s E W Y) s ≤ cnt (nb s E W (fun y => Y y && !decide (y = y0))) s + cnt (fun i => decide (i = y0)) s := cnt_or (fun y hy q => by
              obtain ⟨q1, x, q2, q3, q4⟩ := nb_iff.mp q
              by_cases e : y = y0
              · exact Or.inr (decide_eq_true e)
              · exact Or.inl (nb_iff.mpr ⟨by rw [q1, decide_eq_false e]; rfl, x, q2, q3, q4⟩))
            have := (cnt_1 y0 s).1
            omega)
        refine ⟨fun x => if x = x' then y0 else f2 x, fun x hx h => ?_, fun x x2 hx hx2 h h2 q => ?_⟩
        · by_cases e : x = x'
          · simp only [if_pos e]
            exact ⟨hy0, yY, by rw [e]; exact hE'⟩
          · simp only [if_neg e]
            obtain ⟨q1, q2, q3⟩ := b1 x hx (by rw [h, decide_eq_false e]; rfl)
            rw [Bool.and_eq_true] at q2
            exact ⟨q1, q2.1, q3⟩
        · have cross : ∀ v, v < s → v ≠ x' → X v = true → f2 v ≠ y0 := by
            intro v hv e xv q
            obtain ⟨p1, p2, p3⟩ := b1 v hv (by rw [xv, decide_eq_false e]; rfl)
            rw [Bool.and_eq_true, Bool.not_eq_true'] at p2
            exact of_decide_eq_false p2.2 q
          by_cases e : x = x'
          · by_cases e2 : x2 = x'
            · rw [e, e2]
            · simp only [if_pos e, if_neg e2] at q
              exact absurd q.symm (cross x2 hx2 e2 h2)
          · by_cases e2 : x2 = x'
            · simp only [if_neg e, if_pos e2] at q
              exact absurd q (cross x hx e h)
            · simp only [if_neg e, if_neg e2] at q
              exact b2 x x2 hx hx2 (by rw [h, decide_eq_false e]; rfl) (by rw [h2, decide_eq_false e2]; rfl) q
    · exact ⟨fun _ => 0, fun x hx h => absurd ⟨x, hx, h⟩ hno, fun x x2 hx _ h => absurd ⟨x, hx, h⟩ hno⟩
theorem regular {s N : Nat} {A : Nat → Nat → Nat} (hN : 0 < N) (hr : ∀ i, i < s → sN (fun j => A i j) s = N) (hcol : ∀ j, j < s → sN (fun i => A i j) s = N) : ∃ r, prm s r ∧ ∀ i, i < s → 0 < A i (r i) := by
  obtain ⟨f, f1, f2⟩ := hall s (fun x y => decide (0 < A x y)) s (fun _ => true) (fun _ => true) (cnt_le _ _) (fun Z _ => by
    have e1 : cnt Z s * N = sN (fun i => sN (fun j => if Z i = true then A i j else 0) s) s := by
      rw [← sN_ind Z N s]
      refine sN_congr (fun i hi => ?_)
      by_cases e : Z i = true
      · rw [if_pos e, ← hr i hi]
        exact sN_congr (fun j hj => by rw [if_pos e])
      · rw [if_neg e]
        exact (sN_zero (fun j hj => by rw [if_neg e])).symm
    have e2 : sN (fun j => sN (fun i => if Z i = true then A i j else 0) s) s ≤ cnt (nb s (fun x y => decide (0 < A x y)) Z (fun _ => true)) s * N := by
      rw [← sN_ind _ N s]
      refine sN_le (fun j hj => ?_)
      by_cases e : nb s (fun x y => decide (0 < A x y)) Z (fun _ => true) j = true
      · rw [if_pos e, ← hcol j hj]
        refine sN_le (fun i hi => ?_)
        by_cases e2 : Z i = true
        · rw [if_pos e2]
          exact Nat.le_refl _
        · rw [if_neg e2]
          exact Nat.zero_le _
      · rw [if_neg e]
        refine Nat.le_of_eq (sN_zero (fun i hi => ?_))
        by_cases e2 : Z i = true
        · rw [if_pos e2]
          refine Nat.eq_zero_of_not_pos (fun q => e (nb_iff.mpr ⟨rfl, i, hi, e2, decide_eq_true q⟩))
        · rw [if_neg e2]
    rw [sN_swap] at e1
    rw [← e1] at e2
    exact Nat.le_of_mul_le_mul_right e2 hN)
  refine ⟨f, ⟨fun i hi => (f1 i hi rfl).1, fun i j hi hj q => f2 i j hi hj rfl rfl q⟩, fun i hi => of_decide_eq_true (f1 i hi rfl).2.2⟩
