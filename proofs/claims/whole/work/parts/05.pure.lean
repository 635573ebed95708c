def pX5_within (x0 : Int32) (x1 : Int32) (x2 : Int32) (Q : Int32 → Prop) : Prop :=
  (x0 < x1 → Q 0) ∧ (¬ x0 < x1 → (x2 < x0 → Q 0) ∧ (¬ x2 < x0 → Q 1))
def pX5_isSheet (x0 : Int32) (Q : Int32 → Prop) : Prop :=
  pX5_within x0 0 7 (fun r4 => (narrow .boolean (.int r4) = .int r4) ∧ Q r4)
def pX5_isPlace (x0 : Int32) (Q : Int32 → Prop) : Prop :=
  pX5_within x0 0 5 (fun r3 => (narrow .boolean (.int r3) = .int r3) ∧ Q r3)
def pX5_isKind (x0 : Int32) (Q : Int32 → Prop) : Prop :=
  pX5_within x0 0 3 (fun r3 => (narrow .boolean (.int r3) = .int r3) ∧ Q r3)
def pX5_countsAs (x0 : Int32) (x1 : Int32) (Q : Int32 → Prop) : Prop :=
  (x1 = x0 → Q 1) ∧ (¬ x1 = x0 → (x1 = 0 → Q 1) ∧ (¬ x1 = 0 → (x1 = 1 → (x0 = 2 → Q 1) ∧ (¬ x0 = 2 → Q 0)) ∧ (¬ x1 = 1 → Q 0)))
def pX3_other (x0 : Int32) (Q : Int32 → Prop) : Prop :=
  Q (x0 ^^^ 1)
def pX6_in (x0 : Int64) (x2 : Int64) (x4 : Int64) (Q : Int32 → Prop) : Prop :=
  ((lg_cmp x0 x2) < 0 → Q 0) ∧ (¬ (lg_cmp x0 x2) < 0 → (0 < (lg_cmp x0 x4) → Q 0) ∧ (¬ 0 < (lg_cmp x0 x4) → Q 1))
def pX6_isSheet (x0 : Int32) (Q : Int32 → Prop) : Prop :=
  pX6_in x0.toInt64 0 7 (fun r6 => (narrow .boolean (.int r6) = .int r6) ∧ Q r6)
def pX6_isPlace (x0 : Int32) (Q : Int32 → Prop) : Prop :=
  pX6_in x0.toInt64 0 5 (fun r6 => (narrow .boolean (.int r6) = .int r6) ∧ Q r6)
def pX6_isOf (x0 : Int32) (x1 : Int32) (Q : Int32 → Prop) : Prop :=
  (x1 = 0 → Q 1) ∧ (¬ x1 = 0 → (x0 = x1 → Q 1) ∧ (¬ x0 = x1 → (x1 = 1 → (x0 = 2 → Q 1) ∧ (¬ x0 = 2 → Q 0)) ∧ (¬ x1 = 1 → Q 0)))
def bX5_crosspoints_13 (rec : Int32 → Int32 → Int32 → (Int32 → Prop) → Prop)  (x0 : Int32) (x1 : Int32) (x2 : Int32) (k83 : Int32 → Prop) (kH : Int32 → Int32 → Prop) (x3 : Int32) (x4 : Int32) : Prop :=
  (x0 ≤ x4 → k83 x3) ∧ (¬ x0 ≤ x4 → (¬ x4 = 0) ∧ ((x0 - x0 / x4 * x4) = 0 → (¬ x4 = 0) ∧ ∀ x5_30 : Int32, x5_30 = (x0 / x4) → (x2 = 0 → rec x5_30 (x1 - 1) x2 (fun r68 => ∀ v73 : Int32, v73 = (if ((((2 * x5_30) * x4) * x4) + (x4 * r68)) < x3 then ((((2 * x5_30) * x4) * x4) + (x4 * r68)) else x3) → ∀ x4_77 : Int32, x4_77 = x4 + 1 → kH v73 x4_77)) ∧ (¬ x2 = 0 → ∀ x6_47 : Int32, x6_47 = ((2 * x4) - 1) → rec x5_30 (x1 - 1) x2 (fun r68 => ∀ v73 : Int32, v73 = (if ((((2 * x5_30) * x4) * x6_47) + (x6_47 * r68)) < x3 then ((((2 * x5_30) * x4) * x6_47) + (x6_47 * r68)) else x3) → ∀ x4_77 : Int32, x4_77 = x4 + 1 → kH v73 x4_77))) ∧ (¬ (x0 - x0 / x4 * x4) = 0 → ∀ x4_77 : Int32, x4_77 = x4 + 1 → kH x3 x4_77))
def lX5_crosspoints_13 (rec : Int32 → Int32 → Int32 → (Int32 → Prop) → Prop)  (x0 : Int32) (x1 : Int32) (x2 : Int32) (k83 : Int32 → Prop) (x3 : Int32) (x4 : Int32) : Prop := lp (σ := Int32 × Int32) (fun K q => bX5_crosspoints_13 rec x0 x1 x2 k83 (fun x3 x4 => K (x3, x4)) q.1 q.2) (x3, x4)
def pbX5_crosspoints (rec : Int32 → Int32 → Int32 → (Int32 → Prop) → Prop) (x0 : Int32) (x1 : Int32) (x2 : Int32) (Q : Int32 → Prop) : Prop :=
  ∀ x3_3 : Int32, x3_3 = (x0 * x0) → (0 < x1 → lX5_crosspoints_13 rec x0 x1 x2 (fun (z83_3 : Int32) => Q z83_3) x3_3 2) ∧ (¬ 0 < x1 → Q x3_3)
def pnX5_crosspoints : Nat → Int32 → Int32 → Int32 → (Int32 → Prop) → Prop
  | 0 => fun _ _ _ _ => False
  | n + 1 => pbX5_crosspoints (pnX5_crosspoints n) 
def pX5_crosspoints (x0 : Int32) (x1 : Int32) (x2 : Int32) (Q : Int32 → Prop) : Prop := pnX5_crosspoints 4 x0 x1 x2 Q
