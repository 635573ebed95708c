def pX5_within (x0 : Int32) (x1 : Int32) (x2 : Int32) (Q : Int32 → Prop) : Prop :=
  (x0 < x1 → Q 0) ∧ (¬ x0 < x1 → (x2 < x0 → Q 0) ∧ (¬ x2 < x0 → Q 1))
def pX5_isSheet (x0 : Int32) (Q : Int32 → Prop) : Prop :=
  pX5_within x0 0 7 (fun r4 => (narrow .boolean (.int r4) = .int r4) ∧ Q r4)
def pX5_isPlace (x0 : Int32) (Q : Int32 → Prop) : Prop :=
  pX5_within x0 0 5 (fun r3 => (narrow .boolean (.int r3) = .int r3) ∧ Q r3)
def pX5_isKind (x0 : Int32) (Q : Int32 → Prop) : Prop :=
  pX5_within x0 0 3 (fun r3 => (narrow .boolean (.int r3) = .int r3) ∧ Q r3)
def pX5_countsAs (x0 : Int32) (x1 : Int32) (Q : Int32 → Prop) : Prop :=
  (x1 = x0 → Q 1) ∧ (¬ x1 = x0 → (x1 = 0 → Q 1) ∧ (¬ x1 = 0 → (x1 = 1 → (x0 = 2 → Q 1) ∧ (¬ x0 = 2 → Q 0)) ∧ (¬ x1 = 1 → Q 0)))
def pX3_other (x0 : Int32) (Q : Int32 → Prop) : Prop :=
  Q (x0 ^^^ 1)
def pX6_in (x0 : Int64) (x2 : Int64) (x4 : Int64) (Q : Int32 → Prop) : Prop :=
  ((lg_cmp x0 x2) < 0 → Q 0) ∧ (¬ (lg_cmp x0 x2) < 0 → (0 < (lg_cmp x0 x4) → Q 0) ∧ (¬ 0 < (lg_cmp x0 x4) → Q 1))
def pX6_isSheet (x0 : Int32) (Q : Int32 → Prop) : Prop :=
  pX6_in x0.toInt64 0 7 (fun r6 => (narrow .boolean (.int r6) = .int r6) ∧ Q r6)
def pX6_isPlace (x0 : Int32) (Q : Int32 → Prop) : Prop :=
  pX6_in x0.toInt64 0 5 (fun r6 => (narrow .boolean (.int r6) = .int r6) ∧ Q r6)
def pX6_isOf (x0 : Int32) (x1 : Int32) (Q : Int32 → Prop) : Prop :=
  (x1 = 0 → Q 1) ∧ (¬ x1 = 0 → (x0 = x1 → Q 1) ∧ (¬ x0 = x1 → (x1 = 1 → (x0 = 2 → Q 1) ∧ (¬ x0 = 2 → Q 0)) ∧ (¬ x1 = 1 → Q 0)))
