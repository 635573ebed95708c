def pX2_init  (Q : St → Prop) : Prop :=
  Q ((fun k => match k with | 1 => 0 | 3 => 0 | _ => 0), (fun k => match k with | 0 => (fun _ => 0) | _ => (fun _ => 0)), (fun _ => (fun _ => 0)))
def iwX2 (cy : Nat → ClassId) (o : Nat) (u : (Nat → Nat) × St) : va_W := wX2 cy o u.1 u.2
def iqX2 (Q : St → Prop) (u : (Nat → Nat) × St) : Prop := Q u.2
def pX3_init  (Q : St → Prop) : Prop :=
  Q ((fun _ => 0), (fun k => match k with | 2 => (fun _ => 0) | 3 => (fun _ => 0) | _ => (fun _ => 0)), (fun _ => (fun _ => 0)))
def iwX3 (cy : Nat → ClassId) (o : Nat) (u : (Nat → Nat) × St) : va_W := wX3 cy o u.1 u.2
def iqX3 (Q : St → Prop) (u : (Nat → Nat) × St) : Prop := Q u.2
