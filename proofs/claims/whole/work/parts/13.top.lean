/-! The top level: an object with its sheets and nets -/
abbrev Ob : Type := Nat × (Nat → Nat) × (Nat → Nat) × St
abbrev TS : Type := St × (Nat → Option Ob) × (Nat → Option Ob) × St × St × St
def tX (T : TS) : St := T.1
def tS (T : TS) : Nat → Option Ob := T.2.1
def tN (T : TS) : Nat → Option Ob := T.2.2.1
def tA (T : TS) : St := T.2.2.2.1
def tR (T : TS) : St := T.2.2.2.2.1
def tP (T : TS) : St := T.2.2.2.2.2
def uX (T : TS) (v : St) : TS := (v, T.2)
def uS (T : TS) (i : Nat) (z : Option Ob) : TS := (T.1, va_up T.2.1 i z, T.2.2)
def uN (T : TS) (i : Nat) (z : Option Ob) : TS := (T.1, T.2.1, va_up T.2.2.1 i z, T.2.2.2)
def uK (T : TS) (v : St) : TS := (T.1, T.2.1, T.2.2.1, v, T.2.2.2.2)
def uR (T : TS) (v : St) : TS := (T.1, T.2.1, T.2.2.1, T.2.2.2.1, v, T.2.2.2.2.2)
def uP (T : TS) (v : St) : TS := (T.1, T.2.1, T.2.2.1, T.2.2.2.1, T.2.2.2.2.1, v)
def wSh (cy : Nat → ClassId) (z : Option Ob) : va_W := match z with
  | none => []
  | some z => wX4 cy z.1 z.2.1 z.2.2.1 z.2.2.2
def wNt (cy : Nat → ClassId) (z : Option Ob) : va_W := match z with
  | none => []
  | some z => wX1 cy z.1 z.2.1 z.2.2.1 z.2.2.2
def qOf (f : Nat → Option Ob) : Nat → Option Nat := fun i => (f i).map Prod.fst
def fsX5 (ad : Nat → Nat) (oa or_ op : Nat) (s : St) : List Value := [.ref (ad 0), .ref (ad 1), .ref oa, .ref or_, .ref op, .int (sF s 5)]
/-- the object's own cells -/
def w5B (cy : Nat → ClassId) (o : Nat) (ad : Nat → Nat) (oa or_ op : Nat) (s : St) (f g : Nat → Option Nat) : va_W := [(o, .inr (5, fsX5 ad oa or_ op s)), (ad 0, .inl (cy 4, 8, .inr (.inr (.inr (.inr f))))), (ad 1, .inl (cy 5, 6, .inr (.inr (.inr (.inr g)))))]
def w5S (cy : Nat → ClassId) (f : Nat → Option Ob) : va_W := (List.range 8).flatMap (fun i => wSh cy (f i))
def w5N (cy : Nat → ClassId) (f : Nat → Option Ob) : va_W := (List.range 6).flatMap (fun i => wNt cy (f i))
def wX5 (cy : Nat → ClassId) (o : Nat) (ad : Nat → Nat) (oa : Nat) (aa : Nat → Nat) (or_ : Nat) (ar : Nat → Nat) (op : Nat) (ap : Nat → Nat) (T : TS) : va_W :=
  w5B cy o ad oa or_ op (tX T) (qOf (tS T)) (qOf (tN T)) ++ (wX0 cy oa aa (tA T) ++ (wX3 cy or_ ar (tR T) ++ (wX2 cy op ap (tP T) ++ (w5S cy (tS T) ++ w5N cy (tN T)))))
theorem fm_perm {β : Type} (g : Nat → List β) (i : Nat) : ∀ (L : List Nat), L.Nodup → i ∈ L → (L.flatMap g).Perm (g i ++ (L.filter (fun j => decide (j ≠ i))).flatMap g)
  | [], _, h => absurd h List.not_mem_nil
  | a :: L, hn, h => by
    rw [List.nodup_cons] at hn
    by_cases e : a = i
    · subst e
      have hf : L.filter (fun j => decide (j ≠ a)) = L := List.filter_eq_self.mpr (fun j hj => decide_eq_true (fun q => hn.1 (q ▸ hj)))
      rw [List.flatMap_cons, List.filter_cons_of_neg (by simp), hf]
    · have hi : i ∈ L := by
        rcases List.mem_cons.mp h with q | q
        · exact absurd q.symm e
        · exact q
      rw [List.flatMap_cons, List.filter_cons_of_pos (by simp [e]), List.flatMap_cons]
      have h1 := (fm_perm g i L hn.2 hi).append_left (g a)
      refine h1.trans ?_
      rw [← List.append_assoc, ← List.append_assoc]
      exact List.perm_append_comm.append_right _
theorem fm_same {β : Type} (g g2 : Nat → List β) (i : Nat) (L : List Nat) (h : ∀ j, j ≠ i → g j = g2 j) : (L.filter (fun j => decide (j ≠ i))).flatMap g = (L.filter (fun j => decide (j ≠ i))).flatMap g2 := by
  induction L with
  | nil => rfl
  | cons a L ih =>
    by_cases e : a = i
    · rw [List.filter_cons_of_neg (by simp [e])]
      exact ih
    · rw [List.filter_cons_of_pos (by simp [e]), List.flatMap_cons, List.flatMap_cons, ih, h a e]
theorem pull1 {β : Type} {x a b : List β} : (a ++ (x ++ b)).Perm (x ++ (a ++ b)) := by
  rw [← List.append_assoc, ← List.append_assoc]
  exact List.perm_append_comm.append_right _
theorem pull2 {β : Type} {x a b c : List β} : (a ++ (b ++ (x ++ c))).Perm (x ++ (a ++ (b ++ c))) := (pull1.append_left a).trans pull1
theorem pull3 {β : Type} {x a b c d : List β} : (a ++ (b ++ (c ++ (x ++ d)))).Perm (x ++ (a ++ (b ++ (c ++ d)))) := (pull2.append_left a).trans pull1
theorem pull4 {β : Type} {x a b c d e : List β} : (a ++ (b ++ (c ++ (d ++ (x ++ e))))).Perm (x ++ (a ++ (b ++ (c ++ (d ++ e))))) := (pull3.append_left a).trans pull1
theorem pull5 {β : Type} {x a b c d e f : List β} : (a ++ (b ++ (c ++ (d ++ (e ++ (x ++ f)))))).Perm (x ++ (a ++ (b ++ (c ++ (d ++ (e ++ f)))))) := (pull4.append_left a).trans pull1
def w5Sr (cy : Nat → ClassId) (f : Nat → Option Ob) (i : Nat) : va_W := ((List.range 8).filter (fun j => decide (j ≠ i))).flatMap (fun i => wSh cy (f i))
def w5Nr (cy : Nat → ClassId) (f : Nat → Option Ob) (i : Nat) : va_W := ((List.range 6).filter (fun j => decide (j ≠ i))).flatMap (fun i => wNt cy (f i))
theorem w5S_at {cy : Nat → ClassId} {f : Nat → Option Ob} {i : Nat} (hi : i < 8) : (w5S cy f).Perm (wSh cy (f i) ++ w5Sr cy f i) := fm_perm _ i _ List.nodup_range (List.mem_range.mpr hi)
theorem w5N_at {cy : Nat → ClassId} {f : Nat → Option Ob} {i : Nat} (hi : i < 6) : (w5N cy f).Perm (wNt cy (f i) ++ w5Nr cy f i) := fm_perm _ i _ List.nodup_range (List.mem_range.mpr hi)
theorem w5Sr_up {cy : Nat → ClassId} {f : Nat → Option Ob} {i : Nat} {z : Option Ob} : w5Sr cy (va_up f i z) i = w5Sr cy f i := fm_same _ _ i _ (fun j hj => by show wSh cy (va_up f i z j) = _; rw [va_up_ne _ _ hj])
theorem w5Nr_up {cy : Nat → ClassId} {f : Nat → Option Ob} {i : Nat} {z : Option Ob} : w5Nr cy (va_up f i z) i = w5Nr cy f i := fm_same _ _ i _ (fun j hj => by show wNt cy (va_up f i z j) = _; rw [va_up_ne _ _ hj])
theorem qOf_up {f : Nat → Option Ob} {i : Nat} {z : Option Ob} : qOf (va_up f i z) = va_up (qOf f) i (z.map Prod.fst) := by
  funext j
  by_cases e : j = i
  · subst e; simp [qOf, va_up]
  · simp [qOf, va_up, e]
theorem qOf_same {f : Nat → Option Ob} {i : Nat} {z z2 : Ob} (h : f i = some z) (he : z2.1 = z.1) : qOf (va_up f i (some z2)) = qOf f := by
  funext j
  by_cases e : j = i
  · subst e; simp [qOf, va_up, h, he]
  · simp [qOf, va_up, e]
section FOC
variable (cy : Nat → ClassId) (o : Nat) (ad : Nat → Nat) (oa : Nat) (aa : Nat → Nat) (or_ : Nat) (ar : Nat → Nat) (op : Nat) (ap : Nat → Nat) (T : TS)
def r5A : va_W := w5B cy o ad oa or_ op (tX T) (qOf (tS T)) (qOf (tN T)) ++ (wX3 cy or_ ar (tR T) ++ (wX2 cy op ap (tP T) ++ (w5S cy (tS T) ++ w5N cy (tN T))))
def r5R : va_W := w5B cy o ad oa or_ op (tX T) (qOf (tS T)) (qOf (tN T)) ++ (wX0 cy oa aa (tA T) ++ (wX2 cy op ap (tP T) ++ (w5S cy (tS T) ++ w5N cy (tN T))))
def r5P : va_W := w5B cy o ad oa or_ op (tX T) (qOf (tS T)) (qOf (tN T)) ++ (wX0 cy oa aa (tA T) ++ (wX3 cy or_ ar (tR T) ++ (w5S cy (tS T) ++ w5N cy (tN T))))
def r5S (i : Nat) : va_W := w5B cy o ad oa or_ op (tX T) (qOf (tS T)) (qOf (tN T)) ++ (wX0 cy oa aa (tA T) ++ (wX3 cy or_ ar (tR T) ++ (wX2 cy op ap (tP T) ++ (w5Sr cy (tS T) i ++ w5N cy (tN T)))))
def r5N (i : Nat) : va_W := w5B cy o ad oa or_ op (tX T) (qOf (tS T)) (qOf (tN T)) ++ (wX0 cy oa aa (tA T) ++ (wX3 cy or_ ar (tR T) ++ (wX2 cy op ap (tP T) ++ (w5S cy (tS T) ++ w5Nr cy (tN T) i))))
theorem foA : (wX5 cy o ad oa aa or_ ar op ap T).Perm (wX0 cy oa aa (tA T) ++ r5A cy o ad oa or_ ar op ap T) := pull1
theorem foR : (wX5 cy o ad oa aa or_ ar op ap T).Perm (wX3 cy or_ ar (tR T) ++ r5R cy o ad oa aa or_ op ap T) := pull2
theorem foP : (wX5 cy o ad oa aa or_ ar op ap T).Perm (wX2 cy op ap (tP T) ++ r5P cy o ad oa aa or_ ar op T) := pull3
theorem foS {i : Nat} (hi : i < 8) {z : Option Ob} (hz : tS T i = z) : (wX5 cy o ad oa aa or_ ar op ap T).Perm (wSh cy z ++ r5S cy o ad oa aa or_ ar op ap T i) := by
  subst hz
  refine ((((((w5S_at hi).append_right _).append_left _).append_left _).append_left _).append_left _).trans ?_
  rw [List.append_assoc]
  exact pull4
theorem foN {i : Nat} (hi : i < 6) {z : Option Ob} (hz : tN T i = z) : (wX5 cy o ad oa aa or_ ar op ap T).Perm (wNt cy z ++ r5N cy o ad oa aa or_ ar op ap T i) := by
  subst hz
  refine ((((((w5N_at hi).append_left _).append_left _).append_left _).append_left _).append_left _).trans ?_
  exact pull5
theorem foA' (v : St) : (wX5 cy o ad oa aa or_ ar op ap (uK T v)).Perm (wX0 cy oa aa v ++ r5A cy o ad oa or_ ar op ap T) := foA cy o ad oa aa or_ ar op ap (uK T v)
theorem foR' (v : St) : (wX5 cy o ad oa aa or_ ar op ap (uR T v)).Perm (wX3 cy or_ ar v ++ r5R cy o ad oa aa or_ op ap T) := foR cy o ad oa aa or_ ar op ap (uR T v)
theorem foP' (v : St) : (wX5 cy o ad oa aa or_ ar op ap (uP T v)).Perm (wX2 cy op ap v ++ r5P cy o ad oa aa or_ ar op T) := foP cy o ad oa aa or_ ar op ap (uP T v)
theorem r5S_up {i : Nat} {z z2 : Ob} (hz : tS T i = some z) (he : z2.1 = z.1) : r5S cy o ad oa aa or_ ar op ap (uS T i (some z2)) i = r5S cy o ad oa aa or_ ar op ap T i := by
  show w5B cy o ad oa or_ op (tX T) (qOf (va_up (tS T) i (some z2))) (qOf (tN T)) ++ (wX0 cy oa aa (tA T) ++ (wX3 cy or_ ar (tR T) ++ (wX2 cy op ap (tP T) ++ (w5Sr cy (va_up (tS T) i (some z2)) i ++ w5N cy (tN T))))) = _
  rw [qOf_same hz he, w5Sr_up]
  rfl
theorem r5N_up {i : Nat} {z z2 : Ob} (hz : tN T i = some z) (he : z2.1 = z.1) : r5N cy o ad oa aa or_ ar op ap (uN T i (some z2)) i = r5N cy o ad oa aa or_ ar op ap T i := by
  show w5B cy o ad oa or_ op (tX T) (qOf (tS T)) (qOf (va_up (tN T) i (some z2))) ++ (wX0 cy oa aa (tA T) ++ (wX3 cy or_ ar (tR T) ++ (wX2 cy op ap (tP T) ++ (w5S cy (tS T) ++ w5Nr cy (va_up (tN T) i (some z2)) i)))) = _
  rw [qOf_same hz he, w5Nr_up]
  rfl
theorem foS' {i : Nat} (hi : i < 8) {a : Nat} {b d : Nat → Nat} {v : St} (hz : tS T i = some (a, b, d, v)) (u : St) : (wX5 cy o ad oa aa or_ ar op ap (uS T i (some (a, b, d, u)))).Perm (wX4 cy a b d u ++ r5S cy o ad oa aa or_ ar op ap T i) := by
  have h := foS cy o ad oa aa or_ ar op ap (uS T i (some (a, b, d, u))) hi (z := some (a, b, d, u)) (by exact if_pos rfl)
  rw [r5S_up cy o ad oa aa or_ ar op ap T hz (by rfl)] at h
  exact h
theorem foN' {i : Nat} (hi : i < 6) {a : Nat} {b d : Nat → Nat} {v : St} (hz : tN T i = some (a, b, d, v)) (u : St) : (wX5 cy o ad oa aa or_ ar op ap (uN T i (some (a, b, d, u)))).Perm (wX1 cy a b d u ++ r5N cy o ad oa aa or_ ar op ap T i) := by
  have h := foN cy o ad oa aa or_ ar op ap (uN T i (some (a, b, d, u))) hi (z := some (a, b, d, u)) (by exact if_pos rfl)
  rw [r5N_up cy o ad oa aa or_ ar op ap T hz (by rfl)] at h
  exact h
/-! two parts at once -/
def r5RS (i : Nat) : va_W := w5B cy o ad oa or_ op (tX T) (qOf (tS T)) (qOf (tN T)) ++ (wX0 cy oa aa (tA T) ++ (wX2 cy op ap (tP T) ++ (w5Sr cy (tS T) i ++ w5N cy (tN T))))
theorem foRS {i : Nat} (hi : i < 8) {a : Nat} {b d : Nat → Nat} {v : St} (hz : tS T i = some (a, b, d, v)) : (wX5 cy o ad oa aa or_ ar op ap T).Perm (wX34 cy or_ ar a b d (tR T, v) ++ r5RS cy o ad oa aa or_ op ap T i) := by
  refine (foS cy o ad oa aa or_ ar op ap T hi hz).trans ?_
  refine ((pull2 (x := wX3 cy or_ ar (tR T))).append_left _).trans ?_
  show (wX4 cy a b d v ++ _).Perm ((wX3 cy or_ ar (tR T) ++ wX4 cy a b d v) ++ _)
  rw [List.append_assoc]
  exact pull1
theorem foRS' {i : Nat} (hi : i < 8) {a : Nat} {b d : Nat → Nat} {v : St} (hz : tS T i = some (a, b, d, v)) (u : St × St) : (wX5 cy o ad oa aa or_ ar op ap (uR (uS T i (some (a, b, d, u.2))) u.1)).Perm (wX34 cy or_ ar a b d u ++ r5RS cy o ad oa aa or_ op ap T i) := by
  have h := foRS cy o ad oa aa or_ ar op ap (uR (uS T i (some (a, b, d, u.2))) u.1) hi (a := a) (b := b) (d := d) (v := u.2) (by exact if_pos rfl)
  have e : r5RS cy o ad oa aa or_ op ap (uR (uS T i (some (a, b, d, u.2))) u.1) i = r5RS cy o ad oa aa or_ op ap T i := by
    show w5B cy o ad oa or_ op (tX T) (qOf (va_up (tS T) i _)) (qOf (tN T)) ++ (wX0 cy oa aa (tA T) ++ (wX2 cy op ap (tP T) ++ (w5Sr cy (va_up (tS T) i _) i ++ w5N cy (tN T)))) = _
    rw [qOf_same hz (by rfl), w5Sr_up]
    rfl
  rw [e] at h
  exact h
def r5PS (i : Nat) : va_W := w5B cy o ad oa or_ op (tX T) (qOf (tS T)) (qOf (tN T)) ++ (wX0 cy oa aa (tA T) ++ (wX3 cy or_ ar (tR T) ++ (w5Sr cy (tS T) i ++ w5N cy (tN T))))
theorem foPS {i : Nat} (hi : i < 8) {a : Nat} {b d : Nat → Nat} {v : St} (hz : tS T i = some (a, b, d, v)) : (wX5 cy o ad oa aa or_ ar op ap T).Perm (wX24 cy op ap a b d (tP T, v) ++ r5PS cy o ad oa aa or_ ar op T i) := by
  refine (foS cy o ad oa aa or_ ar op ap T hi hz).trans ?_
  refine ((pull3 (x := wX2 cy op ap (tP T))).append_left _).trans ?_
  show (wX4 cy a b d v ++ _).Perm ((wX2 cy op ap (tP T) ++ wX4 cy a b d v) ++ _)
  rw [List.append_assoc]
  exact pull1
theorem foPS' {i : Nat} (hi : i < 8) {a : Nat} {b d : Nat → Nat} {v : St} (hz : tS T i = some (a, b, d, v)) (u : St × St) : (wX5 cy o ad oa aa or_ ar op ap (uP (uS T i (some (a, b, d, u.2))) u.1)).Perm (wX24 cy op ap a b d u ++ r5PS cy o ad oa aa or_ ar op T i) := by
  have h := foPS cy o ad oa aa or_ ar op ap (uP (uS T i (some (a, b, d, u.2))) u.1) hi (a := a) (b := b) (d := d) (v := u.2) (by exact if_pos rfl)
  have e : r5PS cy o ad oa aa or_ ar op (uP (uS T i (some (a, b, d, u.2))) u.1) i = r5PS cy o ad oa aa or_ ar op T i := by
    show w5B cy o ad oa or_ op (tX T) (qOf (va_up (tS T) i _)) (qOf (tN T)) ++ (wX0 cy oa aa (tA T) ++ (wX3 cy or_ ar (tR T) ++ (w5Sr cy (va_up (tS T) i _) i ++ w5N cy (tN T)))) = _
    rw [qOf_same hz (by rfl), w5Sr_up]
    rfl
  rw [e] at h
  exact h
def r5AN (i : Nat) : va_W := w5B cy o ad oa or_ op (tX T) (qOf (tS T)) (qOf (tN T)) ++ (wX3 cy or_ ar (tR T) ++ (wX2 cy op ap (tP T) ++ (w5S cy (tS T) ++ w5Nr cy (tN T) i)))
theorem foAN {i : Nat} (hi : i < 6) {a : Nat} {b d : Nat → Nat} {v : St} (hz : tN T i = some (a, b, d, v)) : (wX5 cy o ad oa aa or_ ar op ap T).Perm (wX01 cy oa aa a b d (tA T, v) ++ r5AN cy o ad oa or_ ar op ap T i) := by
  refine (foN cy o ad oa aa or_ ar op ap T hi hz).trans ?_
  refine ((pull1 (x := wX0 cy oa aa (tA T))).append_left _).trans ?_
  show (wX1 cy a b d v ++ _).Perm ((wX0 cy oa aa (tA T) ++ wX1 cy a b d v) ++ _)
  rw [List.append_assoc]
  exact pull1
theorem foAN' {i : Nat} (hi : i < 6) {a : Nat} {b d : Nat → Nat} {v : St} (hz : tN T i = some (a, b, d, v)) (u : St × St) : (wX5 cy o ad oa aa or_ ar op ap (uK (uN T i (some (a, b, d, u.2))) u.1)).Perm (wX01 cy oa aa a b d u ++ r5AN cy o ad oa or_ ar op ap T i) := by
  have h := foAN cy o ad oa aa or_ ar op ap (uK (uN T i (some (a, b, d, u.2))) u.1) hi (a := a) (b := b) (d := d) (v := u.2) (by exact if_pos rfl)
  have e : r5AN cy o ad oa or_ ar op ap (uK (uN T i (some (a, b, d, u.2))) u.1) i = r5AN cy o ad oa or_ ar op ap T i := by
    show w5B cy o ad oa or_ op (tX T) (qOf (tS T)) (qOf (va_up (tN T) i _)) ++ (wX3 cy or_ ar (tR T) ++ (wX2 cy op ap (tP T) ++ (w5S cy (tS T) ++ w5Nr cy (va_up (tN T) i _) i))) = _
    rw [qOf_same hz (by rfl), w5Nr_up]
    rfl
  rw [e] at h
  exact h
/-! the object's own cells -/
theorem g5 : (wX5 cy o ad oa aa or_ ar op ap T)[0]? = some (o, .inr (5, fsX5 ad oa or_ op (tX T))) := rfl
theorem g5S : (wX5 cy o ad oa aa or_ ar op ap T)[1]? = some (ad 0, .inl (cy 4, 8, .inr (.inr (.inr (.inr (qOf (tS T))))))) := rfl
theorem g5N : (wX5 cy o ad oa aa or_ ar op ap T)[2]? = some (ad 1, .inl (cy 5, 6, .inr (.inr (.inr (.inr (qOf (tN T))))))) := rfl
theorem p5 (v : Int32) : (wX5 cy o ad oa aa or_ ar op ap T).set 0 (o, .inr (5, (fsX5 ad oa or_ op (tX T)).set 5 (.int v))) = wX5 cy o ad oa aa or_ ar op ap (uX T (uF (tX T) 5 v)) := rfl
end FOC
section AQ
variable {p : Program} {l : Launch} {e : Env} {R : Room} {s0 : State} {m : MethodId} {args : Array Value} {below : List Frame} {meth : Method} {c : Code} {cells slots : Nat} {Z : State → Prop} {nL : Nat} {I : Heap → List Loc → Prop} {lv : List (Nat × Value)} {st : List Value} {pc : Nat}
variable {cc : ByteArray} {own : String} {ws : List Cond} {D : va_G} {A : Nat → Prop} {H0 : Heap} {cy : Nat → ClassId}
theorem aw_aaldS (C : ctB p s0 m args c cc nL own ws) (K : ctK s0 D A H0 cy) {w0 : va_W} (hdg : decode cc pc = .ok (.aaload, 1)) (q0 t0 : Nat) {a n : Nat} {cA : ClassId} {Cn : String} {f : Nat → Option Nat} {i : Int32} (ha : w0[q0]? = some (a, .inl (cA, n, .inr (.inr (.inr (.inr f)))))) (ht : (tyW cy)[t0]? = some (cA, .object Cn)) (hin : vp_in i n) {r : Nat} (hf : f i.toNatClampNeg = some r) (kk : atG p l e R s0 m args below meth c cells slots Z nL (iW D A H0 w0) lv (.ref r :: st) (pc + 1)) : atG p l e R s0 m args below meth c cells slots Z nL (iW D A H0 w0) lv (.int i :: .ref a :: st) pc := by
  intro H locs ls hI hl
  have h := kk H locs ls hI hl
  refine va_aldq C.1 C.2.1 K.1 hI.1 q0 t0 ha ht hin hdg ?_
  rw [hf]
  exact h
theorem aw_aaldN (C : ctB p s0 m args c cc nL own ws) (K : ctK s0 D A H0 cy) {w0 : va_W} (hdg : decode cc pc = .ok (.aaload, 1)) (q0 t0 : Nat) {a n : Nat} {cA : ClassId} {Cn : String} {f : Nat → Option Nat} {i : Int32} (ha : w0[q0]? = some (a, .inl (cA, n, .inr (.inr (.inr (.inr f)))))) (ht : (tyW cy)[t0]? = some (cA, .object Cn)) (hin : vp_in i n) (hf : f i.toNatClampNeg = none) (kk : atG p l e R s0 m args below meth c cells slots Z nL (iW D A H0 w0) lv (.null :: st) (pc + 1)) : atG p l e R s0 m args below meth c cells slots Z nL (iW D A H0 w0) lv (.int i :: .ref a :: st) pc := by
  intro H locs ls hI hl
  have h := kk H locs ls hI hl
  refine va_aldq C.1 C.2.1 K.1 hI.1 q0 t0 ha ht hin hdg ?_
  rw [hf]
  exact h
theorem aw_ifnull (C : ctB p s0 m args c cc nL own ws) {x : Nat} {off : Int} (hdg : decode cc pc = .ok (.ifnull off, 3)) (kk : atG p l e R s0 m args below meth c cells slots Z nL I lv st (pc + 3)) : atG p l e R s0 m args below meth c cells slots Z nL I lv (.ref x :: st) pc := fun H locs ls hI hl => lv_ifnull C.1 C.2.1 hdg (kk H locs ls hI hl)
theorem aw_ifnonnull (C : ctB p s0 m args c cc nL own ws) {x : Nat} {off : Int} {tgt : Nat} (hdg : decode cc pc = .ok (.ifnonnull off, 3)) (ht : (pc : Int) + off = (tgt : Int)) (kk : atG p l e R s0 m args below meth c cells slots Z nL I lv st tgt) : atG p l e R s0 m args below meth c cells slots Z nL I lv (.ref x :: st) pc := fun H locs ls hI hl => lv_ifnonnull C.1 C.2.1 hdg ht (kk H locs ls hI hl)
theorem aw_ifnullN (C : ctB p s0 m args c cc nL own ws) {off : Int} {tgt : Nat} (hdg : decode cc pc = .ok (.ifnull off, 3)) (ht : (pc : Int) + off = (tgt : Int)) (kk : atG p l e R s0 m args below meth c cells slots Z nL I lv st tgt) : atG p l e R s0 m args below meth c cells slots Z nL I lv (.null :: st) pc := fun H locs ls hI hl => lv_ifnullN C.1 C.2.1 hdg ht (kk H locs ls hI hl)
theorem aw_ifnonnullN (C : ctB p s0 m args c cc nL own ws) {off : Int} (hdg : decode cc pc = .ok (.ifnonnull off, 3)) (kk : atG p l e R s0 m args below meth c cells slots Z nL I lv st (pc + 3)) : atG p l e R s0 m args below meth c cells slots Z nL I lv (.null :: st) pc := fun H locs ls hI hl => lv_ifnonnullN C.1 C.2.1 hdg (kk H locs ls hI hl)
end AQ
theorem uS_self {T : TS} {i : Nat} {z : Option Ob} (hz : tS T i = z) : uS T i z = T := by
  obtain ⟨a, b, d⟩ := T
  have h : va_up b i z = b := by
    funext j
    by_cases e : j = i
    · subst e; rw [← hz]; exact if_pos rfl
    · exact if_neg e
  show (a, va_up b i z, d) = _
  rw [h]
theorem uN_self {T : TS} {i : Nat} {z : Option Ob} (hz : tN T i = z) : uN T i z = T := by
  obtain ⟨a, b, b2, d⟩ := T
  have h : va_up b2 i z = b2 := by
    funext j
    by_cases e : j = i
    · subst e; rw [← hz]; exact if_pos rfl
    · exact if_neg e
  show (a, b, va_up b2 i z, d) = _
  rw [h]
theorem swap4 {β : Type} {B a b c S S2 Sr N X Y : List β} (h1 : S.Perm (Y ++ Sr)) (h2 : S2.Perm (X ++ Sr)) : ((B ++ (a ++ (b ++ (c ++ (S ++ N))))) ++ X).Perm ((B ++ (a ++ (b ++ (c ++ (S2 ++ N))))) ++ Y) := by
  have k1 : (B ++ (a ++ (b ++ (c ++ (S ++ N))))).Perm (Y ++ (B ++ (a ++ (b ++ (c ++ (Sr ++ N)))))) := by
    refine (((((h1.append_right _).append_left _).append_left _).append_left _).append_left _).trans ?_
    rw [List.append_assoc]
    exact pull4
  have k2 : (B ++ (a ++ (b ++ (c ++ (S2 ++ N))))).Perm (X ++ (B ++ (a ++ (b ++ (c ++ (Sr ++ N)))))) := by
    refine (((((h2.append_right _).append_left _).append_left _).append_left _).append_left _).trans ?_
    rw [List.append_assoc]
    exact pull4
  refine (k1.append_right _).trans (List.Perm.trans ?_ (k2.append_right _).symm)
  refine List.perm_append_comm.trans ?_
  rw [List.append_assoc X]
  exact List.perm_append_comm.append_left _
theorem swap5 {β : Type} {B a b c S N N2 Nr X Y : List β} (h1 : N.Perm (Y ++ Nr)) (h2 : N2.Perm (X ++ Nr)) : ((B ++ (a ++ (b ++ (c ++ (S ++ N))))) ++ X).Perm ((B ++ (a ++ (b ++ (c ++ (S ++ N2))))) ++ Y) := by
  have k1 : (B ++ (a ++ (b ++ (c ++ (S ++ N))))).Perm (Y ++ (B ++ (a ++ (b ++ (c ++ (S ++ Nr)))))) := by
    refine (((((h1.append_left _).append_left _).append_left _).append_left _).append_left _).trans ?_
    exact pull5
  have k2 : (B ++ (a ++ (b ++ (c ++ (S ++ N2))))).Perm (X ++ (B ++ (a ++ (b ++ (c ++ (S ++ Nr)))))) := by
    refine (((((h2.append_left _).append_left _).append_left _).append_left _).append_left _).trans ?_
    exact pull5
  refine (k1.append_right _).trans (List.Perm.trans ?_ (k2.append_right _).symm)
  refine List.perm_append_comm.trans ?_
  rw [List.append_assoc X]
  exact List.perm_append_comm.append_left _
theorem stS (cy : Nat → ClassId) (o : Nat) (ad : Nat → Nat) (oa : Nat) (aa : Nat → Nat) (or_ : Nat) (ar : Nat → Nat) (op : Nat) (ap : Nat → Nat) (T : TS) {i : Nat} (hi : i < 8) (z : Option Ob) : ((wX5 cy o ad oa aa or_ ar op ap T ++ wSh cy z).set 1 (ad 0, .inl (cy 4, 8, .inr (.inr (.inr (.inr (va_up (qOf (tS T)) i (z.map Prod.fst)))))))).Perm (wX5 cy o ad oa aa or_ ar op ap (uS T i z) ++ wSh cy (tS T i)) := by
  have h := swap4 (B := w5B cy o ad oa or_ op (tX T) (va_up (qOf (tS T)) i (z.map Prod.fst)) (qOf (tN T))) (a := wX0 cy oa aa (tA T)) (b := wX3 cy or_ ar (tR T)) (c := wX2 cy op ap (tP T)) (N := w5N cy (tN T)) (S2 := w5S cy (va_up (tS T) i z)) (X := wSh cy z) (w5S_at (cy := cy) (f := tS T) hi) (by have h2 := w5S_at (cy := cy) (f := va_up (tS T) i z) hi; rw [w5Sr_up] at h2; rw [show va_up (tS T) i z i = z from if_pos rfl] at h2; exact h2)
  rw [← qOf_up] at h ⊢
  exact h
theorem stN (cy : Nat → ClassId) (o : Nat) (ad : Nat → Nat) (oa : Nat) (aa : Nat → Nat) (or_ : Nat) (ar : Nat → Nat) (op : Nat) (ap : Nat → Nat) (T : TS) {i : Nat} (hi : i < 6) (z : Option Ob) : ((wX5 cy o ad oa aa or_ ar op ap T ++ wNt cy z).set 2 (ad 1, .inl (cy 5, 6, .inr (.inr (.inr (.inr (va_up (qOf (tN T)) i (z.map Prod.fst)))))))).Perm (wX5 cy o ad oa aa or_ ar op ap (uN T i z) ++ wNt cy (tN T i)) := by
  have h := swap5 (B := w5B cy o ad oa or_ op (tX T) (qOf (tS T)) (va_up (qOf (tN T)) i (z.map Prod.fst))) (a := wX0 cy oa aa (tA T)) (b := wX3 cy or_ ar (tR T)) (c := wX2 cy op ap (tP T)) (S := w5S cy (tS T)) (N2 := w5N cy (va_up (tN T) i z)) (X := wNt cy z) (w5N_at (cy := cy) (f := tN T) hi) (by have h2 := w5N_at (cy := cy) (f := va_up (tN T) i z) hi; rw [w5Nr_up] at h2; rw [show va_up (tN T) i z i = z from if_pos rfl] at h2; exact h2)
  rw [← qOf_up] at h ⊢
  exact h
section AQ2
variable {p : Program} {l : Launch} {e : Env} {R : Room} {s0 : State} {m : MethodId} {args : Array Value} {below : List Frame} {meth : Method} {c : Code} {cells slots : Nat} {Z : State → Prop} {nL : Nat} {I : Heap → List Loc → Prop} {lv : List (Nat × Value)} {st : List Value} {pc : Nat}
variable {cc : ByteArray} {own : String} {ws : List Cond} {D : va_G} {A : Nat → Prop} {H0 : Heap} {cy : Nat → ClassId} {ix : Nat}
theorem aw_aastQ (C : ctB p s0 m args c cc nL own ws) (K : ctK s0 D A H0 cy) {w0 w1 : va_W} (hdg : decode cc pc = .ok (.aastore, 1)) (q0 t0 qk ci : Nat) {a n v : Nat} {cA : ClassId} {rc : vw_C} {vs : List Value} {f : Nat → Option Nat} {i : Int32} (ha : w0[q0]? = some (a, .inl (cA, n, .inr (.inr (.inr (.inr f)))))) (ht : (tyW cy)[t0]? = some (cA, .object rc.1)) (hv : w0[qk]? = some (v, .inr (ci, vs))) (hc : vwCl[ci]? = some rc) (hin : vp_in i n) (hw : w0.set q0 (a, .inl (cA, n, .inr (.inr (.inr (.inr (va_up f i.toNatClampNeg (some v))))))) = w1) (kk : atG p l e R s0 m args below meth c cells slots Z nL (iW D A H0 w1) lv st (pc + 1)) : atG p l e R s0 m args below meth c cells slots Z nL (iW D A H0 w0) lv (.ref v :: .int i :: .ref a :: st) pc := fun H locs ls hI hl => va_astq C.1 C.2.1 K.1 hI.1 hI.2.1 hI.2.2 q0 t0 qk ci ha ht hv hc hin hdg (fun H1 locs1 h1 h2 h3 => by rw [hw] at h1 h2; exact kk H1 locs1 ls ⟨h1, h2, h3⟩ hl)
theorem aw_aastN (C : ctB p s0 m args c cc nL own ws) (K : ctK s0 D A H0 cy) {w0 w1 : va_W} (hdg : decode cc pc = .ok (.aastore, 1)) (q0 t0 : Nat) {a n : Nat} {cA : ClassId} {Cn : String} {f : Nat → Option Nat} {i : Int32} (ha : w0[q0]? = some (a, .inl (cA, n, .inr (.inr (.inr (.inr f)))))) (ht : (tyW cy)[t0]? = some (cA, .object Cn)) (hin : vp_in i n) (hw : w0.set q0 (a, .inl (cA, n, .inr (.inr (.inr (.inr (va_up f i.toNatClampNeg none)))))) = w1) (kk : atG p l e R s0 m args below meth c cells slots Z nL (iW D A H0 w1) lv st (pc + 1)) : atG p l e R s0 m args below meth c cells slots Z nL (iW D A H0 w0) lv (.null :: .int i :: .ref a :: st) pc := fun H locs ls hI hl => va_astqN C.1 C.2.1 K.1 hI.1 hI.2.1 hI.2.2 q0 t0 ha ht hin hdg (fun H1 locs1 h1 h2 h3 => by rw [hw] at h1 h2; exact kk H1 locs1 ls ⟨h1, h2, h3⟩ hl)
theorem aw_copyi (C : ctB p s0 m args c cc nL own ws) (K : ctK s0 D A H0 cy) {w0 w1 : va_W} (hdg : decode cc pc = .ok (.invokestatic ix, 3)) (m1 : Cond.methodLink own ix arraycopyName ∈ ws) (m2 : Cond.native arraycopyName ∈ ws) (m3 : Cond.static arraycopyName ∈ ws) (m4 : Cond.initialized "java/lang/System" ∈ ws) (q0 q1 : Nat) {a0 a n0 n1 : Nat} {f g : Nat → Int32} (h0 : w0[q0]? = some (a0, .inl (cy 0, n0, .inl f))) (h1 : w0[q1]? = some (a, .inl (cy 0, n1, .inl g))) {sp dp n : Int32} (k1 : ¬ sp < 0) (k2 : ¬ dp < 0) (k3 : ¬ n < 0) (k4 : sp.toNatClampNeg + n.toNatClampNeg ≤ n0) (k5 : dp.toNatClampNeg + n.toNatClampNeg ≤ n1) (hR1 : 1 ≤ R.frames) (hR2 : (st.map fun v => v.category).sum + (nativeFrameWords "java/lang/System" "arraycopy" 5 + 11) ≤ R.locals) (hw : w0.set q1 (a, .inl (cy 0, n1, .inl (va_cpy f g sp.toNatClampNeg dp.toNatClampNeg n.toNatClampNeg))) = w1) (kk : atG p l e R s0 m args below meth c cells slots Z nL (iW D A H0 w1) lv st (pc + 3)) : atG p l e R s0 m args below meth c cells slots Z nL (iW D A H0 w0) lv (.int n :: .int dp :: .ref a :: .int sp :: .ref a0 :: st) pc := fun H locs ls hI hl => va_copyi C.1 C.2.1 (by rw [C.2.2.1]; exact hl.1.symm) C.2.2.2.1 (C.2.2.2.2.1 _ m1) (C.2.2.2.2.1 _ m2) (C.2.2.2.2.1 _ m3) (C.2.2.2.2.1 _ m4) K.1 hI.1 hI.2.1 hI.2.2 q0 q1 0 0 h0 h1 rfl rfl rfl k1 k2 k3 k4 k5 (fun _ _ => rfl) hR1 hR2 hdg (fun H1 locs1 p1 p2 p3 => by rw [hw] at p1 p2; exact kk H1 locs1 ls ⟨p1, p2, p3⟩ hl)
theorem aw_astoreN (C : ctB p s0 m args c cc nL own ws) {i : Nat} {lv' : List (Nat × Value)} (hdg : decode cc pc = .ok (.astore i, 2)) (hn : i < nL) (hv : (i, Value.null) :: lv.filter (fun q => !(q.1 == i) && !(q.1 + 1 == i && q.2.category == 2)) = lv') (kk : atG p l e R s0 m args below meth c cells slots Z nL I lv' st (pc + 2)) : atG p l e R s0 m args below meth c cells slots Z nL I lv (.null :: st) pc := fun H locs ls hI hl => lv_astoreN C.1 C.2.1 hdg hl hn hv (fun ls2 hl2 => kk H locs ls2 hI hl2)
theorem aw_astore_nN (C : ctB p s0 m args c cc nL own ws) {f : Fin 4} {lv' : List (Nat × Value)} (hdg : decode cc pc = .ok (.astore_n f, 1)) (hn : (f : Nat) < nL) (hv : ((f : Nat), Value.null) :: lv.filter (fun q => !(q.1 == (f : Nat)) && !(q.1 + 1 == (f : Nat) && q.2.category == 2)) = lv') (kk : atG p l e R s0 m args below meth c cells slots Z nL I lv' st (pc + 1)) : atG p l e R s0 m args below meth c cells slots Z nL I lv (.null :: st) pc := fun H locs ls hI hl => lv_astore_nN C.1 C.2.1 hdg rfl hl hn hv (fun ls2 hl2 => kk H locs ls2 hI hl2)
theorem aw_aloadN (C : ctB p s0 m args c cc nL own ws) {i : Nat} (hdg : decode cc pc = .ok (.aload i, 2)) (q : Nat) (hq : lv[q]? = some (i, .null)) (kk : atG p l e R s0 m args below meth c cells slots Z nL I lv (.null :: st) (pc + 2)) : atG p l e R s0 m args below meth c cells slots Z nL I lv st pc := fun H locs ls hI hl => lv_aloadN C.1 C.2.1 hdg (lv_at hl q hq) (kk H locs ls hI hl)
theorem aw_aload_nN (C : ctB p s0 m args c cc nL own ws) {f : Fin 4} (hdg : decode cc pc = .ok (.aload_n f, 1)) (q : Nat) (hq : lv[q]? = some ((f : Nat), .null)) (kk : atG p l e R s0 m args below meth c cells slots Z nL I lv (.null :: st) (pc + 1)) : atG p l e R s0 m args below meth c cells slots Z nL I lv st pc := fun H locs ls hI hl => lv_aload_nN C.1 C.2.1 hdg rfl (lv_at hl q hq) (kk H locs ls hI hl)
end AQ2
