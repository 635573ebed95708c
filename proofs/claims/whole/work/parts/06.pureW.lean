def rmX5_within : Room := { frames := 0, cells := 0, slots := 0, locals := 0 }
section SX5_within
variable {p : Program} {l : Launch} {e : Env} {s0 : State} {m : MethodId} {args : Array Value} {below : List Frame} {meth : Method} {c : Code} {D : va_G} {A : Nat → Prop} {H0 : Heap} {cy : Nat → ClassId} {Z : State → Prop}
theorem eX5_within (C : ctB p s0 m args c cX5_within 3 RX5 wsX5_within) {Q : Int32 → Prop} (hQ : ∀ (v : Int32), narrow .boolean (.int v) = .int v → Q v → ∀ pc, decode cX5_within pc = .ok (.ireturn, 1) → atG p l e rmX5_within s0 m args below meth c 0 0 Z 3 (iP H0) [] [.int v] pc) (x0 : Int32) (x1 : Int32) (x2 : Int32) (h : pX5_within  x0 x1 x2 Q) : atG p l e rmX5_within s0 m args below meth c 0 0 Z 3 (iP H0) [(0, .int x0), (1, .int x1), (2, .int x2)] [] 0 := by
  delta pX5_within at h
  refine aw_iload_n C dX5_within_0 0 rfl ?_
  refine aw_iload_n C dX5_within_1 1 rfl ?_
  refine aw_icmp_lt (tgt := 14) C dX5_within_2 (by decide) (fun c2 => ?_) (fun c2 => ?_)
  · have h := h.1 c2
    refine aw_iconst (v := 0) C dX5_within_14 (by decide) ?_
    refine aw_lv [] rfl ?_
    exact hQ 0 rfl h 15 dX5_within_15
  have h := h.2 c2
  refine aw_iload_n C dX5_within_5 0 rfl ?_
  refine aw_iload_n C dX5_within_6 2 rfl ?_
  refine aw_icmp_gt (tgt := 14) C dX5_within_7 (by decide) (fun c7 => ?_) (fun c7 => ?_)
  · have h := h.1 c7
    refine aw_iconst (v := 0) C dX5_within_14 (by decide) ?_
    refine aw_lv [] rfl ?_
    exact hQ 0 rfl h 15 dX5_within_15
  have h := h.2 c7
  refine aw_iconst (v := 1) C dX5_within_10 (by decide) ?_
  refine aw_goto (tgt := 15) C dX5_within_11 (by decide) ?_
  refine aw_lv [] rfl ?_
  exact hQ 1 rfl h 15 dX5_within_15
end SX5_within
theorem mtX5_within (l : Launch) (x0 : Int32) (x1 : Int32) (x2 : Int32) (Q : Int32 → Prop) (hw : pX5_within  x0 x1 x2 Q) : mS l yX5_within wsX5_within rmX5_within [.int x0, .int x1, .int x2] Q :=
  metSZ (ty := .boolean) ⟨rfl, rfl⟩ (by decide) rfl (Nat.le_of_ble_eq_true rfl) (fun C hQ => eX5_within C hQ x0 x1 x2 hw)
def rmX5_isSheet : Room := { frames := 1, cells := 0, slots := 0, locals := 22 }
section SX5_isSheet
variable {p : Program} {l : Launch} {e : Env} {s0 : State} {m : MethodId} {args : Array Value} {below : List Frame} {meth : Method} {c : Code} {D : va_G} {A : Nat → Prop} {H0 : Heap} {cy : Nat → ClassId} {Z : State → Prop}
theorem eX5_isSheet (C : ctB p s0 m args c cX5_isSheet 1 RX5 wsX5_isSheet) {Q : Int32 → Prop} (hQ : ∀ (v : Int32), narrow .boolean (.int v) = .int v → Q v → ∀ pc, decode cX5_isSheet pc = .ok (.ireturn, 1) → atG p l e rmX5_isSheet s0 m args below meth c 0 0 Z 1 (iP H0) [] [.int v] pc) (x0 : Int32) (h : pX5_isSheet  x0 Q) : atG p l e rmX5_isSheet s0 m args below meth c 0 0 Z 1 (iP H0) [(0, .int x0)] [] 0 := by
  delta pX5_isSheet at h
  refine aw_iload_n C dX5_isSheet_0 0 rfl ?_
  refine aw_iconst (v := 0) C dX5_isSheet_1 (by decide) ?_
  refine aw_bipush (v := 7) C dX5_isSheet_2 (by decide) ?_
  refine aw_callS (As := [.int x0, .int 0, .int 7]) (rest := []) C (mtX5_within l x0 0 7 _ h) (va_cwS 3 C.2.2.2.2.1 gX5_isSheet_X5_within rfl rfl rfl (by decide +kernel) ⟨Nat.le_of_ble_eq_true rfl, Nat.le_of_ble_eq_true rfl⟩) rfl rfl (Nat.le_of_ble_eq_true rfl) ⟨rfl, rfl⟩ ⟨Nat.zero_le _, Nat.zero_le _⟩ dX5_isSheet_4 (fun r4 h => ?_)
  refine aw_lv [] rfl ?_
  exact hQ r4 h.1 h.2 7 dX5_isSheet_7
end SX5_isSheet
theorem mtX5_isSheet (l : Launch) (x0 : Int32) (Q : Int32 → Prop) (hw : pX5_isSheet  x0 Q) : mS l yX5_isSheet wsX5_isSheet rmX5_isSheet [.int x0] Q :=
  metSZ (ty := .boolean) ⟨rfl, rfl⟩ (by decide) rfl (Nat.le_of_ble_eq_true rfl) (fun C hQ => eX5_isSheet C hQ x0 hw)
def rmX5_isPlace : Room := { frames := 1, cells := 0, slots := 0, locals := 22 }
section SX5_isPlace
variable {p : Program} {l : Launch} {e : Env} {s0 : State} {m : MethodId} {args : Array Value} {below : List Frame} {meth : Method} {c : Code} {D : va_G} {A : Nat → Prop} {H0 : Heap} {cy : Nat → ClassId} {Z : State → Prop}
theorem eX5_isPlace (C : ctB p s0 m args c cX5_isPlace 1 RX5 wsX5_isPlace) {Q : Int32 → Prop} (hQ : ∀ (v : Int32), narrow .boolean (.int v) = .int v → Q v → ∀ pc, decode cX5_isPlace pc = .ok (.ireturn, 1) → atG p l e rmX5_isPlace s0 m args below meth c 0 0 Z 1 (iP H0) [] [.int v] pc) (x0 : Int32) (h : pX5_isPlace  x0 Q) : atG p l e rmX5_isPlace s0 m args below meth c 0 0 Z 1 (iP H0) [(0, .int x0)] [] 0 := by
  delta pX5_isPlace at h
  refine aw_iload_n C dX5_isPlace_0 0 rfl ?_
  refine aw_iconst (v := 0) C dX5_isPlace_1 (by decide) ?_
  refine aw_iconst (v := 5) C dX5_isPlace_2 (by decide) ?_
  refine aw_callS (As := [.int x0, .int 0, .int 5]) (rest := []) C (mtX5_within l x0 0 5 _ h) (va_cwS 3 C.2.2.2.2.1 gX5_isPlace_X5_within rfl rfl rfl (by decide +kernel) ⟨Nat.le_of_ble_eq_true rfl, Nat.le_of_ble_eq_true rfl⟩) rfl rfl (Nat.le_of_ble_eq_true rfl) ⟨rfl, rfl⟩ ⟨Nat.zero_le _, Nat.zero_le _⟩ dX5_isPlace_3 (fun r3 h => ?_)
  refine aw_lv [] rfl ?_
  exact hQ r3 h.1 h.2 6 dX5_isPlace_6
end SX5_isPlace
theorem mtX5_isPlace (l : Launch) (x0 : Int32) (Q : Int32 → Prop) (hw : pX5_isPlace  x0 Q) : mS l yX5_isPlace wsX5_isPlace rmX5_isPlace [.int x0] Q :=
  metSZ (ty := .boolean) ⟨rfl, rfl⟩ (by decide) rfl (Nat.le_of_ble_eq_true rfl) (fun C hQ => eX5_isPlace C hQ x0 hw)
def rmX5_isKind : Room := { frames := 1, cells := 0, slots := 0, locals := 22 }
section SX5_isKind
variable {p : Program} {l : Launch} {e : Env} {s0 : State} {m : MethodId} {args : Array Value} {below : List Frame} {meth : Method} {c : Code} {D : va_G} {A : Nat → Prop} {H0 : Heap} {cy : Nat → ClassId} {Z : State → Prop}
theorem eX5_isKind (C : ctB p s0 m args c cX5_isKind 1 RX5 wsX5_isKind) {Q : Int32 → Prop} (hQ : ∀ (v : Int32), narrow .boolean (.int v) = .int v → Q v → ∀ pc, decode cX5_isKind pc = .ok (.ireturn, 1) → atG p l e rmX5_isKind s0 m args below meth c 0 0 Z 1 (iP H0) [] [.int v] pc) (x0 : Int32) (h : pX5_isKind  x0 Q) : atG p l e rmX5_isKind s0 m args below meth c 0 0 Z 1 (iP H0) [(0, .int x0)] [] 0 := by
  delta pX5_isKind at h
  refine aw_iload_n C dX5_isKind_0 0 rfl ?_
  refine aw_iconst (v := 0) C dX5_isKind_1 (by decide) ?_
  refine aw_iconst (v := 3) C dX5_isKind_2 (by decide) ?_
  refine aw_callS (As := [.int x0, .int 0, .int 3]) (rest := []) C (mtX5_within l x0 0 3 _ h) (va_cwS 3 C.2.2.2.2.1 gX5_isKind_X5_within rfl rfl rfl (by decide +kernel) ⟨Nat.le_of_ble_eq_true rfl, Nat.le_of_ble_eq_true rfl⟩) rfl rfl (Nat.le_of_ble_eq_true rfl) ⟨rfl, rfl⟩ ⟨Nat.zero_le _, Nat.zero_le _⟩ dX5_isKind_3 (fun r3 h => ?_)
  refine aw_lv [] rfl ?_
  exact hQ r3 h.1 h.2 6 dX5_isKind_6
end SX5_isKind
theorem mtX5_isKind (l : Launch) (x0 : Int32) (Q : Int32 → Prop) (hw : pX5_isKind  x0 Q) : mS l yX5_isKind wsX5_isKind rmX5_isKind [.int x0] Q :=
  metSZ (ty := .boolean) ⟨rfl, rfl⟩ (by decide) rfl (Nat.le_of_ble_eq_true rfl) (fun C hQ => eX5_isKind C hQ x0 hw)
def rmX5_countsAs : Room := { frames := 0, cells := 0, slots := 0, locals := 0 }
section SX5_countsAs
variable {p : Program} {l : Launch} {e : Env} {s0 : State} {m : MethodId} {args : Array Value} {below : List Frame} {meth : Method} {c : Code} {D : va_G} {A : Nat → Prop} {H0 : Heap} {cy : Nat → ClassId} {Z : State → Prop}
theorem eX5_countsAs (C : ctB p s0 m args c cX5_countsAs 2 RX5 wsX5_countsAs) {Q : Int32 → Prop} (hQ : ∀ (v : Int32), narrow .boolean (.int v) = .int v → Q v → ∀ pc, decode cX5_countsAs pc = .ok (.ireturn, 1) → atG p l e rmX5_countsAs s0 m args below meth c 0 0 Z 2 (iP H0) [] [.int v] pc) (x0 : Int32) (x1 : Int32) (h : pX5_countsAs  x0 x1 Q) : atG p l e rmX5_countsAs s0 m args below meth c 0 0 Z 2 (iP H0) [(0, .int x0), (1, .int x1)] [] 0 := by
  delta pX5_countsAs at h
  refine aw_iload_n C dX5_countsAs_0 1 rfl ?_
  refine aw_iload_n C dX5_countsAs_1 0 rfl ?_
  refine aw_icmp_eq (tgt := 19) C dX5_countsAs_2 (by decide) (fun c2 => ?_) (fun c2 => ?_)
  · have h := h.1 c2
    refine aw_iconst (v := 1) C dX5_countsAs_19 (by decide) ?_
    refine aw_goto (tgt := 24) C dX5_countsAs_20 (by decide) ?_
    refine aw_lv [] rfl ?_
    exact hQ 1 rfl h 24 dX5_countsAs_24
  have h := h.2 c2
  refine aw_iload_n C dX5_countsAs_5 1 rfl ?_
  refine aw_if_eq (tgt := 19) C dX5_countsAs_6 (by decide) (fun c6 => ?_) (fun c6 => ?_)
  · have h := h.1 c6
    refine aw_iconst (v := 1) C dX5_countsAs_19 (by decide) ?_
    refine aw_goto (tgt := 24) C dX5_countsAs_20 (by decide) ?_
    refine aw_lv [] rfl ?_
    exact hQ 1 rfl h 24 dX5_countsAs_24
  have h := h.2 c6
  refine aw_iload_n C dX5_countsAs_9 1 rfl ?_
  refine aw_iconst (v := 1) C dX5_countsAs_10 (by decide) ?_
  refine aw_icmp_ne (tgt := 23) C dX5_countsAs_11 (by decide) (fun c11 => ?_) (fun c11 => ?_)
  · have h := h.2 c11
    refine aw_iconst (v := 0) C dX5_countsAs_23 (by decide) ?_
    refine aw_lv [] rfl ?_
    exact hQ 0 rfl h 24 dX5_countsAs_24
  have h := h.1 c11
  refine aw_iload_n C dX5_countsAs_14 0 rfl ?_
  refine aw_iconst (v := 2) C dX5_countsAs_15 (by decide) ?_
  refine aw_icmp_ne (tgt := 23) C dX5_countsAs_16 (by decide) (fun c16 => ?_) (fun c16 => ?_)
  · have h := h.2 c16
    refine aw_iconst (v := 0) C dX5_countsAs_23 (by decide) ?_
    refine aw_lv [] rfl ?_
    exact hQ 0 rfl h 24 dX5_countsAs_24
  have h := h.1 c16
  refine aw_iconst (v := 1) C dX5_countsAs_19 (by decide) ?_
  refine aw_goto (tgt := 24) C dX5_countsAs_20 (by decide) ?_
  refine aw_lv [] rfl ?_
  exact hQ 1 rfl h 24 dX5_countsAs_24
end SX5_countsAs
theorem mtX5_countsAs (l : Launch) (x0 : Int32) (x1 : Int32) (Q : Int32 → Prop) (hw : pX5_countsAs  x0 x1 Q) : mS l yX5_countsAs wsX5_countsAs rmX5_countsAs [.int x0, .int x1] Q :=
  metSZ (ty := .boolean) ⟨rfl, rfl⟩ (by decide) rfl (Nat.le_of_ble_eq_true rfl) (fun C hQ => eX5_countsAs C hQ x0 x1 hw)
def rmX3_other : Room := { frames := 0, cells := 0, slots := 0, locals := 0 }
section SX3_other
variable {p : Program} {l : Launch} {e : Env} {s0 : State} {m : MethodId} {args : Array Value} {below : List Frame} {meth : Method} {c : Code} {D : va_G} {A : Nat → Prop} {H0 : Heap} {cy : Nat → ClassId} {Z : State → Prop}
theorem eX3_other (C : ctB p s0 m args c cX3_other 1 RX3 wsX3_other) {Q : Int32 → Prop} (hQ : ∀ (v : Int32), Q v → ∀ pc, decode cX3_other pc = .ok (.ireturn, 1) → atG p l e rmX3_other s0 m args below meth c 0 0 Z 1 (iP H0) [] [.int v] pc) (x0 : Int32) (h : pX3_other  x0 Q) : atG p l e rmX3_other s0 m args below meth c 0 0 Z 1 (iP H0) [(0, .int x0)] [] 0 := by
  delta pX3_other at h
  refine aw_iload_n C dX3_other_0 0 rfl ?_
  refine aw_iconst (v := 1) C dX3_other_1 (by decide) ?_
  refine aw_ixor C dX3_other_2 ?_
  refine aw_lv [] rfl ?_
  exact hQ (x0 ^^^ 1) h 3 dX3_other_3
end SX3_other
theorem mtX3_other (l : Launch) (x0 : Int32) (Q : Int32 → Prop) (hw : pX3_other  x0 Q) : mS l yX3_other wsX3_other rmX3_other [.int x0] Q :=
  metSI ⟨rfl, rfl⟩ (by decide) rfl (Nat.le_of_ble_eq_true rfl) (fun C hQ => eX3_other C hQ x0 hw)
def rmX6_in : Room := { frames := 0, cells := 0, slots := 0, locals := 0 }
section SX6_in
variable {p : Program} {l : Launch} {e : Env} {s0 : State} {m : MethodId} {args : Array Value} {below : List Frame} {meth : Method} {c : Code} {D : va_G} {A : Nat → Prop} {H0 : Heap} {cy : Nat → ClassId} {Z : State → Prop}
theorem eX6_in (C : ctB p s0 m args c cX6_in 6 RX6 wsX6_in) {Q : Int32 → Prop} (hQ : ∀ (v : Int32), narrow .boolean (.int v) = .int v → Q v → ∀ pc, decode cX6_in pc = .ok (.ireturn, 1) → atG p l e rmX6_in s0 m args below meth c 0 0 Z 6 (iP H0) [] [.int v] pc) (x0 : Int64) (x2 : Int64) (x4 : Int64) (h : pX6_in  x0 x2 x4 Q) : atG p l e rmX6_in s0 m args below meth c 0 0 Z 6 (iP H0) [(0, .long x0), (2, .long x2), (4, .long x4)] [] 0 := by
  delta pX6_in at h
  refine aw_lload_n C dX6_in_0 0 rfl ?_
  refine aw_lload_n C dX6_in_1 1 rfl ?_
  refine aw_lcmp C dX6_in_2 ?_
  refine aw_if_lt (tgt := 17) C dX6_in_3 (by decide) (fun c3 => ?_) (fun c3 => ?_)
  · have h := h.1 c3
    refine aw_iconst (v := 0) C dX6_in_17 (by decide) ?_
    refine aw_lv [] rfl ?_
    exact hQ 0 rfl h 18 dX6_in_18
  have h := h.2 c3
  refine aw_lload_n C dX6_in_6 0 rfl ?_
  refine aw_lload C dX6_in_7 2 rfl ?_
  refine aw_lcmp C dX6_in_9 ?_
  refine aw_if_gt (tgt := 17) C dX6_in_10 (by decide) (fun c10 => ?_) (fun c10 => ?_)
  · have h := h.1 c10
    refine aw_iconst (v := 0) C dX6_in_17 (by decide) ?_
    refine aw_lv [] rfl ?_
    exact hQ 0 rfl h 18 dX6_in_18
  have h := h.2 c10
  refine aw_iconst (v := 1) C dX6_in_13 (by decide) ?_
  refine aw_goto (tgt := 18) C dX6_in_14 (by decide) ?_
  refine aw_lv [] rfl ?_
  exact hQ 1 rfl h 18 dX6_in_18
end SX6_in
theorem mtX6_in (l : Launch) (x0 : Int64) (x2 : Int64) (x4 : Int64) (Q : Int32 → Prop) (hw : pX6_in  x0 x2 x4 Q) : mS l yX6_in wsX6_in rmX6_in [.long x0, .long x2, .long x4] Q :=
  metSZ (ty := .boolean) ⟨rfl, rfl⟩ (by decide) rfl (Nat.le_of_ble_eq_true rfl) (fun C hQ => eX6_in C hQ x0 x2 x4 hw)
def rmX6_isSheet : Room := { frames := 1, cells := 0, slots := 0, locals := 25 }
theorem qX6_isSheet_constantLong_RX6_89_7 : Cond.constantLong RX6 89 (7) ∈ wsX6_isSheet := (List.mem_cons_of_mem _ (List.mem_of_getElem? (i := 0) rfl))
section SX6_isSheet
variable {p : Program} {l : Launch} {e : Env} {s0 : State} {m : MethodId} {args : Array Value} {below : List Frame} {meth : Method} {c : Code} {D : va_G} {A : Nat → Prop} {H0 : Heap} {cy : Nat → ClassId} {Z : State → Prop}
theorem eX6_isSheet (C : ctB p s0 m args c cX6_isSheet 1 RX6 wsX6_isSheet) {Q : Int32 → Prop} (hQ : ∀ (v : Int32), narrow .boolean (.int v) = .int v → Q v → ∀ pc, decode cX6_isSheet pc = .ok (.ireturn, 1) → atG p l e rmX6_isSheet s0 m args below meth c 0 0 Z 1 (iP H0) [] [.int v] pc) (x0 : Int32) (h : pX6_isSheet  x0 Q) : atG p l e rmX6_isSheet s0 m args below meth c 0 0 Z 1 (iP H0) [(0, .int x0)] [] 0 := by
  delta pX6_isSheet at h
  refine aw_iload_n C dX6_isSheet_0 0 rfl ?_
  refine aw_i2l C dX6_isSheet_1 ?_
  refine aw_lconst (v := 0) C dX6_isSheet_2 (by decide) ?_
  refine aw_ldc2 (v := 7) C dX6_isSheet_3 qX6_isSheet_constantLong_RX6_89_7 ?_
  refine aw_callS (As := [.long x0.toInt64, .long 0, .long 7]) (rest := []) C (mtX6_in l x0.toInt64 0 7 _ h) (va_cwS 3 C.2.2.2.2.1 gX6_isSheet_X6_in rfl rfl rfl (by decide +kernel) ⟨Nat.le_of_ble_eq_true rfl, Nat.le_of_ble_eq_true rfl⟩) rfl rfl (Nat.le_of_ble_eq_true rfl) ⟨rfl, rfl⟩ ⟨Nat.zero_le _, Nat.zero_le _⟩ dX6_isSheet_6 (fun r6 h => ?_)
  refine aw_lv [] rfl ?_
  exact hQ r6 h.1 h.2 9 dX6_isSheet_9
end SX6_isSheet
theorem mtX6_isSheet (l : Launch) (x0 : Int32) (Q : Int32 → Prop) (hw : pX6_isSheet  x0 Q) : mS l yX6_isSheet wsX6_isSheet rmX6_isSheet [.int x0] Q :=
  metSZ (ty := .boolean) ⟨rfl, rfl⟩ (by decide) rfl (Nat.le_of_ble_eq_true rfl) (fun C hQ => eX6_isSheet C hQ x0 hw)
def rmX6_isPlace : Room := { frames := 1, cells := 0, slots := 0, locals := 25 }
theorem qX6_isPlace_constantLong_RX6_106_5 : Cond.constantLong RX6 106 (5) ∈ wsX6_isPlace := (List.mem_cons_of_mem _ (List.mem_of_getElem? (i := 0) rfl))
section SX6_isPlace
variable {p : Program} {l : Launch} {e : Env} {s0 : State} {m : MethodId} {args : Array Value} {below : List Frame} {meth : Method} {c : Code} {D : va_G} {A : Nat → Prop} {H0 : Heap} {cy : Nat → ClassId} {Z : State → Prop}
theorem eX6_isPlace (C : ctB p s0 m args c cX6_isPlace 1 RX6 wsX6_isPlace) {Q : Int32 → Prop} (hQ : ∀ (v : Int32), narrow .boolean (.int v) = .int v → Q v → ∀ pc, decode cX6_isPlace pc = .ok (.ireturn, 1) → atG p l e rmX6_isPlace s0 m args below meth c 0 0 Z 1 (iP H0) [] [.int v] pc) (x0 : Int32) (h : pX6_isPlace  x0 Q) : atG p l e rmX6_isPlace s0 m args below meth c 0 0 Z 1 (iP H0) [(0, .int x0)] [] 0 := by
  delta pX6_isPlace at h
  refine aw_iload_n C dX6_isPlace_0 0 rfl ?_
  refine aw_i2l C dX6_isPlace_1 ?_
  refine aw_lconst (v := 0) C dX6_isPlace_2 (by decide) ?_
  refine aw_ldc2 (v := 5) C dX6_isPlace_3 qX6_isPlace_constantLong_RX6_106_5 ?_
  refine aw_callS (As := [.long x0.toInt64, .long 0, .long 5]) (rest := []) C (mtX6_in l x0.toInt64 0 5 _ h) (va_cwS 3 C.2.2.2.2.1 gX6_isPlace_X6_in rfl rfl rfl (by decide +kernel) ⟨Nat.le_of_ble_eq_true rfl, Nat.le_of_ble_eq_true rfl⟩) rfl rfl (Nat.le_of_ble_eq_true rfl) ⟨rfl, rfl⟩ ⟨Nat.zero_le _, Nat.zero_le _⟩ dX6_isPlace_6 (fun r6 h => ?_)
  refine aw_lv [] rfl ?_
  exact hQ r6 h.1 h.2 9 dX6_isPlace_9
end SX6_isPlace
theorem mtX6_isPlace (l : Launch) (x0 : Int32) (Q : Int32 → Prop) (hw : pX6_isPlace  x0 Q) : mS l yX6_isPlace wsX6_isPlace rmX6_isPlace [.int x0] Q :=
  metSZ (ty := .boolean) ⟨rfl, rfl⟩ (by decide) rfl (Nat.le_of_ble_eq_true rfl) (fun C hQ => eX6_isPlace C hQ x0 hw)
def rmX6_isOf : Room := { frames := 0, cells := 0, slots := 0, locals := 0 }
section SX6_isOf
variable {p : Program} {l : Launch} {e : Env} {s0 : State} {m : MethodId} {args : Array Value} {below : List Frame} {meth : Method} {c : Code} {D : va_G} {A : Nat → Prop} {H0 : Heap} {cy : Nat → ClassId} {Z : State → Prop}
theorem eX6_isOf (C : ctB p s0 m args c cX6_isOf 2 RX6 wsX6_isOf) {Q : Int32 → Prop} (hQ : ∀ (v : Int32), narrow .boolean (.int v) = .int v → Q v → ∀ pc, decode cX6_isOf pc = .ok (.ireturn, 1) → atG p l e rmX6_isOf s0 m args below meth c 0 0 Z 2 (iP H0) [] [.int v] pc) (x0 : Int32) (x1 : Int32) (h : pX6_isOf  x0 x1 Q) : atG p l e rmX6_isOf s0 m args below meth c 0 0 Z 2 (iP H0) [(0, .int x0), (1, .int x1)] [] 0 := by
  delta pX6_isOf at h
  refine aw_iload_n C dX6_isOf_0 1 rfl ?_
  refine aw_if_eq (tgt := 19) C dX6_isOf_1 (by decide) (fun c1 => ?_) (fun c1 => ?_)
  · have h := h.1 c1
    refine aw_iconst (v := 1) C dX6_isOf_19 (by decide) ?_
    refine aw_goto (tgt := 24) C dX6_isOf_20 (by decide) ?_
    refine aw_lv [] rfl ?_
    exact hQ 1 rfl h 24 dX6_isOf_24
  have h := h.2 c1
  refine aw_iload_n C dX6_isOf_4 0 rfl ?_
  refine aw_iload_n C dX6_isOf_5 1 rfl ?_
  refine aw_icmp_eq (tgt := 19) C dX6_isOf_6 (by decide) (fun c6 => ?_) (fun c6 => ?_)
  · have h := h.1 c6
    refine aw_iconst (v := 1) C dX6_isOf_19 (by decide) ?_
    refine aw_goto (tgt := 24) C dX6_isOf_20 (by decide) ?_
    refine aw_lv [] rfl ?_
    exact hQ 1 rfl h 24 dX6_isOf_24
  have h := h.2 c6
  refine aw_iload_n C dX6_isOf_9 1 rfl ?_
  refine aw_iconst (v := 1) C dX6_isOf_10 (by decide) ?_
  refine aw_icmp_ne (tgt := 23) C dX6_isOf_11 (by decide) (fun c11 => ?_) (fun c11 => ?_)
  · have h := h.2 c11
    refine aw_iconst (v := 0) C dX6_isOf_23 (by decide) ?_
    refine aw_lv [] rfl ?_
    exact hQ 0 rfl h 24 dX6_isOf_24
  have h := h.1 c11
  refine aw_iload_n C dX6_isOf_14 0 rfl ?_
  refine aw_iconst (v := 2) C dX6_isOf_15 (by decide) ?_
  refine aw_icmp_ne (tgt := 23) C dX6_isOf_16 (by decide) (fun c16 => ?_) (fun c16 => ?_)
  · have h := h.2 c16
    refine aw_iconst (v := 0) C dX6_isOf_23 (by decide) ?_
    refine aw_lv [] rfl ?_
    exact hQ 0 rfl h 24 dX6_isOf_24
  have h := h.1 c16
  refine aw_iconst (v := 1) C dX6_isOf_19 (by decide) ?_
  refine aw_goto (tgt := 24) C dX6_isOf_20 (by decide) ?_
  refine aw_lv [] rfl ?_
  exact hQ 1 rfl h 24 dX6_isOf_24
end SX6_isOf
theorem mtX6_isOf (l : Launch) (x0 : Int32) (x1 : Int32) (Q : Int32 → Prop) (hw : pX6_isOf  x0 x1 Q) : mS l yX6_isOf wsX6_isOf rmX6_isOf [.int x0, .int x1] Q :=
  metSZ (ty := .boolean) ⟨rfl, rfl⟩ (by decide) rfl (Nat.le_of_ble_eq_true rfl) (fun C hQ => eX6_isOf C hQ x0 x1 hw)
def rrX5_crosspoints (n : Nat) : Room := { frames := n + 1, cells := 0, slots := 0, locals := n * 26 + 30 }
def rmX5_crosspoints : Room := rrX5_crosspoints 4
theorem qX5_crosspoints_methodLink_RX5_208_Lib_Math_min_name : Cond.methodLink RX5 208 Lib.Math.min.name ∈ wsX5_crosspoints := (List.mem_cons_of_mem _ (List.mem_of_getElem? (i := 0) rfl))
theorem qX5_crosspoints_static_Lib_Math_min_name : Cond.static Lib.Math.min.name ∈ wsX5_crosspoints := (List.mem_cons_of_mem _ (List.mem_of_getElem? (i := 1) rfl))
theorem qX5_crosspoints_initialized : Cond.initialized "java/lang/Math" ∈ wsX5_crosspoints := (List.mem_cons_of_mem _ (List.mem_of_getElem? (i := 2) rfl))
theorem qX5_crosspoints_code_Lib_Math_min_name_Lib_Math_min_code_2_some_int : Cond.code Lib.Math.min.name Lib.Math.min.code 2 (some .int) ∈ wsX5_crosspoints := (List.mem_cons_of_mem _ (List.mem_of_getElem? (i := 3) rfl))
section SX5_crosspoints
variable {p : Program} {l : Launch} {e : Env} {s0 : State} {m : MethodId} {args : Array Value} {below : List Frame} {meth : Method} {c : Code} {D : va_G} {A : Nat → Prop} {H0 : Heap} {cy : Nat → ClassId} {Z : State → Prop}
theorem tbX5_crosspoints_13 (C : ctB p s0 m args c cX5_crosspoints 7 RX5 wsX5_crosspoints) {n : Nat} {rec : Int32 → Int32 → Int32 → (Int32 → Prop) → Prop} (hrec : ∀ (x0 : Int32) (x1 : Int32) (x2 : Int32) (Q : Int32 → Prop), rec x0 x1 x2 Q → mS l yX5_crosspoints wsX5_crosspoints (rrX5_crosspoints n) [.int x0, .int x1, .int x2] Q)  {x0 : Int32} {x1 : Int32} {x2 : Int32} {k83 : Int32 → Prop} (hk83 : ∀ (y3 : Int32), k83 y3 → atG p l e (rrX5_crosspoints (n + 1)) s0 m args below meth c 0 0 Z 7 (iP H0) [(3, .int y3)] [] 83) {kH : Int32 → Int32 → Prop} (hkH : ∀ (y3 : Int32) (y4 : Int32), kH y3 y4 → atG p l e (rrX5_crosspoints (n + 1)) s0 m args below meth c 0 0 Z 7 (iP H0) [(0, .int x0), (1, .int x1), (2, .int x2), (3, .int y3), (4, .int y4)] [] 13) (x3 : Int32) (x4 : Int32) (h : bX5_crosspoints_13 rec x0 x1 x2 k83 kH x3 x4) : atG p l e (rrX5_crosspoints (n + 1)) s0 m args below meth c 0 0 Z 7 (iP H0) [(0, .int x0), (1, .int x1), (2, .int x2), (3, .int x3), (4, .int x4)] [] 13 := by
  delta bX5_crosspoints_13 at h
  refine aw_iload C dX5_crosspoints_13 4 rfl ?_
  refine aw_iload_n C dX5_crosspoints_15 0 rfl ?_
  refine aw_icmp_ge (tgt := 83) C dX5_crosspoints_16 (by decide) (fun c16 => ?_) (fun c16 => ?_)
  · have h := h.1 c16
    refine aw_lv [3] rfl ?_
    exact hk83 x3 h
  have h := h.2 c16
  refine aw_iload_n C dX5_crosspoints_19 0 rfl ?_
  refine aw_iload C dX5_crosspoints_20 4 rfl ?_
  obtain ⟨hz22, h⟩ := h
  refine aw_irem C dX5_crosspoints_22 hz22 ?_
  refine aw_if_ne (tgt := 77) C dX5_crosspoints_23 (by decide) (fun c23 => ?_) (fun c23 => ?_)
  · have h := h.2 c23
    obtain ⟨x4_77, ex4_77⟩ : ∃ y : Int32, y = x4 + 1 := ⟨_, rfl⟩
    have h := h x4_77 ex4_77
    refine aw_iinc (v := x4_77) (lv' := [(4, .int x4_77), (0, .int x0), (1, .int x1), (2, .int x2), (3, .int x3)]) C dX5_crosspoints_77 4 rfl (by rw [ex4_77]; rfl) (by decide) rfl ?_
    refine aw_goto (tgt := 13) C dX5_crosspoints_80 (by decide) ?_
    refine aw_lv [1, 2, 3, 4, 0] rfl ?_
    exact hkH x3 x4_77 h
  have h := h.1 c23
  refine aw_iload_n C dX5_crosspoints_26 0 rfl ?_
  refine aw_iload C dX5_crosspoints_27 4 rfl ?_
  obtain ⟨hz29, h⟩ := h
  refine aw_idiv C dX5_crosspoints_29 hz29 ?_
  refine aw_name (fun x5_30 ex5_30 => ?_)
  have h := h x5_30 ex5_30
  refine aw_istore (lv' := [(5, .int x5_30), (0, .int x0), (1, .int x1), (2, .int x2), (3, .int x3), (4, .int x4)]) C dX5_crosspoints_30 (by decide) rfl ?_
  refine aw_iload_n C dX5_crosspoints_32 3 rfl ?_
  refine aw_if_ne (tgt := 41) C dX5_crosspoints_33 (by decide) (fun c33 => ?_) (fun c33 => ?_)
  · have h := h.2 c33
    refine aw_iconst (v := 2) C dX5_crosspoints_41 (by decide) ?_
    refine aw_iload C dX5_crosspoints_42 5 rfl ?_
    refine aw_imul C dX5_crosspoints_44 ?_
    refine aw_iconst (v := 1) C dX5_crosspoints_45 (by decide) ?_
    refine aw_isub C dX5_crosspoints_46 ?_
    refine aw_name (fun x6_47 ex6_47 => ?_)
    have h := h x6_47 ex6_47
    refine aw_istore (lv' := [(6, .int x6_47), (5, .int x5_30), (0, .int x0), (1, .int x1), (2, .int x2), (3, .int x3), (4, .int x4)]) C dX5_crosspoints_47 (by decide) rfl ?_
    refine aw_iload_n C dX5_crosspoints_49 5 rfl ?_
    refine aw_iconst (v := 2) C dX5_crosspoints_50 (by decide) ?_
    refine aw_iload C dX5_crosspoints_51 1 rfl ?_
    refine aw_imul C dX5_crosspoints_53 ?_
    refine aw_iload C dX5_crosspoints_54 6 rfl ?_
    refine aw_imul C dX5_crosspoints_56 ?_
    refine aw_iload C dX5_crosspoints_57 0 rfl ?_
    refine aw_imul C dX5_crosspoints_59 ?_
    refine aw_iload C dX5_crosspoints_60 0 rfl ?_
    refine aw_iload C dX5_crosspoints_62 1 rfl ?_
    refine aw_iload_n C dX5_crosspoints_64 3 rfl ?_
    refine aw_iconst (v := 1) C dX5_crosspoints_65 (by decide) ?_
    refine aw_isub C dX5_crosspoints_66 ?_
    refine aw_iload_n C dX5_crosspoints_67 4 rfl ?_
    refine aw_callS (As := [.int x5_30, .int (x1 - 1), .int x2]) (rest := [.int x6_47, .int (((2 * x5_30) * x4) * x6_47), .int x3]) C (hrec x5_30 (x1 - 1) x2 _ h) (va_cwS 3 C.2.2.2.2.1 gX5_crosspoints_X5_crosspoints rfl rfl rfl (by decide +kernel) ⟨by simp only [rrX5_crosspoints, rrX5_crosspoints]; omega, by simp only [rrX5_crosspoints, rrX5_crosspoints]; omega⟩) rfl rfl (Nat.le_of_ble_eq_true rfl) ⟨rfl, rfl⟩ ⟨Nat.zero_le _, Nat.zero_le _⟩ dX5_crosspoints_68 (fun r68 h => ?_)
    refine aw_imul C dX5_crosspoints_71 ?_
    refine aw_iadd C dX5_crosspoints_72 ?_
    refine aw_mmin C dX5_crosspoints_73 qX5_crosspoints_methodLink_RX5_208_Lib_Math_min_name qX5_crosspoints_static_Lib_Math_min_name qX5_crosspoints_initialized qX5_crosspoints_code_Lib_Math_min_name_Lib_Math_min_code_2_some_int (by simp only [rrX5_crosspoints]; omega) (by simp only [rrX5_crosspoints]; exact Nat.le_trans (Nat.le_of_ble_eq_true rfl : _ ≤ 30) (by omega)) (Nat.zero_le _) (Nat.zero_le _) ?_
    refine aw_name (fun v73 ev73 => ?_)
    have h := h v73 ev73
    refine aw_istore_n (lv' := [(3, .int v73), (6, .int x6_47), (5, .int x5_30), (0, .int x0), (1, .int x1), (2, .int x2), (4, .int x4)]) C dX5_crosspoints_76 (by decide) rfl ?_
    obtain ⟨x4_77, ex4_77⟩ : ∃ y : Int32, y = x4 + 1 := ⟨_, rfl⟩
    have h := h x4_77 ex4_77
    refine aw_iinc (v := x4_77) (lv' := [(4, .int x4_77), (3, .int v73), (6, .int x6_47), (5, .int x5_30), (0, .int x0), (1, .int x1), (2, .int x2)]) C dX5_crosspoints_77 6 rfl (by rw [ex4_77]; rfl) (by decide) rfl ?_
    refine aw_goto (tgt := 13) C dX5_crosspoints_80 (by decide) ?_
    refine aw_lv [4, 5, 6, 1, 0] rfl ?_
    exact hkH v73 x4_77 h
  have h := h.1 c33
  refine aw_iload C dX5_crosspoints_36 5 rfl ?_
  refine aw_goto (tgt := 47) C dX5_crosspoints_38 (by decide) ?_
  refine aw_istore (lv' := [(6, .int x4), (5, .int x5_30), (0, .int x0), (1, .int x1), (2, .int x2), (3, .int x3), (4, .int x4)]) C dX5_crosspoints_47 (by decide) rfl ?_
  refine aw_iload_n C dX5_crosspoints_49 5 rfl ?_
  refine aw_iconst (v := 2) C dX5_crosspoints_50 (by decide) ?_
  refine aw_iload C dX5_crosspoints_51 1 rfl ?_
  refine aw_imul C dX5_crosspoints_53 ?_
  refine aw_iload C dX5_crosspoints_54 6 rfl ?_
  refine aw_imul C dX5_crosspoints_56 ?_
  refine aw_iload C dX5_crosspoints_57 0 rfl ?_
  refine aw_imul C dX5_crosspoints_59 ?_
  refine aw_iload C dX5_crosspoints_60 0 rfl ?_
  refine aw_iload C dX5_crosspoints_62 1 rfl ?_
  refine aw_iload_n C dX5_crosspoints_64 3 rfl ?_
  refine aw_iconst (v := 1) C dX5_crosspoints_65 (by decide) ?_
  refine aw_isub C dX5_crosspoints_66 ?_
  refine aw_iload_n C dX5_crosspoints_67 4 rfl ?_
  refine aw_callS (As := [.int x5_30, .int (x1 - 1), .int x2]) (rest := [.int x4, .int (((2 * x5_30) * x4) * x4), .int x3]) C (hrec x5_30 (x1 - 1) x2 _ h) (va_cwS 3 C.2.2.2.2.1 gX5_crosspoints_X5_crosspoints rfl rfl rfl (by decide +kernel) ⟨by simp only [rrX5_crosspoints, rrX5_crosspoints]; omega, by simp only [rrX5_crosspoints, rrX5_crosspoints]; omega⟩) rfl rfl (Nat.le_of_ble_eq_true rfl) ⟨rfl, rfl⟩ ⟨Nat.zero_le _, Nat.zero_le _⟩ dX5_crosspoints_68 (fun r68 h => ?_)
  refine aw_imul C dX5_crosspoints_71 ?_
  refine aw_iadd C dX5_crosspoints_72 ?_
  refine aw_mmin C dX5_crosspoints_73 qX5_crosspoints_methodLink_RX5_208_Lib_Math_min_name qX5_crosspoints_static_Lib_Math_min_name qX5_crosspoints_initialized qX5_crosspoints_code_Lib_Math_min_name_Lib_Math_min_code_2_some_int (by simp only [rrX5_crosspoints]; omega) (by simp only [rrX5_crosspoints]; exact Nat.le_trans (Nat.le_of_ble_eq_true rfl : _ ≤ 30) (by omega)) (Nat.zero_le _) (Nat.zero_le _) ?_
  refine aw_name (fun v73 ev73 => ?_)
  have h := h v73 ev73
  refine aw_istore_n (lv' := [(3, .int v73), (6, .int x4), (5, .int x5_30), (0, .int x0), (1, .int x1), (2, .int x2), (4, .int x4)]) C dX5_crosspoints_76 (by decide) rfl ?_
  obtain ⟨x4_77, ex4_77⟩ : ∃ y : Int32, y = x4 + 1 := ⟨_, rfl⟩
  have h := h x4_77 ex4_77
  refine aw_iinc (v := x4_77) (lv' := [(4, .int x4_77), (3, .int v73), (6, .int x4), (5, .int x5_30), (0, .int x0), (1, .int x1), (2, .int x2)]) C dX5_crosspoints_77 6 rfl (by rw [ex4_77]; rfl) (by decide) rfl ?_
  refine aw_goto (tgt := 13) C dX5_crosspoints_80 (by decide) ?_
  refine aw_lv [4, 5, 6, 1, 0] rfl ?_
  exact hkH v73 x4_77 h
theorem tlX5_crosspoints_13 (C : ctB p s0 m args c cX5_crosspoints 7 RX5 wsX5_crosspoints) {n : Nat} {rec : Int32 → Int32 → Int32 → (Int32 → Prop) → Prop} (hrec : ∀ (x0 : Int32) (x1 : Int32) (x2 : Int32) (Q : Int32 → Prop), rec x0 x1 x2 Q → mS l yX5_crosspoints wsX5_crosspoints (rrX5_crosspoints n) [.int x0, .int x1, .int x2] Q)  {x0 : Int32} {x1 : Int32} {x2 : Int32} {k83 : Int32 → Prop} (hk83 : ∀ (y3 : Int32), k83 y3 → atG p l e (rrX5_crosspoints (n + 1)) s0 m args below meth c 0 0 Z 7 (iP H0) [(3, .int y3)] [] 83) (x3 : Int32) (x4 : Int32) (h : lX5_crosspoints_13 rec x0 x1 x2 k83 x3 x4) : atG p l e (rrX5_crosspoints (n + 1)) s0 m args below meth c 0 0 Z 7 (iP H0) [(0, .int x0), (1, .int x1), (2, .int x2), (3, .int x3), (4, .int x4)] [] 13 :=
  lp_W (σ := Int32 × Int32) (P := fun q => atG p l e (rrX5_crosspoints (n + 1)) s0 m args below meth c 0 0 Z 7 (iP H0) [(0, .int x0), (1, .int x1), (2, .int x2), (3, .int q.1), (4, .int q.2)] [] 13) (fun K2 hK2 q hb => tbX5_crosspoints_13 C hrec hk83 (fun x3 x4 hk => hK2 (x3, x4) hk) q.1 q.2 hb) (x3, x4) h
theorem eX5_crosspoints (C : ctB p s0 m args c cX5_crosspoints 7 RX5 wsX5_crosspoints) {n : Nat} {rec : Int32 → Int32 → Int32 → (Int32 → Prop) → Prop} (hrec : ∀ (x0 : Int32) (x1 : Int32) (x2 : Int32) (Q : Int32 → Prop), rec x0 x1 x2 Q → mS l yX5_crosspoints wsX5_crosspoints (rrX5_crosspoints n) [.int x0, .int x1, .int x2] Q) {Q : Int32 → Prop} (hQ : ∀ (v : Int32), Q v → ∀ pc, decode cX5_crosspoints pc = .ok (.ireturn, 1) → atG p l e (rrX5_crosspoints (n + 1)) s0 m args below meth c 0 0 Z 7 (iP H0) [] [.int v] pc) (x0 : Int32) (x1 : Int32) (x2 : Int32) (h : pbX5_crosspoints rec  x0 x1 x2 Q) : atG p l e (rrX5_crosspoints (n + 1)) s0 m args below meth c 0 0 Z 7 (iP H0) [(0, .int x0), (1, .int x1), (2, .int x2)] [] 0 := by
  delta pbX5_crosspoints at h
  refine aw_iload_n C dX5_crosspoints_0 0 rfl ?_
  refine aw_iload_n C dX5_crosspoints_1 0 rfl ?_
  refine aw_imul C dX5_crosspoints_2 ?_
  refine aw_name (fun x3_3 ex3_3 => ?_)
  have h := h x3_3 ex3_3
  refine aw_istore_n (lv' := [(3, .int x3_3), (0, .int x0), (1, .int x1), (2, .int x2)]) C dX5_crosspoints_3 (by decide) rfl ?_
  refine aw_iload_n C dX5_crosspoints_4 2 rfl ?_
  refine aw_if_gt (tgt := 10) C dX5_crosspoints_5 (by decide) (fun c5 => ?_) (fun c5 => ?_)
  · have h := h.1 c5
    refine aw_iconst (v := 2) C dX5_crosspoints_10 (by decide) ?_
    refine aw_istore (lv' := [(4, .int 2), (3, .int x3_3), (0, .int x0), (1, .int x1), (2, .int x2)]) C dX5_crosspoints_11 (by decide) rfl ?_
    refine aw_lv [2, 3, 4, 1, 0] rfl ?_
    refine tlX5_crosspoints_13 C hrec ?_ x3_3 2 h
    intro z83_3 h
    refine aw_iload_n C dX5_crosspoints_83 0 rfl ?_
    refine aw_lv [] rfl ?_
    exact hQ z83_3 h 84 dX5_crosspoints_84
  have h := h.2 c5
  refine aw_iload_n C dX5_crosspoints_8 0 rfl ?_
  refine aw_lv [] rfl ?_
  exact hQ x3_3 h 9 dX5_crosspoints_9
end SX5_crosspoints
theorem mnX5_crosspoints (l : Launch) : ∀ (n : Nat) (x0 : Int32) (x1 : Int32) (x2 : Int32) (Q : Int32 → Prop), pnX5_crosspoints n x0 x1 x2 Q → mS l yX5_crosspoints wsX5_crosspoints (rrX5_crosspoints n) [.int x0, .int x1, .int x2] Q := by
  intro n
  induction n with
  | zero => intro  x0 x1 x2 Q h; exact h.elim
  | succ n ih =>
    intro  x0 x1 x2 Q hw
    exact metSI ⟨rfl, rfl⟩ (by decide) rfl (Nat.le_of_ble_eq_true rfl) (fun C hQ => eX5_crosspoints C ih hQ x0 x1 x2 hw)
theorem mtX5_crosspoints (l : Launch) (x0 : Int32) (x1 : Int32) (x2 : Int32) (Q : Int32 → Prop) (hw : pX5_crosspoints  x0 x1 x2 Q) : mS l yX5_crosspoints wsX5_crosspoints rmX5_crosspoints [.int x0, .int x1, .int x2] Q := mnX5_crosspoints l 4 x0 x1 x2 Q hw
