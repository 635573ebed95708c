def rmX4_holds : Room := { frames := 0, cells := 0, slots := 0, locals := 0 }
theorem inX4_holds_4 : ∀ w ∈ wsX40, w ∈ wsX4_holds := fun w h => (List.mem_cons_of_mem _ (List.mem_append_right _ h))
theorem qX4_holds_fieldLink_RX4_13 : Cond.fieldLink RX4 13 "StageSwitch$Sheet" "items" "[I" ∈ wsX4_holds := (List.mem_cons_of_mem _ (List.mem_append_left _ (List.mem_of_getElem? (i := 0) rfl)))
section SX4_holds
variable {p : Program} {l : Launch} {e : Env} {s0 : State} {m : MethodId} {args : Array Value} {below : List Frame} {meth : Method} {c : Code} {D : va_G} {A : Nat → Prop} {H0 : Heap} {cy : Nat → ClassId} {Z : State → Prop}
theorem eX4_holds (C : ctB p s0 m args c cX4_holds 3 RX4 wsX4_holds) (K : ctK s0 D A H0 cy) {o : Nat} {ad ln : Nat → Nat} {Q : Int32 → Prop} (s : St) (hQ : ∀ (v : Int32), narrow .boolean (.int v) = .int v → Q v → ∀ pc, decode cX4_holds pc = .ok (.ireturn, 1) → atG p l e rmX4_holds s0 m args below meth c 0 0 Z 3 (iW D A H0 (wX4 cy o ad ln s)) [] [.int v] pc) (x1 : Int32) (x2 : Int32) (h : pX4_holds ln s x1 x2 Q) : atG p l e rmX4_holds s0 m args below meth c 0 0 Z 3 (iW D A H0 (wX4 cy o ad ln s)) [(0, .ref o), (1, .int x1), (2, .int x2)] [] 0 := by
  delta pX4_holds at h
  refine aw_iload_n C dX4_holds_0 1 rfl ?_
  refine aw_if_lt (tgt := 32) C dX4_holds_1 (by decide) (fun c1 => ?_) (fun c1 => ?_)
  · have h := h.1 c1
    refine aw_iconst (v := 0) C dX4_holds_32 (by decide) ?_
    refine aw_lv [] rfl ?_
    exact hQ 0 rfl h 33 dX4_holds_33
  have h := h.2 c1
  refine aw_iload_n C dX4_holds_4 2 rfl ?_
  refine aw_if_lt (tgt := 32) C dX4_holds_5 (by decide) (fun c5 => ?_) (fun c5 => ?_)
  · have h := h.1 c5
    refine aw_iconst (v := 0) C dX4_holds_32 (by decide) ?_
    refine aw_lv [] rfl ?_
    exact hQ 0 rfl h 33 dX4_holds_33
  have h := h.2 c5
  refine aw_iload_n C dX4_holds_8 2 rfl ?_
  refine aw_aload_n C dX4_holds_9 0 rfl ?_
  refine aw_getX4 C K inX4_holds_4 dX4_holds_10 1 (by decide) qX4_holds_fieldLink_RX4_13 0 (wX4_g ..) rfl ?_
  refine aw_alen C K dX4_holds_13 1 0 (wX4_g1 ..) rfl ?_
  refine aw_icmp_gt (tgt := 32) C dX4_holds_14 (by decide) (fun c14 => ?_) (fun c14 => ?_)
  · have h := h.1 c14
    refine aw_iconst (v := 0) C dX4_holds_32 (by decide) ?_
    refine aw_lv [] rfl ?_
    exact hQ 0 rfl h 33 dX4_holds_33
  have h := h.2 c14
  refine aw_iload_n C dX4_holds_17 1 rfl ?_
  refine aw_aload_n C dX4_holds_18 0 rfl ?_
  refine aw_getX4 C K inX4_holds_4 dX4_holds_19 1 (by decide) qX4_holds_fieldLink_RX4_13 0 (wX4_g ..) rfl ?_
  refine aw_alen C K dX4_holds_22 1 0 (wX4_g1 ..) rfl ?_
  refine aw_iload_n C dX4_holds_23 2 rfl ?_
  refine aw_isub C dX4_holds_24 ?_
  refine aw_icmp_gt (tgt := 32) C dX4_holds_25 (by decide) (fun c25 => ?_) (fun c25 => ?_)
  · have h := h.1 c25
    refine aw_iconst (v := 0) C dX4_holds_32 (by decide) ?_
    refine aw_lv [] rfl ?_
    exact hQ 0 rfl h 33 dX4_holds_33
  have h := h.2 c25
  refine aw_iconst (v := 1) C dX4_holds_28 (by decide) ?_
  refine aw_goto (tgt := 33) C dX4_holds_29 (by decide) ?_
  refine aw_lv [] rfl ?_
  exact hQ 1 rfl h 33 dX4_holds_33
end SX4_holds
theorem mtX4_holds (l : Launch) (D : va_G) (cy : Nat → ClassId) (o : Nat) (ad ln : Nat → Nat) (s : St) (x1 : Int32) (x2 : Int32) (Q : Int32 → Prop) (hw : pX4_holds ln s x1 x2 Q) : mI l yX4_holds wsX4_holds rmX4_holds D cy [.ref o, .int x1, .int x2] (wX4 cy o ad ln s) (wX4 cy o ad ln) (fun r u => Q r ∧ u = s) :=
  metZ (ty := .boolean) (Wd := wX4 cy o ad ln) ⟨rfl, rfl⟩ (by decide) rfl (Nat.le_of_ble_eq_true rfl) (fun C K hQ => eX4_holds C K s (fun v hn hq => hQ v s hn ⟨hq, rfl⟩) x1 x2 hw)
def rmX4_cutToLane : Room := { frames := 0, cells := 0, slots := 0, locals := 0 }
theorem inX4_cutToLane_4 : ∀ w ∈ wsX40, w ∈ wsX4_cutToLane := fun w h => (List.mem_cons_of_mem _ (List.mem_append_right _ h))
theorem qX4_cutToLane_fieldLink_RX4_7 : Cond.fieldLink RX4 7 "StageSwitch$Sheet" "lane" "I" ∈ wsX4_cutToLane := (List.mem_cons_of_mem _ (List.mem_append_left _ (List.mem_of_getElem? (i := 0) rfl)))
section SX4_cutToLane
variable {p : Program} {l : Launch} {e : Env} {s0 : State} {m : MethodId} {args : Array Value} {below : List Frame} {meth : Method} {c : Code} {D : va_G} {A : Nat → Prop} {H0 : Heap} {cy : Nat → ClassId} {Z : State → Prop}
theorem eX4_cutToLane (C : ctB p s0 m args c cX4_cutToLane 2 RX4 wsX4_cutToLane) (K : ctK s0 D A H0 cy) {o : Nat} {ad ln : Nat → Nat} {Q : Int32 → Prop} (s : St) (hQ : ∀ (v : Int32), Q v → ∀ pc, decode cX4_cutToLane pc = .ok (.ireturn, 1) → atG p l e rmX4_cutToLane s0 m args below meth c 0 0 Z 2 (iW D A H0 (wX4 cy o ad ln s)) [] [.int v] pc) (x1 : Int32) (h : pX4_cutToLane ln s x1 Q) : atG p l e rmX4_cutToLane s0 m args below meth c 0 0 Z 2 (iW D A H0 (wX4 cy o ad ln s)) [(0, .ref o), (1, .int x1)] [] 0 := by
  delta pX4_cutToLane at h
  refine aw_aload_n C dX4_cutToLane_0 0 rfl ?_
  refine aw_getX4 C K inX4_cutToLane_4 dX4_cutToLane_1 0 (by decide) qX4_cutToLane_fieldLink_RX4_7 0 (wX4_g ..) rfl ?_
  refine aw_if_ne (tgt := 10) C dX4_cutToLane_4 (by decide) (fun c4 => ?_) (fun c4 => ?_)
  · have h := h.2 c4
    refine aw_aload_n C dX4_cutToLane_10 0 rfl ?_
    refine aw_getX4 C K inX4_cutToLane_4 dX4_cutToLane_11 0 (by decide) qX4_cutToLane_fieldLink_RX4_7 0 (wX4_g ..) rfl ?_
    refine aw_iconst (v := 1) C dX4_cutToLane_14 (by decide) ?_
    refine aw_icmp_ne (tgt := 23) C dX4_cutToLane_15 (by decide) (fun c15 => ?_) (fun c15 => ?_)
    · have h := h.2 c15
      refine aw_iload_n C dX4_cutToLane_23 1 rfl ?_
      refine aw_lv [] rfl ?_
      exact hQ x1 h 24 dX4_cutToLane_24
    have h := h.1 c15
    refine aw_iload_n C dX4_cutToLane_18 1 rfl ?_
    refine aw_i2s C dX4_cutToLane_19 ?_
    refine aw_goto (tgt := 24) C dX4_cutToLane_20 (by decide) ?_
    refine aw_lv [] rfl ?_
    exact hQ x1.toInt16.toInt32 h 24 dX4_cutToLane_24
  have h := h.1 c4
  refine aw_iload_n C dX4_cutToLane_7 1 rfl ?_
  refine aw_i2b C dX4_cutToLane_8 ?_
  refine aw_lv [] rfl ?_
  exact hQ x1.toInt8.toInt32 h 9 dX4_cutToLane_9
end SX4_cutToLane
theorem mtX4_cutToLane (l : Launch) (D : va_G) (cy : Nat → ClassId) (o : Nat) (ad ln : Nat → Nat) (s : St) (x1 : Int32) (Q : Int32 → Prop) (hw : pX4_cutToLane ln s x1 Q) : mI l yX4_cutToLane wsX4_cutToLane rmX4_cutToLane D cy [.ref o, .int x1] (wX4 cy o ad ln s) (wX4 cy o ad ln) (fun r u => Q r ∧ u = s) :=
  metI (Wd := wX4 cy o ad ln) ⟨rfl, rfl⟩ (by decide) rfl (Nat.le_of_ble_eq_true rfl) (fun C K hQ => eX4_cutToLane C K s (fun v hq => hQ v s ⟨hq, rfl⟩) x1 hw)
def rmX0_emptyTrace : Room := { frames := 0, cells := 0, slots := 0, locals := 0 }
theorem inX0_emptyTrace_0 : ∀ w ∈ wsX00, w ∈ wsX0_emptyTrace := fun w h => (List.mem_cons_of_mem _ (List.mem_append_right _ h))
theorem qX0_emptyTrace_fieldLink_RX0_15 : Cond.fieldLink RX0 15 "StageSwitch$Asks" "howMany" "I" ∈ wsX0_emptyTrace := (List.mem_cons_of_mem _ (List.mem_append_left _ (List.mem_of_getElem? (i := 0) rfl)))
section SX0_emptyTrace
variable {p : Program} {l : Launch} {e : Env} {s0 : State} {m : MethodId} {args : Array Value} {below : List Frame} {meth : Method} {c : Code} {D : va_G} {A : Nat → Prop} {H0 : Heap} {cy : Nat → ClassId} {Z : State → Prop}
theorem eX0_emptyTrace (C : ctB p s0 m args c cX0_emptyTrace 1 RX0 wsX0_emptyTrace) (K : ctK s0 D A H0 cy) {o : Nat} {ad : Nat → Nat} {Q : St → Prop} (hQ : ∀ (u : St), Q u → ∀ pc, decode cX0_emptyTrace pc = .ok (.return_, 1) → atG p l e rmX0_emptyTrace s0 m args below meth c 0 0 Z 1 (iW D A H0 (wX0 cy o ad u)) [] [] pc) (s : St)  (h : pX0_emptyTrace  s Q) : atG p l e rmX0_emptyTrace s0 m args below meth c 0 0 Z 1 (iW D A H0 (wX0 cy o ad s)) [(0, .ref o)] [] 0 := by
  delta pX0_emptyTrace at h
  refine aw_aload_n C dX0_emptyTrace_0 0 rfl ?_
  refine aw_iconst (v := 0) C dX0_emptyTrace_1 (by decide) ?_
  refine aw_putX0 (ty := .int) C K inX0_emptyTrace_0 dX0_emptyTrace_2 1 (by decide) qX0_emptyTrace_fieldLink_RX0_15 0 (wX0_g ..) rfl (by decide +kernel) rfl rfl (Nat.le_of_ble_eq_true rfl) (wX0_p1 ..) ?_
  obtain ⟨s2, es2⟩ : ∃ z, z = (uF s 1 0) := ⟨_, rfl⟩
  rw [← es2]
  have h := h s2 es2
  refine aw_lv [] rfl ?_
  exact hQ s2 h 5 dX0_emptyTrace_5
end SX0_emptyTrace
theorem mtX0_emptyTrace (l : Launch) (D : va_G) (cy : Nat → ClassId) (o : Nat) (ad : Nat → Nat) (s : St)  (Q : St → Prop) (hw : pX0_emptyTrace  s Q) : mV l yX0_emptyTrace wsX0_emptyTrace rmX0_emptyTrace D cy [.ref o] (wX0 cy o ad s) (wX0 cy o ad) Q :=
  metV (Wd := wX0 cy o ad) ⟨rfl, rfl⟩ (by decide) rfl (Nat.le_of_ble_eq_true rfl) (fun C K hQ => eX0_emptyTrace C K hQ s hw)
def rmX0_traced : Room := { frames := 1, cells := 0, slots := 0, locals := 22 }
theorem inX0_traced_0 : ∀ w ∈ wsX00, w ∈ wsX0_traced := fun w h => (List.mem_cons_of_mem _ (List.mem_append_right _ h))
theorem qX0_traced_fieldLink_RX0_15 : Cond.fieldLink RX0 15 "StageSwitch$Asks" "howMany" "I" ∈ wsX0_traced := (List.mem_cons_of_mem _ (List.mem_append_left _ (List.mem_of_getElem? (i := 0) rfl)))
theorem qX0_traced_initialized_RX5 : Cond.initialized RX5 ∈ wsX0_traced := (List.mem_cons_of_mem _ (List.mem_append_left _ (List.mem_of_getElem? (i := 4) rfl)))
theorem qX0_traced_static_yX5_within : Cond.static yX5_within ∈ wsX0_traced := (List.mem_cons_of_mem _ (List.mem_append_left _ (List.mem_of_getElem? (i := 3) rfl)))
theorem qX0_traced_constant_RX0_23_1000000 : Cond.constant RX0 23 (-1000000) ∈ wsX0_traced := (List.mem_cons_of_mem _ (List.mem_append_left _ (List.mem_of_getElem? (i := 2) rfl)))
theorem qX0_traced_fieldLink_RX0_9 : Cond.fieldLink RX0 9 "StageSwitch$Asks" "begun" "[I" ∈ wsX0_traced := (List.mem_cons_of_mem _ (List.mem_append_left _ (List.mem_of_getElem? (i := 1) rfl)))
section SX0_traced
variable {p : Program} {l : Launch} {e : Env} {s0 : State} {m : MethodId} {args : Array Value} {below : List Frame} {meth : Method} {c : Code} {D : va_G} {A : Nat → Prop} {H0 : Heap} {cy : Nat → ClassId} {Z : State → Prop}
theorem eX0_traced (C : ctB p s0 m args c cX0_traced 2 RX0 wsX0_traced) (K : ctK s0 D A H0 cy) {o : Nat} {ad : Nat → Nat} {Q : Int32 → Prop} (s : St) (hQ : ∀ (v : Int32), Q v → ∀ pc, decode cX0_traced pc = .ok (.ireturn, 1) → atG p l e rmX0_traced s0 m args below meth c 0 0 Z 2 (iW D A H0 (wX0 cy o ad s)) [] [.int v] pc) (x1 : Int32) (h : pX0_traced  s x1 Q) : atG p l e rmX0_traced s0 m args below meth c 0 0 Z 2 (iW D A H0 (wX0 cy o ad s)) [(0, .ref o), (1, .int x1)] [] 0 := by
  delta pX0_traced at h
  refine aw_iload_n C dX0_traced_0 1 rfl ?_
  refine aw_iconst (v := 0) C dX0_traced_1 (by decide) ?_
  refine aw_aload_n C dX0_traced_2 0 rfl ?_
  refine aw_getX0 C K inX0_traced_0 dX0_traced_3 1 (by decide) qX0_traced_fieldLink_RX0_15 0 (wX0_g ..) rfl ?_
  refine aw_iconst (v := 1) C dX0_traced_6 (by decide) ?_
  refine aw_isub C dX0_traced_7 ?_
  refine aw_callSN (As := [.int x1, .int 0, .int ((sF s 1) - 1)]) (rest := []) (y := yX5_within) C (mtX5_within l x1 0 ((sF s 1) - 1) _ h) ⟨va_cnB 3 C.2.2.2.2.1 gX0_traced_X5_within_n19 rfl rfl rfl (C.2.2.2.2.2.1 (RX0, 19, yX5_within) (by decide +kernel)) (C.2.2.2.2.1 _ qX0_traced_initialized_RX5) (by decide +kernel) ⟨Nat.le_of_ble_eq_true rfl, Nat.le_of_ble_eq_true rfl⟩, C.2.2.2.2.1 _ qX0_traced_static_yX5_within, trivial⟩ rfl rfl (Nat.le_of_ble_eq_true rfl) ⟨rfl, rfl⟩ ⟨Nat.zero_le _, Nat.zero_le _⟩ dX0_traced_8 (fun r8 h => ?_)
  refine aw_if_eq (tgt := 23) C dX0_traced_11 (by decide) (fun c11 => ?_) (fun c11 => ?_)
  · have h := h.1 c11
    refine aw_ldc (v := (-1000000)) C dX0_traced_23 qX0_traced_constant_RX0_23_1000000 ?_
    refine aw_lv [] rfl ?_
    exact hQ (-1000000) h 25 dX0_traced_25
  have h := h.2 c11
  refine aw_aload_n C dX0_traced_14 0 rfl ?_
  refine aw_getX0 C K inX0_traced_0 dX0_traced_15 0 (by decide) qX0_traced_fieldLink_RX0_9 0 (wX0_g ..) rfl ?_
  refine aw_iload_n C dX0_traced_18 1 rfl ?_
  obtain ⟨b19, h⟩ := h
  refine aw_iald C K dX0_traced_19 1 (wX0_g0 ..) b19 ?_
  refine aw_goto (tgt := 25) C dX0_traced_20 (by decide) ?_
  refine aw_lv [] rfl ?_
  exact hQ (sA s 0 x1.toNatClampNeg) h 25 dX0_traced_25
end SX0_traced
theorem mtX0_traced (l : Launch) (D : va_G) (cy : Nat → ClassId) (o : Nat) (ad : Nat → Nat) (s : St) (x1 : Int32) (Q : Int32 → Prop) (hw : pX0_traced  s x1 Q) : mI l yX0_traced wsX0_traced rmX0_traced D cy [.ref o, .int x1] (wX0 cy o ad s) (wX0 cy o ad) (fun r u => Q r ∧ u = s) :=
  metI (Wd := wX0 cy o ad) ⟨rfl, rfl⟩ (by decide) rfl (Nat.le_of_ble_eq_true rfl) (fun C K hQ => eX0_traced C K s (fun v hq => hQ v s ⟨hq, rfl⟩) x1 hw)
def rmX0_begin : Room := { frames := 0, cells := 0, slots := 0, locals := 0 }
theorem inX0_begin_0 : ∀ w ∈ wsX00, w ∈ wsX0_begin := fun w h => (List.mem_cons_of_mem _ (List.mem_append_right _ h))
theorem qX0_begin_fieldLink_RX0_15 : Cond.fieldLink RX0 15 "StageSwitch$Asks" "howMany" "I" ∈ wsX0_begin := (List.mem_cons_of_mem _ (List.mem_append_left _ (List.mem_of_getElem? (i := 0) rfl)))
theorem qX0_begin_fieldLink_RX0_9 : Cond.fieldLink RX0 9 "StageSwitch$Asks" "begun" "[I" ∈ wsX0_begin := (List.mem_cons_of_mem _ (List.mem_append_left _ (List.mem_of_getElem? (i := 1) rfl)))
section SX0_begin
variable {p : Program} {l : Launch} {e : Env} {s0 : State} {m : MethodId} {args : Array Value} {below : List Frame} {meth : Method} {c : Code} {D : va_G} {A : Nat → Prop} {H0 : Heap} {cy : Nat → ClassId} {Z : State → Prop}
theorem eX0_begin (C : ctB p s0 m args c cX0_begin 2 RX0 wsX0_begin) (K : ctK s0 D A H0 cy) {o : Nat} {ad : Nat → Nat} {Q : St → Prop} (hQ : ∀ (u : St), Q u → ∀ pc, decode cX0_begin pc = .ok (.return_, 1) → atG p l e rmX0_begin s0 m args below meth c 0 0 Z 2 (iW D A H0 (wX0 cy o ad u)) [] [] pc) (s : St) (x1 : Int32) (h : pX0_begin  s x1 Q) : atG p l e rmX0_begin s0 m args below meth c 0 0 Z 2 (iW D A H0 (wX0 cy o ad s)) [(0, .ref o), (1, .int x1)] [] 0 := by
  delta pX0_begin at h
  refine aw_aload_n C dX0_begin_0 0 rfl ?_
  refine aw_getX0 C K inX0_begin_0 dX0_begin_1 1 (by decide) qX0_begin_fieldLink_RX0_15 0 (wX0_g ..) rfl ?_
  refine aw_aload_n C dX0_begin_4 0 rfl ?_
  refine aw_getX0 C K inX0_begin_0 dX0_begin_5 0 (by decide) qX0_begin_fieldLink_RX0_9 0 (wX0_g ..) rfl ?_
  refine aw_alen C K dX0_begin_8 1 0 (wX0_g0 ..) rfl ?_
  refine aw_icmp_ge (tgt := 32) C dX0_begin_9 (by decide) (fun c9 => ?_) (fun c9 => ?_)
  · have h := h.1 c9
    refine aw_lv [] rfl ?_
    exact hQ s h 32 dX0_begin_32
  have h := h.2 c9
  refine aw_aload_n C dX0_begin_12 0 rfl ?_
  refine aw_getX0 C K inX0_begin_0 dX0_begin_13 0 (by decide) qX0_begin_fieldLink_RX0_9 0 (wX0_g ..) rfl ?_
  refine aw_aload_n C dX0_begin_16 0 rfl ?_
  refine aw_getX0 C K inX0_begin_0 dX0_begin_17 1 (by decide) qX0_begin_fieldLink_RX0_15 0 (wX0_g ..) rfl ?_
  refine aw_iload_n C dX0_begin_20 1 rfl ?_
  obtain ⟨b21, h⟩ := h
  refine aw_iast C K dX0_begin_21 1 (wX0_g0 ..) (wX0_s0 ..) b21 ?_
  obtain ⟨s21, es21⟩ : ∃ z, z = (uA s 0 (upd (sA s 0) (sF s 1).toNatClampNeg x1)) := ⟨_, rfl⟩
  rw [← es21]
  have h := h s21 es21
  refine aw_aload_n C dX0_begin_22 0 rfl ?_
  refine aw_dup C dX0_begin_23 rfl ?_
  refine aw_getX0 C K inX0_begin_0 dX0_begin_24 1 (by decide) qX0_begin_fieldLink_RX0_15 0 (wX0_g ..) rfl ?_
  refine aw_iconst (v := 1) C dX0_begin_27 (by decide) ?_
  refine aw_iadd C dX0_begin_28 ?_
  refine aw_putX0 (ty := .int) C K inX0_begin_0 dX0_begin_29 1 (by decide) qX0_begin_fieldLink_RX0_15 0 (wX0_g ..) rfl (by decide +kernel) rfl rfl (Nat.le_of_ble_eq_true rfl) (wX0_p1 ..) ?_
  obtain ⟨s29, es29⟩ : ∃ z, z = (uF s21 1 ((sF s21 1) + 1)) := ⟨_, rfl⟩
  rw [← es29]
  have h := h s29 es29
  refine aw_lv [] rfl ?_
  exact hQ s29 h 32 dX0_begin_32
end SX0_begin
theorem mtX0_begin (l : Launch) (D : va_G) (cy : Nat → ClassId) (o : Nat) (ad : Nat → Nat) (s : St) (x1 : Int32) (Q : St → Prop) (hw : pX0_begin  s x1 Q) : mV l yX0_begin wsX0_begin rmX0_begin D cy [.ref o, .int x1] (wX0 cy o ad s) (wX0 cy o ad) Q :=
  metV (Wd := wX0 cy o ad) ⟨rfl, rfl⟩ (by decide) rfl (Nat.le_of_ble_eq_true rfl) (fun C K hQ => eX0_begin C K hQ s x1 hw)
def rmX0_sizeOfNet : Room := { frames := 1, cells := 0, slots := 0, locals := 21 }
theorem inX0_sizeOfNet_0 : ∀ w ∈ wsX00, w ∈ wsX0_sizeOfNet := fun w h => (List.mem_cons_of_mem _ (List.mem_append_right _ h))
theorem inX0_sizeOfNet_1 : ∀ w ∈ wsX10, w ∈ wsX0_sizeOfNet := fun w h => (List.mem_cons_of_mem _ (List.mem_append_left _ (List.mem_append_right _ h)))
theorem qX0_sizeOfNet_fieldLink_RX0_56 : Cond.fieldLink RX0 56 "StageSwitch$Net" "lines" "I" ∈ wsX0_sizeOfNet := (List.mem_cons_of_mem _ (List.mem_append_left _ (List.mem_append_left _ (List.mem_of_getElem? (i := 0) rfl))))
section SX0_sizeOfNet
variable {p : Program} {l : Launch} {e : Env} {s0 : State} {m : MethodId} {args : Array Value} {below : List Frame} {meth : Method} {c : Code} {D : va_G} {A : Nat → Prop} {H0 : Heap} {cy : Nat → ClassId} {Z : State → Prop}
theorem eX0_sizeOfNet (C : ctB p s0 m args c cX0_sizeOfNet 2 RX0 wsX0_sizeOfNet) (K : ctK s0 D A H0 cy) {o : Nat} {ad : Nat → Nat} {o1 : Nat} {ad1 ln1 : Nat → Nat} {Q : Int32 → (St × St) → Prop} (hQ : ∀ (v : Int32) (u : St × St), Q v u → ∀ pc, decode cX0_sizeOfNet pc = .ok (.ireturn, 1) → atG p l e rmX0_sizeOfNet s0 m args below meth c 0 0 Z 2 (iW D A H0 (wX01 cy o ad o1 ad1 ln1 u)) [] [.int v] pc) (s : St × St)  (h : pX0_sizeOfNet ln1 s Q) : atG p l e rmX0_sizeOfNet s0 m args below meth c 0 0 Z 2 (iW D A H0 (wX01 cy o ad o1 ad1 ln1 s)) [(0, .ref o), (1, .ref o1)] [] 0 := by
  delta pX0_sizeOfNet at h
  refine aw_aload_n C dX0_sizeOfNet_0 0 rfl ?_
  refine aw_bipush (v := 10) C dX0_sizeOfNet_1 (by decide) ?_
  refine aw_callFV (cells2 := 0) (slots2 := 0) (Wx := (fun u => (wX01 cy o ad o1 ad1 ln1 (u, s.2)))) (wr := (wX1 cy o1 ad1 ln1 s.2)) (As := [.int 10]) (rest := []) C K (mtX0_begin l D cy o ad s.1 10 _ h) (List.Perm.refl _) (fun u => List.Perm.refl _) (cwV 1 C.2.2.2.2.1 gX0_sizeOfNet_X0_begin rfl rfl rfl (by decide +kernel) ⟨Nat.le_of_ble_eq_true rfl, Nat.le_of_ble_eq_true rfl⟩) 0 0 (wX0_g ..) rfl rfl rfl rfl (Nat.le_of_ble_eq_true rfl) rfl rfl ⟨Nat.le_of_ble_eq_true rfl, Nat.le_of_ble_eq_true rfl⟩ dX0_sizeOfNet_3 (fun u3 h => ?_)
  refine aw_perm (w1 := (wX01 cy o ad o1 ad1 ln1 (u3, s.2))) (List.Perm.refl _) ?_
  obtain ⟨s3, es3⟩ : ∃ z, z = (u3, s.2) := ⟨_, rfl⟩
  rw [← es3]
  have h := h s3 es3
  refine aw_aload_n C dX0_sizeOfNet_6 1 rfl ?_
  refine aw_getX1 C K inX0_sizeOfNet_1 dX0_sizeOfNet_7 3 (by decide) qX0_sizeOfNet_fieldLink_RX0_56 2 (wX01_1g ..) rfl ?_
  refine aw_lv [] rfl ?_
  exact hQ (sF s3.2 3) s3 h 10 dX0_sizeOfNet_10
end SX0_sizeOfNet
theorem mtX0_sizeOfNet (l : Launch) (D : va_G) (cy : Nat → ClassId) (o : Nat) (ad : Nat → Nat) (o1 : Nat) (ad1 ln1 : Nat → Nat) (s : St × St)  (Q : Int32 → (St × St) → Prop) (hw : pX0_sizeOfNet ln1 s Q) : mI l yX0_sizeOfNet wsX0_sizeOfNet rmX0_sizeOfNet D cy [.ref o, .ref o1] (wX01 cy o ad o1 ad1 ln1 s) (wX01 cy o ad o1 ad1 ln1) Q :=
  metI (Wd := wX01 cy o ad o1 ad1 ln1) ⟨rfl, rfl⟩ (by decide) rfl (Nat.le_of_ble_eq_true rfl) (fun C K hQ => eX0_sizeOfNet C K hQ s hw)
def rmX0_sizeOfLoose : Room := { frames := 2, cells := 0, slots := 0, locals := 42 }
theorem inX0_sizeOfLoose_0 : ∀ w ∈ wsX00, w ∈ wsX0_sizeOfLoose := fun w h => (List.mem_cons_of_mem _ (List.mem_append_right _ h))
theorem inX0_sizeOfLoose_1 : ∀ w ∈ wsX10, w ∈ wsX0_sizeOfLoose := fun w h => (List.mem_cons_of_mem _ (List.mem_append_left _ (List.mem_append_right _ h)))
theorem qX0_sizeOfLoose_fieldLink_RX0_59 : Cond.fieldLink RX0 59 "StageSwitch$Net" "alive" "I" ∈ wsX0_sizeOfLoose := (List.mem_cons_of_mem _ (List.mem_append_left _ (List.mem_append_left _ (List.mem_of_getElem? (i := 0) rfl))))
section SX0_sizeOfLoose
variable {p : Program} {l : Launch} {e : Env} {s0 : State} {m : MethodId} {args : Array Value} {below : List Frame} {meth : Method} {c : Code} {D : va_G} {A : Nat → Prop} {H0 : Heap} {cy : Nat → ClassId} {Z : State → Prop}
theorem eX0_sizeOfLoose (C : ctB p s0 m args c cX0_sizeOfLoose 2 RX0 wsX0_sizeOfLoose) (K : ctK s0 D A H0 cy) {o : Nat} {ad : Nat → Nat} {o1 : Nat} {ad1 ln1 : Nat → Nat} {Q : Int32 → (St × St) → Prop} (hQ : ∀ (v : Int32) (u : St × St), Q v u → ∀ pc, decode cX0_sizeOfLoose pc = .ok (.ireturn, 1) → atG p l e rmX0_sizeOfLoose s0 m args below meth c 0 0 Z 2 (iW D A H0 (wX01 cy o ad o1 ad1 ln1 u)) [] [.int v] pc) (s : St × St)  (h : pX0_sizeOfLoose ln1 s Q) : atG p l e rmX0_sizeOfLoose s0 m args below meth c 0 0 Z 2 (iW D A H0 (wX01 cy o ad o1 ad1 ln1 s)) [(0, .ref o), (1, .ref o1)] [] 0 := by
  delta pX0_sizeOfLoose at h
  refine aw_aload_n C dX0_sizeOfLoose_0 0 rfl ?_
  refine aw_bipush (v := 11) C dX0_sizeOfLoose_1 (by decide) ?_
  refine aw_callFV (cells2 := 0) (slots2 := 0) (Wx := (fun u => (wX01 cy o ad o1 ad1 ln1 (u, s.2)))) (wr := (wX1 cy o1 ad1 ln1 s.2)) (As := [.int 11]) (rest := []) C K (mtX0_begin l D cy o ad s.1 11 _ h) (List.Perm.refl _) (fun u => List.Perm.refl _) (cwV 1 C.2.2.2.2.1 gX0_sizeOfLoose_X0_begin rfl rfl rfl (by decide +kernel) ⟨Nat.le_of_ble_eq_true rfl, Nat.le_of_ble_eq_true rfl⟩) 0 0 (wX0_g ..) rfl rfl rfl rfl (Nat.le_of_ble_eq_true rfl) rfl rfl ⟨Nat.le_of_ble_eq_true rfl, Nat.le_of_ble_eq_true rfl⟩ dX0_sizeOfLoose_3 (fun u3 h => ?_)
  refine aw_perm (w1 := (wX01 cy o ad o1 ad1 ln1 (u3, s.2))) (List.Perm.refl _) ?_
  obtain ⟨s3, es3⟩ : ∃ z, z = (u3, s.2) := ⟨_, rfl⟩
  rw [← es3]
  have h := h s3 es3
  refine aw_aload_n C dX0_sizeOfLoose_6 0 rfl ?_
  refine aw_aload_n C dX0_sizeOfLoose_7 1 rfl ?_
  refine aw_callI (As := [.ref o1]) (rest := []) C K (mtX0_sizeOfNet l D cy o ad o1 ad1 ln1 s3 _ h) (cwV 1 C.2.2.2.2.1 gX0_sizeOfLoose_X0_sizeOfNet rfl rfl rfl (by decide +kernel) ⟨Nat.le_of_ble_eq_true rfl, Nat.le_of_ble_eq_true rfl⟩) 0 0 (wX01_0g ..) rfl rfl rfl rfl (Nat.le_of_ble_eq_true rfl) ⟨Nat.le_of_ble_eq_true rfl, Nat.le_of_ble_eq_true rfl⟩ dX0_sizeOfLoose_8 (fun r8 s8 h => ?_)
  refine aw_aload_n C dX0_sizeOfLoose_11 1 rfl ?_
  refine aw_getX1 C K inX0_sizeOfLoose_1 dX0_sizeOfLoose_12 13 (by decide) qX0_sizeOfLoose_fieldLink_RX0_59 2 (wX01_1g ..) rfl ?_
  refine aw_iadd C dX0_sizeOfLoose_15 ?_
  refine aw_lv [] rfl ?_
  exact hQ (r8 + (sF s8.2 13)) s8 h 16 dX0_sizeOfLoose_16
end SX0_sizeOfLoose
theorem mtX0_sizeOfLoose (l : Launch) (D : va_G) (cy : Nat → ClassId) (o : Nat) (ad : Nat → Nat) (o1 : Nat) (ad1 ln1 : Nat → Nat) (s : St × St)  (Q : Int32 → (St × St) → Prop) (hw : pX0_sizeOfLoose ln1 s Q) : mI l yX0_sizeOfLoose wsX0_sizeOfLoose rmX0_sizeOfLoose D cy [.ref o, .ref o1] (wX01 cy o ad o1 ad1 ln1 s) (wX01 cy o ad o1 ad1 ln1) Q :=
  metI (Wd := wX01 cy o ad o1 ad1 ln1) ⟨rfl, rfl⟩ (by decide) rfl (Nat.le_of_ble_eq_true rfl) (fun C K hQ => eX0_sizeOfLoose C K hQ s hw)
def rmX0_markOfNet : Room := { frames := 1, cells := 0, slots := 0, locals := 21 }
theorem inX0_markOfNet_0 : ∀ w ∈ wsX00, w ∈ wsX0_markOfNet := fun w h => (List.mem_cons_of_mem _ (List.mem_append_right _ h))
theorem inX0_markOfNet_1 : ∀ w ∈ wsX10, w ∈ wsX0_markOfNet := fun w h => (List.mem_cons_of_mem _ (List.mem_append_left _ (List.mem_append_right _ h)))
theorem qX0_markOfNet_fieldLink_RX0_62 : Cond.fieldLink RX0 62 "StageSwitch$Net" "calls" "I" ∈ wsX0_markOfNet := (List.mem_cons_of_mem _ (List.mem_append_left _ (List.mem_append_left _ (List.mem_of_getElem? (i := 0) rfl))))
section SX0_markOfNet
variable {p : Program} {l : Launch} {e : Env} {s0 : State} {m : MethodId} {args : Array Value} {below : List Frame} {meth : Method} {c : Code} {D : va_G} {A : Nat → Prop} {H0 : Heap} {cy : Nat → ClassId} {Z : State → Prop}
theorem eX0_markOfNet (C : ctB p s0 m args c cX0_markOfNet 2 RX0 wsX0_markOfNet) (K : ctK s0 D A H0 cy) {o : Nat} {ad : Nat → Nat} {o1 : Nat} {ad1 ln1 : Nat → Nat} {Q : Int32 → (St × St) → Prop} (hQ : ∀ (v : Int32) (u : St × St), Q v u → ∀ pc, decode cX0_markOfNet pc = .ok (.ireturn, 1) → atG p l e rmX0_markOfNet s0 m args below meth c 0 0 Z 2 (iW D A H0 (wX01 cy o ad o1 ad1 ln1 u)) [] [.int v] pc) (s : St × St)  (h : pX0_markOfNet ln1 s Q) : atG p l e rmX0_markOfNet s0 m args below meth c 0 0 Z 2 (iW D A H0 (wX01 cy o ad o1 ad1 ln1 s)) [(0, .ref o), (1, .ref o1)] [] 0 := by
  delta pX0_markOfNet at h
  refine aw_aload_n C dX0_markOfNet_0 0 rfl ?_
  refine aw_bipush (v := 20) C dX0_markOfNet_1 (by decide) ?_
  refine aw_callFV (cells2 := 0) (slots2 := 0) (Wx := (fun u => (wX01 cy o ad o1 ad1 ln1 (u, s.2)))) (wr := (wX1 cy o1 ad1 ln1 s.2)) (As := [.int 20]) (rest := []) C K (mtX0_begin l D cy o ad s.1 20 _ h) (List.Perm.refl _) (fun u => List.Perm.refl _) (cwV 1 C.2.2.2.2.1 gX0_markOfNet_X0_begin rfl rfl rfl (by decide +kernel) ⟨Nat.le_of_ble_eq_true rfl, Nat.le_of_ble_eq_true rfl⟩) 0 0 (wX0_g ..) rfl rfl rfl rfl (Nat.le_of_ble_eq_true rfl) rfl rfl ⟨Nat.le_of_ble_eq_true rfl, Nat.le_of_ble_eq_true rfl⟩ dX0_markOfNet_3 (fun u3 h => ?_)
  refine aw_perm (w1 := (wX01 cy o ad o1 ad1 ln1 (u3, s.2))) (List.Perm.refl _) ?_
  obtain ⟨s3, es3⟩ : ∃ z, z = (u3, s.2) := ⟨_, rfl⟩
  rw [← es3]
  have h := h s3 es3
  refine aw_aload_n C dX0_markOfNet_6 1 rfl ?_
  refine aw_getX1 C K inX0_markOfNet_1 dX0_markOfNet_7 14 (by decide) qX0_markOfNet_fieldLink_RX0_62 2 (wX01_1g ..) rfl ?_
  refine aw_lv [] rfl ?_
  exact hQ (sF s3.2 14) s3 h 10 dX0_markOfNet_10
end SX0_markOfNet
theorem mtX0_markOfNet (l : Launch) (D : va_G) (cy : Nat → ClassId) (o : Nat) (ad : Nat → Nat) (o1 : Nat) (ad1 ln1 : Nat → Nat) (s : St × St)  (Q : Int32 → (St × St) → Prop) (hw : pX0_markOfNet ln1 s Q) : mI l yX0_markOfNet wsX0_markOfNet rmX0_markOfNet D cy [.ref o, .ref o1] (wX01 cy o ad o1 ad1 ln1 s) (wX01 cy o ad o1 ad1 ln1) Q :=
  metI (Wd := wX01 cy o ad o1 ad1 ln1) ⟨rfl, rfl⟩ (by decide) rfl (Nat.le_of_ble_eq_true rfl) (fun C K hQ => eX0_markOfNet C K hQ s hw)
def rmX0_markOfLoose : Room := { frames := 2, cells := 0, slots := 0, locals := 42 }
theorem inX0_markOfLoose_0 : ∀ w ∈ wsX00, w ∈ wsX0_markOfLoose := fun w h => (List.mem_cons_of_mem _ (List.mem_append_left _ (List.mem_append_right _ h)))
theorem inX0_markOfLoose_1 : ∀ w ∈ wsX10, w ∈ wsX0_markOfLoose := fun w h => (List.mem_cons_of_mem _ (List.mem_append_right _ h))
section SX0_markOfLoose
variable {p : Program} {l : Launch} {e : Env} {s0 : State} {m : MethodId} {args : Array Value} {below : List Frame} {meth : Method} {c : Code} {D : va_G} {A : Nat → Prop} {H0 : Heap} {cy : Nat → ClassId} {Z : State → Prop}
theorem eX0_markOfLoose (C : ctB p s0 m args c cX0_markOfLoose 2 RX0 wsX0_markOfLoose) (K : ctK s0 D A H0 cy) {o : Nat} {ad : Nat → Nat} {o1 : Nat} {ad1 ln1 : Nat → Nat} {Q : Int32 → (St × St) → Prop} (hQ : ∀ (v : Int32) (u : St × St), Q v u → ∀ pc, decode cX0_markOfLoose pc = .ok (.ireturn, 1) → atG p l e rmX0_markOfLoose s0 m args below meth c 0 0 Z 2 (iW D A H0 (wX01 cy o ad o1 ad1 ln1 u)) [] [.int v] pc) (s : St × St)  (h : pX0_markOfLoose ln1 s Q) : atG p l e rmX0_markOfLoose s0 m args below meth c 0 0 Z 2 (iW D A H0 (wX01 cy o ad o1 ad1 ln1 s)) [(0, .ref o), (1, .ref o1)] [] 0 := by
  delta pX0_markOfLoose at h
  refine aw_aload_n C dX0_markOfLoose_0 0 rfl ?_
  refine aw_bipush (v := 21) C dX0_markOfLoose_1 (by decide) ?_
  refine aw_callFV (cells2 := 0) (slots2 := 0) (Wx := (fun u => (wX01 cy o ad o1 ad1 ln1 (u, s.2)))) (wr := (wX1 cy o1 ad1 ln1 s.2)) (As := [.int 21]) (rest := []) C K (mtX0_begin l D cy o ad s.1 21 _ h) (List.Perm.refl _) (fun u => List.Perm.refl _) (cwV 1 C.2.2.2.2.1 gX0_markOfLoose_X0_begin rfl rfl rfl (by decide +kernel) ⟨Nat.le_of_ble_eq_true rfl, Nat.le_of_ble_eq_true rfl⟩) 0 0 (wX0_g ..) rfl rfl rfl rfl (Nat.le_of_ble_eq_true rfl) rfl rfl ⟨Nat.le_of_ble_eq_true rfl, Nat.le_of_ble_eq_true rfl⟩ dX0_markOfLoose_3 (fun u3 h => ?_)
  refine aw_perm (w1 := (wX01 cy o ad o1 ad1 ln1 (u3, s.2))) (List.Perm.refl _) ?_
  obtain ⟨s3, es3⟩ : ∃ z, z = (u3, s.2) := ⟨_, rfl⟩
  rw [← es3]
  have h := h s3 es3
  refine aw_aload_n C dX0_markOfLoose_6 0 rfl ?_
  refine aw_aload_n C dX0_markOfLoose_7 1 rfl ?_
  refine aw_callI (As := [.ref o1]) (rest := []) C K (mtX0_markOfNet l D cy o ad o1 ad1 ln1 s3 _ h) (cwV 1 C.2.2.2.2.1 gX0_markOfLoose_X0_markOfNet rfl rfl rfl (by decide +kernel) ⟨Nat.le_of_ble_eq_true rfl, Nat.le_of_ble_eq_true rfl⟩) 0 0 (wX01_0g ..) rfl rfl rfl rfl (Nat.le_of_ble_eq_true rfl) ⟨Nat.le_of_ble_eq_true rfl, Nat.le_of_ble_eq_true rfl⟩ dX0_markOfLoose_8 (fun r8 s8 h => ?_)
  refine aw_bipush (v := 100) C dX0_markOfLoose_11 (by decide) ?_
  refine aw_iadd C dX0_markOfLoose_13 ?_
  refine aw_lv [] rfl ?_
  exact hQ (r8 + 100) s8 h 14 dX0_markOfLoose_14
end SX0_markOfLoose
theorem mtX0_markOfLoose (l : Launch) (D : va_G) (cy : Nat → ClassId) (o : Nat) (ad : Nat → Nat) (o1 : Nat) (ad1 ln1 : Nat → Nat) (s : St × St)  (Q : Int32 → (St × St) → Prop) (hw : pX0_markOfLoose ln1 s Q) : mI l yX0_markOfLoose wsX0_markOfLoose rmX0_markOfLoose D cy [.ref o, .ref o1] (wX01 cy o ad o1 ad1 ln1 s) (wX01 cy o ad o1 ad1 ln1) Q :=
  metI (Wd := wX01 cy o ad o1 ad1 ln1) ⟨rfl, rfl⟩ (by decide) rfl (Nat.le_of_ble_eq_true rfl) (fun C K hQ => eX0_markOfLoose C K hQ s hw)
def rmX0_sizeOfStrict : Room := { frames := 3, cells := 0, slots := 0, locals := 63 }
theorem inX0_sizeOfStrict_0 : ∀ w ∈ wsX00, w ∈ wsX0_sizeOfStrict := fun w h => (List.mem_cons_of_mem _ (List.mem_append_left _ (List.mem_append_right _ h)))
theorem inX0_sizeOfStrict_1 : ∀ w ∈ wsX10, w ∈ wsX0_sizeOfStrict := fun w h => (List.mem_cons_of_mem _ (List.mem_append_right _ h))
section SX0_sizeOfStrict
variable {p : Program} {l : Launch} {e : Env} {s0 : State} {m : MethodId} {args : Array Value} {below : List Frame} {meth : Method} {c : Code} {D : va_G} {A : Nat → Prop} {H0 : Heap} {cy : Nat → ClassId} {Z : State → Prop}
theorem eX0_sizeOfStrict (C : ctB p s0 m args c cX0_sizeOfStrict 3 RX0 wsX0_sizeOfStrict) (K : ctK s0 D A H0 cy) {o : Nat} {ad : Nat → Nat} {o1 : Nat} {ad1 ln1 : Nat → Nat} {Q : Int32 → (St × St) → Prop} (hQ : ∀ (v : Int32) (u : St × St), Q v u → ∀ pc, decode cX0_sizeOfStrict pc = .ok (.ireturn, 1) → atG p l e rmX0_sizeOfStrict s0 m args below meth c 0 0 Z 3 (iW D A H0 (wX01 cy o ad o1 ad1 ln1 u)) [] [.int v] pc) (s : St × St)  (h : pX0_sizeOfStrict ln1 s Q) : atG p l e rmX0_sizeOfStrict s0 m args below meth c 0 0 Z 3 (iW D A H0 (wX01 cy o ad o1 ad1 ln1 s)) [(0, .ref o), (1, .ref o1)] [] 0 := by
  delta pX0_sizeOfStrict at h
  refine aw_aload_n C dX0_sizeOfStrict_0 0 rfl ?_
  refine aw_bipush (v := 12) C dX0_sizeOfStrict_1 (by decide) ?_
  refine aw_callFV (cells2 := 0) (slots2 := 0) (Wx := (fun u => (wX01 cy o ad o1 ad1 ln1 (u, s.2)))) (wr := (wX1 cy o1 ad1 ln1 s.2)) (As := [.int 12]) (rest := []) C K (mtX0_begin l D cy o ad s.1 12 _ h) (List.Perm.refl _) (fun u => List.Perm.refl _) (cwV 1 C.2.2.2.2.1 gX0_sizeOfStrict_X0_begin rfl rfl rfl (by decide +kernel) ⟨Nat.le_of_ble_eq_true rfl, Nat.le_of_ble_eq_true rfl⟩) 0 0 (wX0_g ..) rfl rfl rfl rfl (Nat.le_of_ble_eq_true rfl) rfl rfl ⟨Nat.le_of_ble_eq_true rfl, Nat.le_of_ble_eq_true rfl⟩ dX0_sizeOfStrict_3 (fun u3 h => ?_)
  refine aw_perm (w1 := (wX01 cy o ad o1 ad1 ln1 (u3, s.2))) (List.Perm.refl _) ?_
  obtain ⟨s3, es3⟩ : ∃ z, z = (u3, s.2) := ⟨_, rfl⟩
  rw [← es3]
  have h := h s3 es3
  refine aw_aload_n C dX0_sizeOfStrict_6 0 rfl ?_
  refine aw_aload_n C dX0_sizeOfStrict_7 1 rfl ?_
  refine aw_callI (As := [.ref o1]) (rest := []) C K (mtX0_sizeOfLoose l D cy o ad o1 ad1 ln1 s3 _ h) (cwV 1 C.2.2.2.2.1 gX0_sizeOfStrict_X0_sizeOfLoose rfl rfl rfl (by decide +kernel) ⟨Nat.le_of_ble_eq_true rfl, Nat.le_of_ble_eq_true rfl⟩) 0 0 (wX01_0g ..) rfl rfl rfl rfl (Nat.le_of_ble_eq_true rfl) ⟨Nat.le_of_ble_eq_true rfl, Nat.le_of_ble_eq_true rfl⟩ dX0_sizeOfStrict_8 (fun r8 s8 h => ?_)
  refine aw_istore_n (lv' := [(2, .int r8), (0, .ref o), (1, .ref o1)]) C dX0_sizeOfStrict_11 (by decide) rfl ?_
  refine aw_iload_n C dX0_sizeOfStrict_12 0 rfl ?_
  refine aw_aload_n C dX0_sizeOfStrict_13 1 rfl ?_
  refine aw_aload_n C dX0_sizeOfStrict_14 2 rfl ?_
  refine aw_callI (As := [.ref o1]) (rest := [.int r8]) C K (mtX0_markOfLoose l D cy o ad o1 ad1 ln1 s8 _ h) (cwV 1 C.2.2.2.2.1 gX0_sizeOfStrict_X0_markOfLoose rfl rfl rfl (by decide +kernel) ⟨Nat.le_of_ble_eq_true rfl, Nat.le_of_ble_eq_true rfl⟩) 0 0 (wX01_0g ..) rfl rfl rfl rfl (Nat.le_of_ble_eq_true rfl) ⟨Nat.le_of_ble_eq_true rfl, Nat.le_of_ble_eq_true rfl⟩ dX0_sizeOfStrict_15 (fun r15 s15 h => ?_)
  refine aw_iadd C dX0_sizeOfStrict_18 ?_
  refine aw_lv [] rfl ?_
  exact hQ (r8 + r15) s15 h 19 dX0_sizeOfStrict_19
end SX0_sizeOfStrict
theorem mtX0_sizeOfStrict (l : Launch) (D : va_G) (cy : Nat → ClassId) (o : Nat) (ad : Nat → Nat) (o1 : Nat) (ad1 ln1 : Nat → Nat) (s : St × St)  (Q : Int32 → (St × St) → Prop) (hw : pX0_sizeOfStrict ln1 s Q) : mI l yX0_sizeOfStrict wsX0_sizeOfStrict rmX0_sizeOfStrict D cy [.ref o, .ref o1] (wX01 cy o ad o1 ad1 ln1 s) (wX01 cy o ad o1 ad1 ln1) Q :=
  metI (Wd := wX01 cy o ad o1 ad1 ln1) ⟨rfl, rfl⟩ (by decide) rfl (Nat.le_of_ble_eq_true rfl) (fun C K hQ => eX0_sizeOfStrict C K hQ s hw)
def rmX0_sizeOfBare : Room := { frames := 2, cells := 0, slots := 0, locals := 42 }
theorem inX0_sizeOfBare_0 : ∀ w ∈ wsX00, w ∈ wsX0_sizeOfBare := fun w h => (List.mem_cons_of_mem _ (List.mem_append_left _ (List.mem_append_right _ h)))
theorem inX0_sizeOfBare_1 : ∀ w ∈ wsX10, w ∈ wsX0_sizeOfBare := fun w h => (List.mem_cons_of_mem _ (List.mem_append_right _ h))
section SX0_sizeOfBare
variable {p : Program} {l : Launch} {e : Env} {s0 : State} {m : MethodId} {args : Array Value} {below : List Frame} {meth : Method} {c : Code} {D : va_G} {A : Nat → Prop} {H0 : Heap} {cy : Nat → ClassId} {Z : State → Prop}
theorem eX0_sizeOfBare (C : ctB p s0 m args c cX0_sizeOfBare 2 RX0 wsX0_sizeOfBare) (K : ctK s0 D A H0 cy) {o : Nat} {ad : Nat → Nat} {o1 : Nat} {ad1 ln1 : Nat → Nat} {Q : Int32 → (St × St) → Prop} (hQ : ∀ (v : Int32) (u : St × St), Q v u → ∀ pc, decode cX0_sizeOfBare pc = .ok (.ireturn, 1) → atG p l e rmX0_sizeOfBare s0 m args below meth c 0 0 Z 2 (iW D A H0 (wX01 cy o ad o1 ad1 ln1 u)) [] [.int v] pc) (s : St × St)  (h : pX0_sizeOfBare ln1 s Q) : atG p l e rmX0_sizeOfBare s0 m args below meth c 0 0 Z 2 (iW D A H0 (wX01 cy o ad o1 ad1 ln1 s)) [(0, .ref o), (1, .ref o1)] [] 0 := by
  delta pX0_sizeOfBare at h
  refine aw_aload_n C dX0_sizeOfBare_0 0 rfl ?_
  refine aw_bipush (v := 13) C dX0_sizeOfBare_1 (by decide) ?_
  refine aw_callFV (cells2 := 0) (slots2 := 0) (Wx := (fun u => (wX01 cy o ad o1 ad1 ln1 (u, s.2)))) (wr := (wX1 cy o1 ad1 ln1 s.2)) (As := [.int 13]) (rest := []) C K (mtX0_begin l D cy o ad s.1 13 _ h) (List.Perm.refl _) (fun u => List.Perm.refl _) (cwV 1 C.2.2.2.2.1 gX0_sizeOfBare_X0_begin rfl rfl rfl (by decide +kernel) ⟨Nat.le_of_ble_eq_true rfl, Nat.le_of_ble_eq_true rfl⟩) 0 0 (wX0_g ..) rfl rfl rfl rfl (Nat.le_of_ble_eq_true rfl) rfl rfl ⟨Nat.le_of_ble_eq_true rfl, Nat.le_of_ble_eq_true rfl⟩ dX0_sizeOfBare_3 (fun u3 h => ?_)
  refine aw_perm (w1 := (wX01 cy o ad o1 ad1 ln1 (u3, s.2))) (List.Perm.refl _) ?_
  obtain ⟨s3, es3⟩ : ∃ z, z = (u3, s.2) := ⟨_, rfl⟩
  rw [← es3]
  have h := h s3 es3
  refine aw_aload_n C dX0_sizeOfBare_6 0 rfl ?_
  refine aw_aload_n C dX0_sizeOfBare_7 1 rfl ?_
  refine aw_callI (As := [.ref o1]) (rest := []) C K (mtX0_sizeOfNet l D cy o ad o1 ad1 ln1 s3 _ h) (cwV 1 C.2.2.2.2.1 gX0_sizeOfBare_X0_sizeOfNet rfl rfl rfl (by decide +kernel) ⟨Nat.le_of_ble_eq_true rfl, Nat.le_of_ble_eq_true rfl⟩) 0 0 (wX01_0g ..) rfl rfl rfl rfl (Nat.le_of_ble_eq_true rfl) ⟨Nat.le_of_ble_eq_true rfl, Nat.le_of_ble_eq_true rfl⟩ dX0_sizeOfBare_8 (fun r8 s8 h => ?_)
  refine aw_iconst (v := 2) C dX0_sizeOfBare_11 (by decide) ?_
  refine aw_idiv C dX0_sizeOfBare_12 (by decide) ?_
  refine aw_lv [] rfl ?_
  exact hQ (r8 / 2) s8 h 13 dX0_sizeOfBare_13
end SX0_sizeOfBare
theorem mtX0_sizeOfBare (l : Launch) (D : va_G) (cy : Nat → ClassId) (o : Nat) (ad : Nat → Nat) (o1 : Nat) (ad1 ln1 : Nat → Nat) (s : St × St)  (Q : Int32 → (St × St) → Prop) (hw : pX0_sizeOfBare ln1 s Q) : mI l yX0_sizeOfBare wsX0_sizeOfBare rmX0_sizeOfBare D cy [.ref o, .ref o1] (wX01 cy o ad o1 ad1 ln1 s) (wX01 cy o ad o1 ad1 ln1) Q :=
  metI (Wd := wX01 cy o ad o1 ad1 ln1) ⟨rfl, rfl⟩ (by decide) rfl (Nat.le_of_ble_eq_true rfl) (fun C K hQ => eX0_sizeOfBare C K hQ s hw)
def rmX0_sizeOf : Room := { frames := 4, cells := 0, slots := 0, locals := 85 }
theorem inX0_sizeOf_0 : ∀ w ∈ wsX00, w ∈ wsX0_sizeOf := fun w h => (List.mem_cons_of_mem _ (List.mem_append_right _ h))
theorem inX0_sizeOf_1 : ∀ w ∈ wsX10, w ∈ wsX0_sizeOf := fun w h => (List.mem_cons_of_mem _ (List.mem_append_left _ (List.mem_append_right _ h)))
section SX0_sizeOf
variable {p : Program} {l : Launch} {e : Env} {s0 : State} {m : MethodId} {args : Array Value} {below : List Frame} {meth : Method} {c : Code} {D : va_G} {A : Nat → Prop} {H0 : Heap} {cy : Nat → ClassId} {Z : State → Prop}
theorem eX0_sizeOf (C : ctB p s0 m args c cX0_sizeOf 2 RX0 wsX0_sizeOf) (K : ctK s0 D A H0 cy) {o : Nat} {ad : Nat → Nat} {o1 : Nat} {ad1 ln1 : Nat → Nat} {Q : Int32 → (St × St) → Prop} (hQ : ∀ (v : Int32) (u : St × St), Q v u → ∀ pc, decode cX0_sizeOf pc = .ok (.ireturn, 1) → atG p l e rmX0_sizeOf s0 m args below meth c 0 0 Z 2 (iW D A H0 (wX01 cy o ad o1 ad1 ln1 u)) [] [.int v] pc) (s : St × St)  (h : pX0_sizeOf ln1 s Q) : atG p l e rmX0_sizeOf s0 m args below meth c 0 0 Z 2 (iW D A H0 (wX01 cy o ad o1 ad1 ln1 s)) [(0, .ref o), (1, .ref o1)] [] 0 := by
  delta pX0_sizeOf at h
  refine aw_aload_n C dX0_sizeOf_0 1 rfl ?_
  refine aw_callFI (cells2 := 0) (slots2 := 0) (Wx := (fun u => (wX01 cy o ad o1 ad1 ln1 (s.1, u)))) (wr := (wX0 cy o ad s.1)) (As := []) (rest := []) C K (mtX1_toldKind l D cy o1 ad1 ln1 s.2 _ h) List.perm_append_comm (fun u => List.perm_append_comm) (cwV 0 C.2.2.2.2.1 gX0_sizeOf_X1_toldKind rfl rfl rfl (by decide +kernel) ⟨Nat.le_of_ble_eq_true rfl, Nat.le_of_ble_eq_true rfl⟩) 0 1 (wX1_g ..) rfl rfl rfl rfl (Nat.le_of_ble_eq_true rfl) rfl rfl ⟨Nat.le_of_ble_eq_true rfl, Nat.le_of_ble_eq_true rfl⟩ dX0_sizeOf_1 (fun r1 u1 h => ?_)
  obtain ⟨h, hu1⟩ := h
  refine aw_perm (w1 := (wX01 cy o ad o1 ad1 ln1 s)) (by rw [hu1] <;> exact List.Perm.refl _) ?_
  by_cases c4_0 : r1 = 1
  · refine aw_tabIn (tgt := 32) C dX0_sizeOf_4 c4_0 (by decide) (by decide) rfl (by decide) ?_
    have h := h.1 c4_0
    refine aw_aload_n C dX0_sizeOf_32 0 rfl ?_
    refine aw_aload_n C dX0_sizeOf_33 1 rfl ?_
    refine aw_callI (As := [.ref o1]) (rest := []) C K (mtX0_sizeOfLoose l D cy o ad o1 ad1 ln1 s _ h) (cwV 1 C.2.2.2.2.1 gX0_sizeOf_X0_sizeOfLoose rfl rfl rfl (by decide +kernel) ⟨Nat.le_of_ble_eq_true rfl, Nat.le_of_ble_eq_true rfl⟩) 0 0 (wX01_0g ..) rfl rfl rfl rfl (Nat.le_of_ble_eq_true rfl) ⟨Nat.le_of_ble_eq_true rfl, Nat.le_of_ble_eq_true rfl⟩ dX0_sizeOf_34 (fun r34 s34 h => ?_)
    refine aw_lv [] rfl ?_
    exact hQ r34 s34 h 37 dX0_sizeOf_37
  have h := h.2 c4_0
  by_cases c4_1 : r1 = 2
  · refine aw_tabIn (tgt := 38) C dX0_sizeOf_4 c4_1 (by decide) (by decide) rfl (by decide) ?_
    have h := h.1 c4_1
    refine aw_aload_n C dX0_sizeOf_38 0 rfl ?_
    refine aw_aload_n C dX0_sizeOf_39 1 rfl ?_
    refine aw_callI (As := [.ref o1]) (rest := []) C K (mtX0_sizeOfStrict l D cy o ad o1 ad1 ln1 s _ h) (cwV 1 C.2.2.2.2.1 gX0_sizeOf_X0_sizeOfStrict rfl rfl rfl (by decide +kernel) ⟨Nat.le_of_ble_eq_true rfl, Nat.le_of_ble_eq_true rfl⟩) 0 0 (wX01_0g ..) rfl rfl rfl rfl (Nat.le_of_ble_eq_true rfl) ⟨Nat.le_of_ble_eq_true rfl, Nat.le_of_ble_eq_true rfl⟩ dX0_sizeOf_40 (fun r40 s40 h => ?_)
    refine aw_lv [] rfl ?_
    exact hQ r40 s40 h 43 dX0_sizeOf_43
  have h := h.2 c4_1
  by_cases c4_2 : r1 = 3
  · refine aw_tabIn (tgt := 44) C dX0_sizeOf_4 c4_2 (by decide) (by decide) rfl (by decide) ?_
    have h := h.1 c4_2
    refine aw_aload_n C dX0_sizeOf_44 0 rfl ?_
    refine aw_aload_n C dX0_sizeOf_45 1 rfl ?_
    refine aw_callI (As := [.ref o1]) (rest := []) C K (mtX0_sizeOfBare l D cy o ad o1 ad1 ln1 s _ h) (cwV 1 C.2.2.2.2.1 gX0_sizeOf_X0_sizeOfBare rfl rfl rfl (by decide +kernel) ⟨Nat.le_of_ble_eq_true rfl, Nat.le_of_ble_eq_true rfl⟩) 0 0 (wX01_0g ..) rfl rfl rfl rfl (Nat.le_of_ble_eq_true rfl) ⟨Nat.le_of_ble_eq_true rfl, Nat.le_of_ble_eq_true rfl⟩ dX0_sizeOf_46 (fun r46 s46 h => ?_)
    refine aw_lv [] rfl ?_
    exact hQ r46 s46 h 49 dX0_sizeOf_49
  have h := h.2 c4_2
  refine aw_tabOut (tgt := 50) C dX0_sizeOf_4 (tab_out 1 3 (by decide) (fun j hj => match j, hj with | 0, _ => fun e => c4_0 (Int32.toInt_inj.mp (e.trans (by decide))) | 1, _ => fun e => c4_1 (Int32.toInt_inj.mp (e.trans (by decide))) | 2, _ => fun e => c4_2 (Int32.toInt_inj.mp (e.trans (by decide))) | j + 3, hj => absurd hj (by omega))) (by decide) ?_
  refine aw_aload_n C dX0_sizeOf_50 0 rfl ?_
  refine aw_aload_n C dX0_sizeOf_51 1 rfl ?_
  refine aw_callI (As := [.ref o1]) (rest := []) C K (mtX0_sizeOfNet l D cy o ad o1 ad1 ln1 s _ h) (cwV 1 C.2.2.2.2.1 gX0_sizeOf_X0_sizeOfNet rfl rfl rfl (by decide +kernel) ⟨Nat.le_of_ble_eq_true rfl, Nat.le_of_ble_eq_true rfl⟩) 0 0 (wX01_0g ..) rfl rfl rfl rfl (Nat.le_of_ble_eq_true rfl) ⟨Nat.le_of_ble_eq_true rfl, Nat.le_of_ble_eq_true rfl⟩ dX0_sizeOf_52 (fun r52 s52 h => ?_)
  refine aw_lv [] rfl ?_
  exact hQ r52 s52 h 55 dX0_sizeOf_55
end SX0_sizeOf
theorem mtX0_sizeOf (l : Launch) (D : va_G) (cy : Nat → ClassId) (o : Nat) (ad : Nat → Nat) (o1 : Nat) (ad1 ln1 : Nat → Nat) (s : St × St)  (Q : Int32 → (St × St) → Prop) (hw : pX0_sizeOf ln1 s Q) : mI l yX0_sizeOf wsX0_sizeOf rmX0_sizeOf D cy [.ref o, .ref o1] (wX01 cy o ad o1 ad1 ln1 s) (wX01 cy o ad o1 ad1 ln1) Q :=
  metI (Wd := wX01 cy o ad o1 ad1 ln1) ⟨rfl, rfl⟩ (by decide) rfl (Nat.le_of_ble_eq_true rfl) (fun C K hQ => eX0_sizeOf C K hQ s hw)
def rmX0_markOfBare : Room := { frames := 3, cells := 0, slots := 0, locals := 63 }
theorem inX0_markOfBare_0 : ∀ w ∈ wsX00, w ∈ wsX0_markOfBare := fun w h => (List.mem_cons_of_mem _ (List.mem_append_left _ (List.mem_append_right _ h)))
theorem inX0_markOfBare_1 : ∀ w ∈ wsX10, w ∈ wsX0_markOfBare := fun w h => (List.mem_cons_of_mem _ (List.mem_append_right _ h))
section SX0_markOfBare
variable {p : Program} {l : Launch} {e : Env} {s0 : State} {m : MethodId} {args : Array Value} {below : List Frame} {meth : Method} {c : Code} {D : va_G} {A : Nat → Prop} {H0 : Heap} {cy : Nat → ClassId} {Z : State → Prop}
theorem eX0_markOfBare (C : ctB p s0 m args c cX0_markOfBare 3 RX0 wsX0_markOfBare) (K : ctK s0 D A H0 cy) {o : Nat} {ad : Nat → Nat} {o1 : Nat} {ad1 ln1 : Nat → Nat} {Q : Int32 → (St × St) → Prop} (hQ : ∀ (v : Int32) (u : St × St), Q v u → ∀ pc, decode cX0_markOfBare pc = .ok (.ireturn, 1) → atG p l e rmX0_markOfBare s0 m args below meth c 0 0 Z 3 (iW D A H0 (wX01 cy o ad o1 ad1 ln1 u)) [] [.int v] pc) (s : St × St)  (h : pX0_markOfBare ln1 s Q) : atG p l e rmX0_markOfBare s0 m args below meth c 0 0 Z 3 (iW D A H0 (wX01 cy o ad o1 ad1 ln1 s)) [(0, .ref o), (1, .ref o1)] [] 0 := by
  delta pX0_markOfBare at h
  refine aw_aload_n C dX0_markOfBare_0 0 rfl ?_
  refine aw_bipush (v := 22) C dX0_markOfBare_1 (by decide) ?_
  refine aw_callFV (cells2 := 0) (slots2 := 0) (Wx := (fun u => (wX01 cy o ad o1 ad1 ln1 (u, s.2)))) (wr := (wX1 cy o1 ad1 ln1 s.2)) (As := [.int 22]) (rest := []) C K (mtX0_begin l D cy o ad s.1 22 _ h) (List.Perm.refl _) (fun u => List.Perm.refl _) (cwV 1 C.2.2.2.2.1 gX0_markOfBare_X0_begin rfl rfl rfl (by decide +kernel) ⟨Nat.le_of_ble_eq_true rfl, Nat.le_of_ble_eq_true rfl⟩) 0 0 (wX0_g ..) rfl rfl rfl rfl (Nat.le_of_ble_eq_true rfl) rfl rfl ⟨Nat.le_of_ble_eq_true rfl, Nat.le_of_ble_eq_true rfl⟩ dX0_markOfBare_3 (fun u3 h => ?_)
  refine aw_perm (w1 := (wX01 cy o ad o1 ad1 ln1 (u3, s.2))) (List.Perm.refl _) ?_
  obtain ⟨s3, es3⟩ : ∃ z, z = (u3, s.2) := ⟨_, rfl⟩
  rw [← es3]
  have h := h s3 es3
  refine aw_aload_n C dX0_markOfBare_6 0 rfl ?_
  refine aw_aload_n C dX0_markOfBare_7 1 rfl ?_
  refine aw_callI (As := [.ref o1]) (rest := []) C K (mtX0_markOfNet l D cy o ad o1 ad1 ln1 s3 _ h) (cwV 1 C.2.2.2.2.1 gX0_markOfBare_X0_markOfNet rfl rfl rfl (by decide +kernel) ⟨Nat.le_of_ble_eq_true rfl, Nat.le_of_ble_eq_true rfl⟩) 0 0 (wX01_0g ..) rfl rfl rfl rfl (Nat.le_of_ble_eq_true rfl) ⟨Nat.le_of_ble_eq_true rfl, Nat.le_of_ble_eq_true rfl⟩ dX0_markOfBare_8 (fun r8 s8 h => ?_)
  refine aw_istore_n (lv' := [(2, .int r8), (0, .ref o), (1, .ref o1)]) C dX0_markOfBare_11 (by decide) rfl ?_
  refine aw_iload_n C dX0_markOfBare_12 0 rfl ?_
  refine aw_aload_n C dX0_markOfBare_13 1 rfl ?_
  refine aw_aload_n C dX0_markOfBare_14 2 rfl ?_
  refine aw_callI (As := [.ref o1]) (rest := [.int r8]) C K (mtX0_sizeOfBare l D cy o ad o1 ad1 ln1 s8 _ h) (cwV 1 C.2.2.2.2.1 gX0_markOfBare_X0_sizeOfBare rfl rfl rfl (by decide +kernel) ⟨Nat.le_of_ble_eq_true rfl, Nat.le_of_ble_eq_true rfl⟩) 0 0 (wX01_0g ..) rfl rfl rfl rfl (Nat.le_of_ble_eq_true rfl) ⟨Nat.le_of_ble_eq_true rfl, Nat.le_of_ble_eq_true rfl⟩ dX0_markOfBare_15 (fun r15 s15 h => ?_)
  refine aw_iadd C dX0_markOfBare_18 ?_
  refine aw_lv [] rfl ?_
  exact hQ (r8 + r15) s15 h 19 dX0_markOfBare_19
end SX0_markOfBare
theorem mtX0_markOfBare (l : Launch) (D : va_G) (cy : Nat → ClassId) (o : Nat) (ad : Nat → Nat) (o1 : Nat) (ad1 ln1 : Nat → Nat) (s : St × St)  (Q : Int32 → (St × St) → Prop) (hw : pX0_markOfBare ln1 s Q) : mI l yX0_markOfBare wsX0_markOfBare rmX0_markOfBare D cy [.ref o, .ref o1] (wX01 cy o ad o1 ad1 ln1 s) (wX01 cy o ad o1 ad1 ln1) Q :=
  metI (Wd := wX01 cy o ad o1 ad1 ln1) ⟨rfl, rfl⟩ (by decide) rfl (Nat.le_of_ble_eq_true rfl) (fun C K hQ => eX0_markOfBare C K hQ s hw)
def rmX0_markOf : Room := { frames := 4, cells := 0, slots := 0, locals := 85 }
theorem inX0_markOf_0 : ∀ w ∈ wsX00, w ∈ wsX0_markOf := fun w h => (List.mem_cons_of_mem _ (List.mem_append_right _ h))
theorem inX0_markOf_1 : ∀ w ∈ wsX10, w ∈ wsX0_markOf := fun w h => (List.mem_cons_of_mem _ (List.mem_append_left _ (List.mem_append_right _ h)))
section SX0_markOf
variable {p : Program} {l : Launch} {e : Env} {s0 : State} {m : MethodId} {args : Array Value} {below : List Frame} {meth : Method} {c : Code} {D : va_G} {A : Nat → Prop} {H0 : Heap} {cy : Nat → ClassId} {Z : State → Prop}
theorem eX0_markOf (C : ctB p s0 m args c cX0_markOf 2 RX0 wsX0_markOf) (K : ctK s0 D A H0 cy) {o : Nat} {ad : Nat → Nat} {o1 : Nat} {ad1 ln1 : Nat → Nat} {Q : Int32 → (St × St) → Prop} (hQ : ∀ (v : Int32) (u : St × St), Q v u → ∀ pc, decode cX0_markOf pc = .ok (.ireturn, 1) → atG p l e rmX0_markOf s0 m args below meth c 0 0 Z 2 (iW D A H0 (wX01 cy o ad o1 ad1 ln1 u)) [] [.int v] pc) (s : St × St)  (h : pX0_markOf ln1 s Q) : atG p l e rmX0_markOf s0 m args below meth c 0 0 Z 2 (iW D A H0 (wX01 cy o ad o1 ad1 ln1 s)) [(0, .ref o), (1, .ref o1)] [] 0 := by
  delta pX0_markOf at h
  refine aw_aload_n C dX0_markOf_0 1 rfl ?_
  refine aw_callFI (cells2 := 0) (slots2 := 0) (Wx := (fun u => (wX01 cy o ad o1 ad1 ln1 (s.1, u)))) (wr := (wX0 cy o ad s.1)) (As := []) (rest := []) C K (mtX1_toldKind l D cy o1 ad1 ln1 s.2 _ h) List.perm_append_comm (fun u => List.perm_append_comm) (cwV 0 C.2.2.2.2.1 gX0_markOf_X1_toldKind rfl rfl rfl (by decide +kernel) ⟨Nat.le_of_ble_eq_true rfl, Nat.le_of_ble_eq_true rfl⟩) 0 1 (wX1_g ..) rfl rfl rfl rfl (Nat.le_of_ble_eq_true rfl) rfl rfl ⟨Nat.le_of_ble_eq_true rfl, Nat.le_of_ble_eq_true rfl⟩ dX0_markOf_1 (fun r1 u1 h => ?_)
  obtain ⟨h, hu1⟩ := h
  refine aw_perm (w1 := (wX01 cy o ad o1 ad1 ln1 s)) (by rw [hu1] <;> exact List.Perm.refl _) ?_
  by_cases c4_0 : r1 = 1
  · refine aw_tabIn (tgt := 32) C dX0_markOf_4 c4_0 (by decide) (by decide) rfl (by decide) ?_
    have h := h.1 c4_0
    refine aw_aload_n C dX0_markOf_32 0 rfl ?_
    refine aw_aload_n C dX0_markOf_33 1 rfl ?_
    refine aw_callI (As := [.ref o1]) (rest := []) C K (mtX0_markOfLoose l D cy o ad o1 ad1 ln1 s _ h) (cwV 1 C.2.2.2.2.1 gX0_markOf_X0_markOfLoose rfl rfl rfl (by decide +kernel) ⟨Nat.le_of_ble_eq_true rfl, Nat.le_of_ble_eq_true rfl⟩) 0 0 (wX01_0g ..) rfl rfl rfl rfl (Nat.le_of_ble_eq_true rfl) ⟨Nat.le_of_ble_eq_true rfl, Nat.le_of_ble_eq_true rfl⟩ dX0_markOf_34 (fun r34 s34 h => ?_)
    refine aw_lv [] rfl ?_
    exact hQ r34 s34 h 37 dX0_markOf_37
  have h := h.2 c4_0
  by_cases c4_1 : r1 = 2
  · refine aw_tabIn (tgt := 32) C dX0_markOf_4 c4_1 (by decide) (by decide) rfl (by decide) ?_
    have h := h.1 c4_1
    refine aw_aload_n C dX0_markOf_32 0 rfl ?_
    refine aw_aload_n C dX0_markOf_33 1 rfl ?_
    refine aw_callI (As := [.ref o1]) (rest := []) C K (mtX0_markOfLoose l D cy o ad o1 ad1 ln1 s _ h) (cwV 1 C.2.2.2.2.1 gX0_markOf_X0_markOfLoose rfl rfl rfl (by decide +kernel) ⟨Nat.le_of_ble_eq_true rfl, Nat.le_of_ble_eq_true rfl⟩) 0 0 (wX01_0g ..) rfl rfl rfl rfl (Nat.le_of_ble_eq_true rfl) ⟨Nat.le_of_ble_eq_true rfl, Nat.le_of_ble_eq_true rfl⟩ dX0_markOf_34 (fun r34 s34 h => ?_)
    refine aw_lv [] rfl ?_
    exact hQ r34 s34 h 37 dX0_markOf_37
  have h := h.2 c4_1
  by_cases c4_2 : r1 = 3
  · refine aw_tabIn (tgt := 38) C dX0_markOf_4 c4_2 (by decide) (by decide) rfl (by decide) ?_
    have h := h.1 c4_2
    refine aw_aload_n C dX0_markOf_38 0 rfl ?_
    refine aw_aload_n C dX0_markOf_39 1 rfl ?_
    refine aw_callI (As := [.ref o1]) (rest := []) C K (mtX0_markOfBare l D cy o ad o1 ad1 ln1 s _ h) (cwV 1 C.2.2.2.2.1 gX0_markOf_X0_markOfBare rfl rfl rfl (by decide +kernel) ⟨Nat.le_of_ble_eq_true rfl, Nat.le_of_ble_eq_true rfl⟩) 0 0 (wX01_0g ..) rfl rfl rfl rfl (Nat.le_of_ble_eq_true rfl) ⟨Nat.le_of_ble_eq_true rfl, Nat.le_of_ble_eq_true rfl⟩ dX0_markOf_40 (fun r40 s40 h => ?_)
    refine aw_lv [] rfl ?_
    exact hQ r40 s40 h 43 dX0_markOf_43
  have h := h.2 c4_2
  refine aw_tabOut (tgt := 44) C dX0_markOf_4 (tab_out 1 3 (by decide) (fun j hj => match j, hj with | 0, _ => fun e => c4_0 (Int32.toInt_inj.mp (e.trans (by decide))) | 1, _ => fun e => c4_1 (Int32.toInt_inj.mp (e.trans (by decide))) | 2, _ => fun e => c4_2 (Int32.toInt_inj.mp (e.trans (by decide))) | j + 3, hj => absurd hj (by omega))) (by decide) ?_
  refine aw_aload_n C dX0_markOf_44 0 rfl ?_
  refine aw_aload_n C dX0_markOf_45 1 rfl ?_
  refine aw_callI (As := [.ref o1]) (rest := []) C K (mtX0_markOfNet l D cy o ad o1 ad1 ln1 s _ h) (cwV 1 C.2.2.2.2.1 gX0_markOf_X0_markOfNet rfl rfl rfl (by decide +kernel) ⟨Nat.le_of_ble_eq_true rfl, Nat.le_of_ble_eq_true rfl⟩) 0 0 (wX01_0g ..) rfl rfl rfl rfl (Nat.le_of_ble_eq_true rfl) ⟨Nat.le_of_ble_eq_true rfl, Nat.le_of_ble_eq_true rfl⟩ dX0_markOf_46 (fun r46 s46 h => ?_)
  refine aw_lv [] rfl ?_
  exact hQ r46 s46 h 49 dX0_markOf_49
end SX0_markOf
theorem mtX0_markOf (l : Launch) (D : va_G) (cy : Nat → ClassId) (o : Nat) (ad : Nat → Nat) (o1 : Nat) (ad1 ln1 : Nat → Nat) (s : St × St)  (Q : Int32 → (St × St) → Prop) (hw : pX0_markOf ln1 s Q) : mI l yX0_markOf wsX0_markOf rmX0_markOf D cy [.ref o, .ref o1] (wX01 cy o ad o1 ad1 ln1 s) (wX01 cy o ad o1 ad1 ln1) Q :=
  metI (Wd := wX01 cy o ad o1 ad1 ln1) ⟨rfl, rfl⟩ (by decide) rfl (Nat.le_of_ble_eq_true rfl) (fun C K hQ => eX0_markOf C K hQ s hw)
def rmX3_takeOrder : Room := { frames := 1, cells := 0, slots := 0, locals := 22 }
theorem inX3_takeOrder_3 : ∀ w ∈ wsX30, w ∈ wsX3_takeOrder := fun w h => (List.mem_cons_of_mem _ (List.mem_append_right _ h))
theorem inX3_takeOrder_4 : ∀ w ∈ wsX40, w ∈ wsX3_takeOrder := fun w h => (List.mem_cons_of_mem _ (List.mem_append_left _ (List.mem_append_right _ h)))
theorem qX3_takeOrder_fieldLink_RX3_26 : Cond.fieldLink RX3 26 "StageSwitch$Sheet" "items" "[I" ∈ wsX3_takeOrder := (List.mem_cons_of_mem _ (List.mem_append_left _ (List.mem_append_left _ (List.mem_of_getElem? (i := 0) rfl))))
theorem qX3_takeOrder_initialized_RX5 : Cond.initialized RX5 ∈ wsX3_takeOrder := (List.mem_cons_of_mem _ (List.mem_append_left _ (List.mem_append_left _ (List.mem_of_getElem? (i := 3) rfl))))
theorem qX3_takeOrder_static_yX5_within : Cond.static yX5_within ∈ wsX3_takeOrder := (List.mem_cons_of_mem _ (List.mem_append_left _ (List.mem_append_left _ (List.mem_of_getElem? (i := 2) rfl))))
theorem qX3_takeOrder_fieldLink_RX3_16 : Cond.fieldLink RX3 16 "StageSwitch$Rounds" "orders" "[[I" ∈ wsX3_takeOrder := (List.mem_cons_of_mem _ (List.mem_append_left _ (List.mem_append_left _ (List.mem_of_getElem? (i := 1) rfl))))
section SX3_takeOrder
variable {p : Program} {l : Launch} {e : Env} {s0 : State} {m : MethodId} {args : Array Value} {below : List Frame} {meth : Method} {c : Code} {D : va_G} {A : Nat → Prop} {H0 : Heap} {cy : Nat → ClassId} {Z : State → Prop}
theorem tbX3_takeOrder_11 (C : ctB p s0 m args c cX3_takeOrder 8 RX3 wsX3_takeOrder) (K : ctK s0 D A H0 cy) {o : Nat} {ad : Nat → Nat} {o1 : Nat} {ad1 ln1 : Nat → Nat}  {x2 : Int32} {x4 : Int32} {k53 : (St × St) → Prop} {k81 : (St × St) → Prop} (hk53 : ∀ (s : St × St), k53 s → atG p l e rmX3_takeOrder s0 m args below meth c 0 0 Z 8 (iW D A H0 (wX34 cy o ad o1 ad1 ln1 s)) [(0, .ref o)] [] 53) (hk81 : ∀ (s : St × St), k81 s → atG p l e rmX3_takeOrder s0 m args below meth c 0 0 Z 8 (iW D A H0 (wX34 cy o ad o1 ad1 ln1 s)) [(0, .ref o)] [] 81) {kH : (St × St) → Int32 → Int32 → Prop} (hkH : ∀ (s : St × St) (y5 : Int32) (y6 : Int32), kH s y5 y6 → atG p l e rmX3_takeOrder s0 m args below meth c 0 0 Z 8 (iW D A H0 (wX34 cy o ad o1 ad1 ln1 s)) [(0, .ref o), (1, .ref o1), (2, .int x2), (4, .int x4), (5, .int y5), (6, .int y6)] [] 11) (s : St × St) (x5 : Int32) (x6 : Int32) (h : bX3_takeOrder_11 ln1 x2 x4 k53 k81 kH s x5 x6) : atG p l e rmX3_takeOrder s0 m args below meth c 0 0 Z 8 (iW D A H0 (wX34 cy o ad o1 ad1 ln1 s)) [(0, .ref o), (1, .ref o1), (2, .int x2), (4, .int x4), (5, .int x5), (6, .int x6)] [] 11 := by
  delta bX3_takeOrder_11 at h
  refine aw_iload C dX3_takeOrder_11 5 rfl ?_
  refine aw_iload C dX3_takeOrder_13 3 rfl ?_
  refine aw_icmp_ge (tgt := 81) C dX3_takeOrder_15 (by decide) (fun c15 => ?_) (fun c15 => ?_)
  · have h := h.1 c15
    refine aw_lv [0] rfl ?_
    exact hk81 s h
  have h := h.2 c15
  refine aw_aload_n C dX3_takeOrder_18 1 rfl ?_
  refine aw_getX4 C K inX3_takeOrder_4 dX3_takeOrder_19 1 (by decide) qX3_takeOrder_fieldLink_RX3_26 16 (wX34_1g ..) rfl ?_
  refine aw_iload_n C dX3_takeOrder_22 2 rfl ?_
  refine aw_iload C dX3_takeOrder_23 5 rfl ?_
  refine aw_iadd C dX3_takeOrder_25 ?_
  obtain ⟨b26, h⟩ := h
  refine aw_iald C K dX3_takeOrder_26 17 (wX34_1g1 ..) b26 ?_
  refine aw_name (fun x7_27 ex7_27 => ?_)
  have h := h x7_27 ex7_27
  refine aw_istore (lv' := [(7, .int x7_27), (0, .ref o), (1, .ref o1), (2, .int x2), (4, .int x4), (5, .int x5), (6, .int x6)]) C dX3_takeOrder_27 (by decide) rfl ?_
  refine aw_iload C dX3_takeOrder_29 0 rfl ?_
  refine aw_iconst (v := 0) C dX3_takeOrder_31 (by decide) ?_
  refine aw_iload C dX3_takeOrder_32 4 rfl ?_
  refine aw_iconst (v := 1) C dX3_takeOrder_34 (by decide) ?_
  refine aw_isub C dX3_takeOrder_35 ?_
  refine aw_callSN (As := [.int x7_27, .int 0, .int (x4 - 1)]) (rest := []) (y := yX5_within) C (mtX5_within l x7_27 0 (x4 - 1) _ h) ⟨va_cnB 3 C.2.2.2.2.1 gX3_takeOrder_X5_within_n31 rfl rfl rfl (C.2.2.2.2.2.1 (RX3, 31, yX5_within) (by decide +kernel)) (C.2.2.2.2.1 _ qX3_takeOrder_initialized_RX5) (by decide +kernel) ⟨Nat.le_of_ble_eq_true rfl, Nat.le_of_ble_eq_true rfl⟩, C.2.2.2.2.1 _ qX3_takeOrder_static_yX5_within, trivial⟩ rfl rfl (Nat.le_of_ble_eq_true rfl) ⟨rfl, rfl⟩ ⟨Nat.zero_le _, Nat.zero_le _⟩ dX3_takeOrder_36 (fun r36 h => ?_)
  refine aw_if_eq (tgt := 53) C dX3_takeOrder_39 (by decide) (fun c39 => ?_) (fun c39 => ?_)
  · have h := h.1 c39
    refine aw_lv [1] rfl ?_
    exact hk53 s h
  have h := h.2 c39
  refine aw_iload C dX3_takeOrder_42 5 rfl ?_
  refine aw_iload C dX3_takeOrder_44 0 rfl ?_
  refine aw_ishr C dX3_takeOrder_46 ?_
  refine aw_iconst (v := 1) C dX3_takeOrder_47 (by decide) ?_
  refine aw_iand C dX3_takeOrder_48 ?_
  refine aw_iconst (v := 1) C dX3_takeOrder_49 (by decide) ?_
  refine aw_icmp_ne (tgt := 55) C dX3_takeOrder_50 (by decide) (fun c50 => ?_) (fun c50 => ?_)
  · have h := h.2 c50
    refine aw_iload C dX3_takeOrder_55 5 rfl ?_
    refine aw_iconst (v := 1) C dX3_takeOrder_57 (by decide) ?_
    refine aw_iload C dX3_takeOrder_58 0 rfl ?_
    refine aw_ishl C dX3_takeOrder_60 ?_
    refine aw_ior C dX3_takeOrder_61 ?_
    refine aw_name (fun x5_62 ex5_62 => ?_)
    have h := h x5_62 ex5_62
    refine aw_istore (lv' := [(5, .int x5_62), (7, .int x7_27), (0, .ref o), (1, .ref o1), (2, .int x2), (4, .int x4), (6, .int x6)]) C dX3_takeOrder_62 (by decide) rfl ?_
    refine aw_aload_n C dX3_takeOrder_64 2 rfl ?_
    refine aw_getX3 C K inX3_takeOrder_3 dX3_takeOrder_65 1 (by decide) qX3_takeOrder_fieldLink_RX3_16 0 (wX34_0g ..) rfl ?_
    refine aw_iconst (v := 0) C dX3_takeOrder_68 (by decide) ?_
    obtain ⟨b69, h⟩ := h
    refine aw_aald C K dX3_takeOrder_69 2 (wX34_0g1 ..) b69 (if_pos (vp_in_lt b69)) ?_
    refine aw_iload C dX3_takeOrder_70 6 rfl ?_
    refine aw_iload C dX3_takeOrder_72 1 rfl ?_
    obtain ⟨b74, h⟩ := h
    refine aw_iast C K dX3_takeOrder_74 (12 + ((0 : Int32).toNatClampNeg)) (wX34_0r1 (hn := (vp_in_lt b69)) ..) (wX34_0t1 (hn := (vp_in_lt b69)) ..) b74 ?_
    obtain ⟨s74, es74⟩ : ∃ z, z = ((uA s.1 (20 + ((0 : Int32).toNatClampNeg)) (upd (sA s.1 (20 + ((0 : Int32).toNatClampNeg))) x6.toNatClampNeg x7_27)), s.2) := ⟨_, rfl⟩
    rw [← es74]
    have h := h s74 es74
    obtain ⟨x6_75, ex6_75⟩ : ∃ y : Int32, y = x6 + 1 := ⟨_, rfl⟩
    have h := h x6_75 ex6_75
    refine aw_iinc (v := x6_75) (lv' := [(6, .int x6_75), (5, .int x5_62), (7, .int x7_27), (0, .ref o), (1, .ref o1), (2, .int x2), (4, .int x4)]) C dX3_takeOrder_75 6 rfl (by rw [ex6_75]; rfl) (by decide) rfl ?_
    refine aw_goto (tgt := 11) C dX3_takeOrder_78 (by decide) ?_
    refine aw_lv [3, 4, 5, 6, 1, 0] rfl ?_
    exact hkH s74 x5_62 x6_75 h
  have h := h.1 c50
  refine aw_lv [1] rfl ?_
  exact hk53 s h
theorem tlX3_takeOrder_11 (C : ctB p s0 m args c cX3_takeOrder 8 RX3 wsX3_takeOrder) (K : ctK s0 D A H0 cy) {o : Nat} {ad : Nat → Nat} {o1 : Nat} {ad1 ln1 : Nat → Nat}  {x2 : Int32} {x4 : Int32} {k53 : (St × St) → Prop} {k81 : (St × St) → Prop} (hk53 : ∀ (s : St × St), k53 s → atG p l e rmX3_takeOrder s0 m args below meth c 0 0 Z 8 (iW D A H0 (wX34 cy o ad o1 ad1 ln1 s)) [(0, .ref o)] [] 53) (hk81 : ∀ (s : St × St), k81 s → atG p l e rmX3_takeOrder s0 m args below meth c 0 0 Z 8 (iW D A H0 (wX34 cy o ad o1 ad1 ln1 s)) [(0, .ref o)] [] 81) (s : St × St) (x5 : Int32) (x6 : Int32) (h : lX3_takeOrder_11 ln1 x2 x4 k53 k81 s x5 x6) : atG p l e rmX3_takeOrder s0 m args below meth c 0 0 Z 8 (iW D A H0 (wX34 cy o ad o1 ad1 ln1 s)) [(0, .ref o), (1, .ref o1), (2, .int x2), (4, .int x4), (5, .int x5), (6, .int x6)] [] 11 :=
  lp_W (σ := (St × St) × Int32 × Int32) (P := fun q => atG p l e rmX3_takeOrder s0 m args below meth c 0 0 Z 8 (iW D A H0 (wX34 cy o ad o1 ad1 ln1 q.1)) [(0, .ref o), (1, .ref o1), (2, .int x2), (4, .int x4), (5, .int q.2.1), (6, .int q.2.2)] [] 11) (fun K2 hK2 q hb => tbX3_takeOrder_11 C K hk53 hk81 (fun s x5 x6 hk => hK2 (s, x5, x6) hk) q.1 q.2.1 q.2.2 hb) (s, x5, x6) h
theorem eX3_takeOrder (C : ctB p s0 m args c cX3_takeOrder 8 RX3 wsX3_takeOrder) (K : ctK s0 D A H0 cy) {o : Nat} {ad : Nat → Nat} {o1 : Nat} {ad1 ln1 : Nat → Nat} {Q : Int32 → (St × St) → Prop} (hQ : ∀ (v : Int32) (u : St × St), narrow .boolean (.int v) = .int v → Q v u → ∀ pc, decode cX3_takeOrder pc = .ok (.ireturn, 1) → atG p l e rmX3_takeOrder s0 m args below meth c 0 0 Z 8 (iW D A H0 (wX34 cy o ad o1 ad1 ln1 u)) [] [.int v] pc) (s : St × St) (x2 : Int32) (x3 : Int32) (h : pX3_takeOrder ln1 s x2 x3 Q) : atG p l e rmX3_takeOrder s0 m args below meth c 0 0 Z 8 (iW D A H0 (wX34 cy o ad o1 ad1 ln1 s)) [(0, .ref o), (1, .ref o1), (2, .int x2), (3, .int x3)] [] 0 := by
  delta pX3_takeOrder at h
  refine aw_iconst (v := 1) C dX3_takeOrder_0 (by decide) ?_
  refine aw_iload_n C dX3_takeOrder_1 3 rfl ?_
  refine aw_ishl C dX3_takeOrder_2 ?_
  refine aw_name (fun x4_3 ex4_3 => ?_)
  have h := h x4_3 ex4_3
  refine aw_istore (lv' := [(4, .int x4_3), (0, .ref o), (1, .ref o1), (2, .int x2), (3, .int x3)]) C dX3_takeOrder_3 (by decide) rfl ?_
  refine aw_iconst (v := 0) C dX3_takeOrder_5 (by decide) ?_
  refine aw_istore (lv' := [(5, .int 0), (4, .int x4_3), (0, .ref o), (1, .ref o1), (2, .int x2), (3, .int x3)]) C dX3_takeOrder_6 (by decide) rfl ?_
  refine aw_iconst (v := 0) C dX3_takeOrder_8 (by decide) ?_
  refine aw_istore (lv' := [(6, .int 0), (5, .int 0), (4, .int x4_3), (0, .ref o), (1, .ref o1), (2, .int x2), (3, .int x3)]) C dX3_takeOrder_9 (by decide) rfl ?_
  refine aw_lv [3, 4, 5, 2, 1, 0] rfl ?_
  refine tlX3_takeOrder_11 C K ?_ ?_ s 0 0 h
  · intro s_53 h
    refine aw_iconst (v := 0) C dX3_takeOrder_53 (by decide) ?_
    refine aw_lv [] rfl ?_
    exact hQ 0 s_53 rfl h 54 dX3_takeOrder_54
  intro s_81 h
  refine aw_iconst (v := 1) C dX3_takeOrder_81 (by decide) ?_
  refine aw_lv [] rfl ?_
  exact hQ 1 s_81 rfl h 82 dX3_takeOrder_82
end SX3_takeOrder
theorem mtX3_takeOrder (l : Launch) (D : va_G) (cy : Nat → ClassId) (o : Nat) (ad : Nat → Nat) (o1 : Nat) (ad1 ln1 : Nat → Nat) (s : St × St) (x2 : Int32) (x3 : Int32) (Q : Int32 → (St × St) → Prop) (hw : pX3_takeOrder ln1 s x2 x3 Q) : mI l yX3_takeOrder wsX3_takeOrder rmX3_takeOrder D cy [.ref o, .ref o1, .int x2, .int x3] (wX34 cy o ad o1 ad1 ln1 s) (wX34 cy o ad o1 ad1 ln1) Q :=
  metZ (ty := .boolean) (Wd := wX34 cy o ad o1 ad1 ln1) ⟨rfl, rfl⟩ (by decide) rfl (Nat.le_of_ble_eq_true rfl) (fun C K hQ => eX3_takeOrder C K hQ s x2 x3 hw)
def rmX3_goRound : Room := { frames := 1, cells := 0, slots := 0, locals := 20 }
theorem inX3_goRound_3 : ∀ w ∈ wsX30, w ∈ wsX3_goRound := fun w h => (List.mem_cons_of_mem _ (List.mem_append_right _ h))
theorem qX3_goRound_fieldLink_RX3_16 : Cond.fieldLink RX3 16 "StageSwitch$Rounds" "orders" "[[I" ∈ wsX3_goRound := (List.mem_cons_of_mem _ (List.mem_append_left _ (List.mem_of_getElem? (i := 0) rfl)))
theorem qX3_goRound_fieldLink_RX3_19 : Cond.fieldLink RX3 19 "StageSwitch$Rounds" "lineInFor" "[I" ∈ wsX3_goRound := (List.mem_cons_of_mem _ (List.mem_append_left _ (List.mem_of_getElem? (i := 1) rfl)))
theorem qX3_goRound_fieldLink_RX3_23 : Cond.fieldLink RX3 23 "StageSwitch$Rounds" "halfOf" "[I" ∈ wsX3_goRound := (List.mem_cons_of_mem _ (List.mem_append_left _ (List.mem_of_getElem? (i := 2) rfl)))
section SX3_goRound
variable {p : Program} {l : Launch} {e : Env} {s0 : State} {m : MethodId} {args : Array Value} {below : List Frame} {meth : Method} {c : Code} {D : va_G} {A : Nat → Prop} {H0 : Heap} {cy : Nat → ClassId} {Z : State → Prop}
theorem tbX3_goRound_11 (C : ctB p s0 m args c cX3_goRound 9 RX3 wsX3_goRound) (K : ctK s0 D A H0 cy) {o : Nat} {ad : Nat → Nat}  {x2 : Int32} {x3 : Int32} {nx4 : Nat} {k45 : St → Prop} (hk45 : ∀ (s : St), k45 s → atG p l e rmX3_goRound s0 m args below meth c 0 0 Z 9 (iW D A H0 (wX3 cy o ad s)) [(0, .ref o), (2, .int x2), (3, .int x3), (4, .ref (ad (20 + nx4)))] [] 45) {kH : St → Int32 → Prop} (hkH : ∀ (s : St) (y5 : Int32), kH s y5 → atG p l e rmX3_goRound s0 m args below meth c 0 0 Z 9 (iW D A H0 (wX3 cy o ad s)) [(0, .ref o), (2, .int x2), (3, .int x3), (4, .ref (ad (20 + nx4))), (5, .int y5)] [] 11) (s : St) (x5 : Int32) (h : bX3_goRound_11 x2 x3 nx4 k45 kH s x5) : atG p l e rmX3_goRound s0 m args below meth c 0 0 Z 9 (iW D A H0 (wX3 cy o ad s)) [(0, .ref o), (2, .int x2), (3, .int x3), (4, .ref (ad (20 + nx4))), (5, .int x5)] [] 11 := by
  delta bX3_goRound_11 at h
  refine aw_iload C dX3_goRound_11 4 rfl ?_
  refine aw_iload_n C dX3_goRound_13 2 rfl ?_
  refine aw_icmp_ge (tgt := 45) C dX3_goRound_14 (by decide) (fun c14 => ?_) (fun c14 => ?_)
  · have h := h.1 c14
    refine aw_lv [0, 1, 2, 3] rfl ?_
    exact hk45 s h
  have h := h.2 c14
  refine aw_aload_n C dX3_goRound_17 0 rfl ?_
  refine aw_getX3 C K inX3_goRound_3 dX3_goRound_18 2 (by decide) qX3_goRound_fieldLink_RX3_19 0 (wX3_g ..) rfl ?_
  refine aw_aload C dX3_goRound_21 3 rfl ?_
  refine aw_iload_n C dX3_goRound_23 1 rfl ?_
  refine aw_iload C dX3_goRound_24 4 rfl ?_
  refine aw_iadd C dX3_goRound_26 ?_
  obtain ⟨g27, h⟩ := h
  obtain ⟨b27, h⟩ := h
  refine aw_iald C K dX3_goRound_27 (12 + nx4) (wX3_r1 (hn := g27) ..) b27 ?_
  refine aw_iload C dX3_goRound_28 4 rfl ?_
  obtain ⟨b30, h⟩ := h
  refine aw_iast C K dX3_goRound_30 3 (wX3_g2 ..) (wX3_s2 ..) b30 ?_
  obtain ⟨s30, es30⟩ : ∃ z, z = (uA s 2 (upd (sA s 2) (sA s (20 + nx4) (x2 + x5).toNatClampNeg).toNatClampNeg x5)) := ⟨_, rfl⟩
  rw [← es30]
  have h := h s30 es30
  refine aw_aload_n C dX3_goRound_31 0 rfl ?_
  refine aw_getX3 C K inX3_goRound_3 dX3_goRound_32 3 (by decide) qX3_goRound_fieldLink_RX3_23 0 (wX3_g ..) rfl ?_
  refine aw_iload C dX3_goRound_35 4 rfl ?_
  refine aw_iconst (v := (-1)) C dX3_goRound_37 (by decide) ?_
  obtain ⟨b38, h⟩ := h
  refine aw_iast C K dX3_goRound_38 4 (wX3_g3 ..) (wX3_s3 ..) b38 ?_
  obtain ⟨s38, es38⟩ : ∃ z, z = (uA s30 3 (upd (sA s30 3) x5.toNatClampNeg (-1))) := ⟨_, rfl⟩
  rw [← es38]
  have h := h s38 es38
  obtain ⟨x5_39, ex5_39⟩ : ∃ y : Int32, y = x5 + 1 := ⟨_, rfl⟩
  have h := h x5_39 ex5_39
  refine aw_iinc (v := x5_39) (lv' := [(5, .int x5_39), (0, .ref o), (2, .int x2), (3, .int x3), (4, .ref (ad (20 + nx4)))]) C dX3_goRound_39 4 rfl (by rw [ex5_39]; rfl) (by decide) rfl ?_
  refine aw_goto (tgt := 11) C dX3_goRound_42 (by decide) ?_
  refine aw_lv [1, 2, 3, 4, 0] rfl ?_
  exact hkH s38 x5_39 h
theorem tlX3_goRound_11 (C : ctB p s0 m args c cX3_goRound 9 RX3 wsX3_goRound) (K : ctK s0 D A H0 cy) {o : Nat} {ad : Nat → Nat}  {x2 : Int32} {x3 : Int32} {nx4 : Nat} {k45 : St → Prop} (hk45 : ∀ (s : St), k45 s → atG p l e rmX3_goRound s0 m args below meth c 0 0 Z 9 (iW D A H0 (wX3 cy o ad s)) [(0, .ref o), (2, .int x2), (3, .int x3), (4, .ref (ad (20 + nx4)))] [] 45) (s : St) (x5 : Int32) (h : lX3_goRound_11 x2 x3 nx4 k45 s x5) : atG p l e rmX3_goRound s0 m args below meth c 0 0 Z 9 (iW D A H0 (wX3 cy o ad s)) [(0, .ref o), (2, .int x2), (3, .int x3), (4, .ref (ad (20 + nx4))), (5, .int x5)] [] 11 :=
  lp_W (σ := St × Int32) (P := fun q => atG p l e rmX3_goRound s0 m args below meth c 0 0 Z 9 (iW D A H0 (wX3 cy o ad q.1)) [(0, .ref o), (2, .int x2), (3, .int x3), (4, .ref (ad (20 + nx4))), (5, .int q.2)] [] 11) (fun K2 hK2 q hb => tbX3_goRound_11 C K hk45 (fun s x5 hk => hK2 (s, x5) hk) q.1 q.2 hb) (s, x5) h
theorem tbX3_goRound_61 (C : ctB p s0 m args c cX3_goRound 9 RX3 wsX3_goRound) (K : ctK s0 D A H0 cy) {o : Nat} {ad : Nat → Nat}  {x2 : Int32} {x3 : Int32} {nx4 : Nat} {x5 : Int32} {k124 : St → Prop} (hk124 : ∀ (s : St), k124 s → atG p l e rmX3_goRound s0 m args below meth c 0 0 Z 9 (iW D A H0 (wX3 cy o ad s)) [(0, .ref o), (2, .int x2), (3, .int x3), (4, .ref (ad (20 + nx4))), (5, .int x5)] [] 124) {kH : St → Int32 → Int32 → Prop} (hkH : ∀ (s : St) (y6 : Int32) (y7 : Int32), kH s y6 y7 → atG p l e rmX3_goRound s0 m args below meth c 0 0 Z 9 (iW D A H0 (wX3 cy o ad s)) [(0, .ref o), (2, .int x2), (3, .int x3), (4, .ref (ad (20 + nx4))), (5, .int x5), (6, .int y6), (7, .int y7)] [] 61) (s : St) (x6 : Int32) (x7 : Int32) (h : bX3_goRound_61 x2 x3 nx4 x5 k124 kH s x6 x7) : atG p l e rmX3_goRound s0 m args below meth c 0 0 Z 9 (iW D A H0 (wX3 cy o ad s)) [(0, .ref o), (2, .int x2), (3, .int x3), (4, .ref (ad (20 + nx4))), (5, .int x5), (6, .int x6), (7, .int x7)] [] 61 := by
  delta bX3_goRound_61 at h
  refine aw_iload C dX3_goRound_61 6 rfl ?_
  refine aw_iload_n C dX3_goRound_63 2 rfl ?_
  refine aw_icmp_ge (tgt := 124) C dX3_goRound_64 (by decide) (fun c64 => ?_) (fun c64 => ?_)
  · have h := h.1 c64
    refine aw_lv [0, 1, 2, 3, 4] rfl ?_
    exact hk124 s h
  have h := h.2 c64
  refine aw_aload_n C dX3_goRound_67 0 rfl ?_
  refine aw_getX3 C K inX3_goRound_3 dX3_goRound_68 3 (by decide) qX3_goRound_fieldLink_RX3_23 0 (wX3_g ..) rfl ?_
  refine aw_iload C dX3_goRound_71 5 rfl ?_
  obtain ⟨b73, h⟩ := h
  refine aw_iald C K dX3_goRound_73 4 (wX3_g3 ..) b73 ?_
  refine aw_iconst (v := (-1)) C dX3_goRound_74 (by decide) ?_
  refine aw_icmp_ne (tgt := 124) C dX3_goRound_75 (by decide) (fun c75 => ?_) (fun c75 => ?_)
  · have h := h.2 c75
    refine aw_lv [0, 1, 2, 3, 4] rfl ?_
    exact hk124 s h
  have h := h.1 c75
  refine aw_aload_n C dX3_goRound_78 0 rfl ?_
  refine aw_getX3 C K inX3_goRound_3 dX3_goRound_79 3 (by decide) qX3_goRound_fieldLink_RX3_23 0 (wX3_g ..) rfl ?_
  refine aw_iload C dX3_goRound_82 5 rfl ?_
  refine aw_iconst (v := 0) C dX3_goRound_84 (by decide) ?_
  obtain ⟨b85, h⟩ := h
  refine aw_iast C K dX3_goRound_85 4 (wX3_g3 ..) (wX3_s3 ..) b85 ?_
  obtain ⟨s85, es85⟩ : ∃ z, z = (uA s 3 (upd (sA s 3) x6.toNatClampNeg 0)) := ⟨_, rfl⟩
  rw [← es85]
  have h := h s85 es85
  refine aw_aload_n C dX3_goRound_86 0 rfl ?_
  refine aw_getX3 C K inX3_goRound_3 dX3_goRound_87 2 (by decide) qX3_goRound_fieldLink_RX3_19 0 (wX3_g ..) rfl ?_
  refine aw_aload C dX3_goRound_90 3 rfl ?_
  refine aw_iload_n C dX3_goRound_92 1 rfl ?_
  refine aw_iload C dX3_goRound_93 5 rfl ?_
  refine aw_iadd C dX3_goRound_95 ?_
  obtain ⟨g96, h⟩ := h
  obtain ⟨b96, h⟩ := h
  refine aw_iald C K dX3_goRound_96 (12 + nx4) (wX3_r1 (hn := g96) ..) b96 ?_
  refine aw_callS (As := [.int (sA s85 (20 + nx4) (x2 + x6).toNatClampNeg)]) (rest := [.ref (ad 2)]) C (mtX3_other l (sA s85 (20 + nx4) (x2 + x6).toNatClampNeg) _ h) (va_cwS 1 C.2.2.2.2.1 gX3_goRound_X3_other rfl rfl rfl (by decide +kernel) ⟨Nat.le_of_ble_eq_true rfl, Nat.le_of_ble_eq_true rfl⟩) rfl rfl (Nat.le_of_ble_eq_true rfl) ⟨rfl, rfl⟩ ⟨Nat.zero_le _, Nat.zero_le _⟩ dX3_goRound_97 (fun r97 h => ?_)
  obtain ⟨b100, h⟩ := h
  refine aw_iald C K dX3_goRound_100 3 (wX3_g2 ..) b100 ?_
  refine aw_name (fun x8_101 ex8_101 => ?_)
  have h := h x8_101 ex8_101
  refine aw_istore (lv' := [(8, .int x8_101), (0, .ref o), (2, .int x2), (3, .int x3), (4, .ref (ad (20 + nx4))), (5, .int x5), (6, .int x6), (7, .int x7)]) C dX3_goRound_101 (by decide) rfl ?_
  refine aw_aload_n C dX3_goRound_103 1 rfl ?_
  refine aw_getX3 C K inX3_goRound_3 dX3_goRound_104 3 (by decide) qX3_goRound_fieldLink_RX3_23 0 (wX3_g ..) rfl ?_
  refine aw_iload C dX3_goRound_107 0 rfl ?_
  refine aw_iconst (v := 1) C dX3_goRound_109 (by decide) ?_
  obtain ⟨b110, h⟩ := h
  refine aw_iast C K dX3_goRound_110 4 (wX3_g3 ..) (wX3_s3 ..) b110 ?_
  obtain ⟨s110, es110⟩ : ∃ z, z = (uA s85 3 (upd (sA s85 3) x8_101.toNatClampNeg 1)) := ⟨_, rfl⟩
  rw [← es110]
  have h := h s110 es110
  refine aw_iload C dX3_goRound_111 0 rfl ?_
  refine aw_callS (As := [.int x8_101]) (rest := []) C (mtX3_other l x8_101 _ h) (va_cwS 1 C.2.2.2.2.1 gX3_goRound_X3_other rfl rfl rfl (by decide +kernel) ⟨Nat.le_of_ble_eq_true rfl, Nat.le_of_ble_eq_true rfl⟩) rfl rfl (Nat.le_of_ble_eq_true rfl) ⟨rfl, rfl⟩ ⟨Nat.zero_le _, Nat.zero_le _⟩ dX3_goRound_113 (fun r113 h => ?_)
  refine aw_istore (lv' := [(6, .int r113), (8, .int x8_101), (0, .ref o), (2, .int x2), (3, .int x3), (4, .ref (ad (20 + nx4))), (5, .int x5), (7, .int x7)]) C dX3_goRound_116 (by decide) rfl ?_
  obtain ⟨x7_118, ex7_118⟩ : ∃ y : Int32, y = x7 + 1 := ⟨_, rfl⟩
  have h := h x7_118 ex7_118
  refine aw_iinc (v := x7_118) (lv' := [(7, .int x7_118), (6, .int r113), (8, .int x8_101), (0, .ref o), (2, .int x2), (3, .int x3), (4, .ref (ad (20 + nx4))), (5, .int x5)]) C dX3_goRound_118 7 rfl (by rw [ex7_118]; rfl) (by decide) rfl ?_
  refine aw_goto (tgt := 61) C dX3_goRound_121 (by decide) ?_
  refine aw_lv [3, 4, 5, 6, 7, 1, 0] rfl ?_
  exact hkH s110 r113 x7_118 h
theorem tlX3_goRound_61 (C : ctB p s0 m args c cX3_goRound 9 RX3 wsX3_goRound) (K : ctK s0 D A H0 cy) {o : Nat} {ad : Nat → Nat}  {x2 : Int32} {x3 : Int32} {nx4 : Nat} {x5 : Int32} {k124 : St → Prop} (hk124 : ∀ (s : St), k124 s → atG p l e rmX3_goRound s0 m args below meth c 0 0 Z 9 (iW D A H0 (wX3 cy o ad s)) [(0, .ref o), (2, .int x2), (3, .int x3), (4, .ref (ad (20 + nx4))), (5, .int x5)] [] 124) (s : St) (x6 : Int32) (x7 : Int32) (h : lX3_goRound_61 x2 x3 nx4 x5 k124 s x6 x7) : atG p l e rmX3_goRound s0 m args below meth c 0 0 Z 9 (iW D A H0 (wX3 cy o ad s)) [(0, .ref o), (2, .int x2), (3, .int x3), (4, .ref (ad (20 + nx4))), (5, .int x5), (6, .int x6), (7, .int x7)] [] 61 :=
  lp_W (σ := St × Int32 × Int32) (P := fun q => atG p l e rmX3_goRound s0 m args below meth c 0 0 Z 9 (iW D A H0 (wX3 cy o ad q.1)) [(0, .ref o), (2, .int x2), (3, .int x3), (4, .ref (ad (20 + nx4))), (5, .int x5), (6, .int q.2.1), (7, .int q.2.2)] [] 61) (fun K2 hK2 q hb => tbX3_goRound_61 C K hk124 (fun s x6 x7 hk => hK2 (s, x6, x7) hk) q.1 q.2.1 q.2.2 hb) (s, x6, x7) h
theorem tbX3_goRound_48 (C : ctB p s0 m args c cX3_goRound 9 RX3 wsX3_goRound) (K : ctK s0 D A H0 cy) {o : Nat} {ad : Nat → Nat}  {x2 : Int32} {x3 : Int32} {nx4 : Nat} {k130 : St → Prop} (hk130 : ∀ (s : St), k130 s → atG p l e rmX3_goRound s0 m args below meth c 0 0 Z 9 (iW D A H0 (wX3 cy o ad s)) [(0, .ref o)] [] 130) {kH : St → Int32 → Prop} (hkH : ∀ (s : St) (y5 : Int32), kH s y5 → atG p l e rmX3_goRound s0 m args below meth c 0 0 Z 9 (iW D A H0 (wX3 cy o ad s)) [(0, .ref o), (2, .int x2), (3, .int x3), (4, .ref (ad (20 + nx4))), (5, .int y5)] [] 48) (s : St) (x5 : Int32) (h : bX3_goRound_48 x2 x3 nx4 k130 kH s x5) : atG p l e rmX3_goRound s0 m args below meth c 0 0 Z 9 (iW D A H0 (wX3 cy o ad s)) [(0, .ref o), (2, .int x2), (3, .int x3), (4, .ref (ad (20 + nx4))), (5, .int x5)] [] 48 := by
  delta bX3_goRound_48 at h
  refine aw_iload C dX3_goRound_48 4 rfl ?_
  refine aw_iload_n C dX3_goRound_50 2 rfl ?_
  refine aw_icmp_ge (tgt := 130) C dX3_goRound_51 (by decide) (fun c51 => ?_) (fun c51 => ?_)
  · have h := h.1 c51
    refine aw_lv [0] rfl ?_
    exact hk130 s h
  have h := h.2 c51
  refine aw_iload C dX3_goRound_54 4 rfl ?_
  refine aw_istore (lv' := [(6, .int x5), (0, .ref o), (2, .int x2), (3, .int x3), (4, .ref (ad (20 + nx4))), (5, .int x5)]) C dX3_goRound_56 (by decide) rfl ?_
  refine aw_iconst (v := 0) C dX3_goRound_58 (by decide) ?_
  refine aw_istore (lv' := [(7, .int 0), (6, .int x5), (0, .ref o), (2, .int x2), (3, .int x3), (4, .ref (ad (20 + nx4))), (5, .int x5)]) C dX3_goRound_59 (by decide) rfl ?_
  refine aw_lv [2, 3, 4, 5, 6, 1, 0] rfl ?_
  refine tlX3_goRound_61 C K ?_ s x5 0 h
  intro s_124 h
  obtain ⟨x5_124, ex5_124⟩ : ∃ y : Int32, y = x5 + 1 := ⟨_, rfl⟩
  have h := h x5_124 ex5_124
  refine aw_iinc (v := x5_124) (lv' := [(5, .int x5_124), (0, .ref o), (2, .int x2), (3, .int x3), (4, .ref (ad (20 + nx4)))]) C dX3_goRound_124 4 rfl (by rw [ex5_124]; rfl) (by decide) rfl ?_
  refine aw_goto (tgt := 48) C dX3_goRound_127 (by decide) ?_
  refine aw_lv [1, 2, 3, 4, 0] rfl ?_
  exact hkH s_124 x5_124 h
theorem tlX3_goRound_48 (C : ctB p s0 m args c cX3_goRound 9 RX3 wsX3_goRound) (K : ctK s0 D A H0 cy) {o : Nat} {ad : Nat → Nat}  {x2 : Int32} {x3 : Int32} {nx4 : Nat} {k130 : St → Prop} (hk130 : ∀ (s : St), k130 s → atG p l e rmX3_goRound s0 m args below meth c 0 0 Z 9 (iW D A H0 (wX3 cy o ad s)) [(0, .ref o)] [] 130) (s : St) (x5 : Int32) (h : lX3_goRound_48 x2 x3 nx4 k130 s x5) : atG p l e rmX3_goRound s0 m args below meth c 0 0 Z 9 (iW D A H0 (wX3 cy o ad s)) [(0, .ref o), (2, .int x2), (3, .int x3), (4, .ref (ad (20 + nx4))), (5, .int x5)] [] 48 :=
  lp_W (σ := St × Int32) (P := fun q => atG p l e rmX3_goRound s0 m args below meth c 0 0 Z 9 (iW D A H0 (wX3 cy o ad q.1)) [(0, .ref o), (2, .int x2), (3, .int x3), (4, .ref (ad (20 + nx4))), (5, .int q.2)] [] 48) (fun K2 hK2 q hb => tbX3_goRound_48 C K hk130 (fun s x5 hk => hK2 (s, x5) hk) q.1 q.2 hb) (s, x5) h
theorem eX3_goRound (C : ctB p s0 m args c cX3_goRound 9 RX3 wsX3_goRound) (K : ctK s0 D A H0 cy) {o : Nat} {ad : Nat → Nat} {Q : St → Prop} (hQ : ∀ (u : St), Q u → ∀ pc, decode cX3_goRound pc = .ok (.return_, 1) → atG p l e rmX3_goRound s0 m args below meth c 0 0 Z 9 (iW D A H0 (wX3 cy o ad u)) [] [] pc) (s : St) (x1 : Int32) (x2 : Int32) (x3 : Int32) (h : pX3_goRound  s x1 x2 x3 Q) : atG p l e rmX3_goRound s0 m args below meth c 0 0 Z 9 (iW D A H0 (wX3 cy o ad s)) [(0, .ref o), (1, .int x1), (2, .int x2), (3, .int x3)] [] 0 := by
  delta pX3_goRound at h
  refine aw_aload_n C dX3_goRound_0 0 rfl ?_
  refine aw_getX3 C K inX3_goRound_3 dX3_goRound_1 1 (by decide) qX3_goRound_fieldLink_RX3_16 0 (wX3_g ..) rfl ?_
  refine aw_iload_n C dX3_goRound_4 1 rfl ?_
  obtain ⟨b5, h⟩ := h
  refine aw_aald C K dX3_goRound_5 2 (wX3_g1 ..) b5 (if_pos (vp_in_lt b5)) ?_
  refine aw_astore (lv' := [(4, .ref (ad (20 + x1.toNatClampNeg))), (0, .ref o), (1, .int x1), (2, .int x2), (3, .int x3)]) C dX3_goRound_6 (by decide) rfl ?_
  refine aw_iconst (v := 0) C dX3_goRound_8 (by decide) ?_
  refine aw_istore (lv' := [(5, .int 0), (4, .ref (ad (20 + x1.toNatClampNeg))), (0, .ref o), (1, .int x1), (2, .int x2), (3, .int x3)]) C dX3_goRound_9 (by decide) rfl ?_
  refine aw_lv [2, 4, 5, 1, 0] rfl ?_
  refine tlX3_goRound_11 C K ?_ s 0 h
  intro s_45 h
  refine aw_iconst (v := 0) C dX3_goRound_45 (by decide) ?_
  refine aw_istore (lv' := [(5, .int 0), (0, .ref o), (2, .int x2), (3, .int x3), (4, .ref (ad (20 + x1.toNatClampNeg)))]) C dX3_goRound_46 (by decide) rfl ?_
  refine aw_lv [1, 2, 3, 4, 0] rfl ?_
  refine tlX3_goRound_48 C K ?_ s_45 0 h
  intro s_130 h
  refine aw_lv [] rfl ?_
  exact hQ s_130 h 130 dX3_goRound_130
end SX3_goRound
theorem mtX3_goRound (l : Launch) (D : va_G) (cy : Nat → ClassId) (o : Nat) (ad : Nat → Nat) (s : St) (x1 : Int32) (x2 : Int32) (x3 : Int32) (Q : St → Prop) (hw : pX3_goRound  s x1 x2 x3 Q) : mV l yX3_goRound wsX3_goRound rmX3_goRound D cy [.ref o, .int x1, .int x2, .int x3] (wX3 cy o ad s) (wX3 cy o ad) Q :=
  metV (Wd := wX3 cy o ad) ⟨rfl, rfl⟩ (by decide) rfl (Nat.le_of_ble_eq_true rfl) (fun C K hQ => eX3_goRound C K hQ s x1 x2 x3 hw)
def rmX3_setOuterStages : Room := { frames := 0, cells := 0, slots := 0, locals := 0 }
theorem inX3_setOuterStages_3 : ∀ w ∈ wsX30, w ∈ wsX3_setOuterStages := fun w h => (List.mem_cons_of_mem _ (List.mem_append_right _ h))
theorem qX3_setOuterStages_fieldLink_RX3_11 : Cond.fieldLink RX3 11 "StageSwitch$Rounds" "bits" "[[I" ∈ wsX3_setOuterStages := (List.mem_cons_of_mem _ (List.mem_append_left _ (List.mem_of_getElem? (i := 0) rfl)))
theorem qX3_setOuterStages_fieldLink_RX3_23 : Cond.fieldLink RX3 23 "StageSwitch$Rounds" "halfOf" "[I" ∈ wsX3_setOuterStages := (List.mem_cons_of_mem _ (List.mem_append_left _ (List.mem_of_getElem? (i := 1) rfl)))
theorem qX3_setOuterStages_fieldLink_RX3_19 : Cond.fieldLink RX3 19 "StageSwitch$Rounds" "lineInFor" "[I" ∈ wsX3_setOuterStages := (List.mem_cons_of_mem _ (List.mem_append_left _ (List.mem_of_getElem? (i := 2) rfl)))
section SX3_setOuterStages
variable {p : Program} {l : Launch} {e : Env} {s0 : State} {m : MethodId} {args : Array Value} {below : List Frame} {meth : Method} {c : Code} {D : va_G} {A : Nat → Prop} {H0 : Heap} {cy : Nat → ClassId} {Z : State → Prop}
theorem tbX3_setOuterStages_3 (C : ctB p s0 m args c cX3_setOuterStages 6 RX3 wsX3_setOuterStages) (K : ctK s0 D A H0 cy) {o : Nat} {ad : Nat → Nat}  {x1 : Int32} {x2 : Int32} {x3 : Int32} {x4 : Int32} {k69 : St → Prop} (hk69 : ∀ (s : St), k69 s → atG p l e rmX3_setOuterStages s0 m args below meth c 0 0 Z 6 (iW D A H0 (wX3 cy o ad s)) [(0, .ref o)] [] 69) {kH : St → Int32 → Prop} (hkH : ∀ (s : St) (y5 : Int32), kH s y5 → atG p l e rmX3_setOuterStages s0 m args below meth c 0 0 Z 6 (iW D A H0 (wX3 cy o ad s)) [(0, .ref o), (1, .int x1), (2, .int x2), (3, .int x3), (4, .int x4), (5, .int y5)] [] 3) (s : St) (x5 : Int32) (h : bX3_setOuterStages_3 x1 x2 x3 x4 k69 kH s x5) : atG p l e rmX3_setOuterStages s0 m args below meth c 0 0 Z 6 (iW D A H0 (wX3 cy o ad s)) [(0, .ref o), (1, .int x1), (2, .int x2), (3, .int x3), (4, .int x4), (5, .int x5)] [] 3 := by
  delta bX3_setOuterStages_3 at h
  refine aw_iload C dX3_setOuterStages_3 5 rfl ?_
  refine aw_iload C dX3_setOuterStages_5 4 rfl ?_
  refine aw_iconst (v := 2) C dX3_setOuterStages_7 (by decide) ?_
  refine aw_idiv C dX3_setOuterStages_8 (by decide) ?_
  refine aw_icmp_ge (tgt := 69) C dX3_setOuterStages_9 (by decide) (fun c9 => ?_) (fun c9 => ?_)
  · have h := h.1 c9
    refine aw_lv [0] rfl ?_
    exact hk69 s h
  have h := h.2 c9
  refine aw_aload_n C dX3_setOuterStages_12 0 rfl ?_
  refine aw_getX3 C K inX3_setOuterStages_3 dX3_setOuterStages_13 0 (by decide) qX3_setOuterStages_fieldLink_RX3_11 0 (wX3_g ..) rfl ?_
  refine aw_iload_n C dX3_setOuterStages_16 2 rfl ?_
  obtain ⟨b17, h⟩ := h
  refine aw_aald C K dX3_setOuterStages_17 1 (wX3_g0 ..) b17 (if_pos (vp_in_lt b17)) ?_
  refine aw_iload_n C dX3_setOuterStages_18 3 rfl ?_
  refine aw_iconst (v := 2) C dX3_setOuterStages_19 (by decide) ?_
  refine aw_idiv C dX3_setOuterStages_20 (by decide) ?_
  refine aw_iload C dX3_setOuterStages_21 5 rfl ?_
  refine aw_iadd C dX3_setOuterStages_23 ?_
  refine aw_aload_n C dX3_setOuterStages_24 0 rfl ?_
  refine aw_getX3 C K inX3_setOuterStages_3 dX3_setOuterStages_25 3 (by decide) qX3_setOuterStages_fieldLink_RX3_23 0 (wX3_g ..) rfl ?_
  refine aw_iconst (v := 2) C dX3_setOuterStages_28 (by decide) ?_
  refine aw_iload C dX3_setOuterStages_29 5 rfl ?_
  refine aw_imul C dX3_setOuterStages_31 ?_
  obtain ⟨b32, h⟩ := h
  refine aw_iald C K dX3_setOuterStages_32 4 (wX3_g3 ..) b32 ?_
  obtain ⟨b33, h⟩ := h
  refine aw_iast C K dX3_setOuterStages_33 (5 + x2.toNatClampNeg) (wX3_r0 (hn := (vp_in_lt b17)) ..) (wX3_t0 (hn := (vp_in_lt b17)) ..) b33 ?_
  obtain ⟨s33, es33⟩ : ∃ z, z = (uA s (10 + x2.toNatClampNeg) (upd (sA s (10 + x2.toNatClampNeg)) ((x3 / 2) + x5).toNatClampNeg (sA s 3 (2 * x5).toNatClampNeg))) := ⟨_, rfl⟩
  rw [← es33]
  have h := h s33 es33
  refine aw_aload_n C dX3_setOuterStages_34 0 rfl ?_
  refine aw_getX3 C K inX3_setOuterStages_3 dX3_setOuterStages_35 0 (by decide) qX3_setOuterStages_fieldLink_RX3_11 0 (wX3_g ..) rfl ?_
  refine aw_iload_n C dX3_setOuterStages_38 1 rfl ?_
  refine aw_iload_n C dX3_setOuterStages_39 2 rfl ?_
  refine aw_isub C dX3_setOuterStages_40 ?_
  obtain ⟨b41, h⟩ := h
  refine aw_aald C K dX3_setOuterStages_41 1 (wX3_g0 ..) b41 (if_pos (vp_in_lt b41)) ?_
  refine aw_iload_n C dX3_setOuterStages_42 3 rfl ?_
  refine aw_iconst (v := 2) C dX3_setOuterStages_43 (by decide) ?_
  refine aw_idiv C dX3_setOuterStages_44 (by decide) ?_
  refine aw_iload C dX3_setOuterStages_45 5 rfl ?_
  refine aw_iadd C dX3_setOuterStages_47 ?_
  refine aw_aload_n C dX3_setOuterStages_48 0 rfl ?_
  refine aw_getX3 C K inX3_setOuterStages_3 dX3_setOuterStages_49 3 (by decide) qX3_setOuterStages_fieldLink_RX3_23 0 (wX3_g ..) rfl ?_
  refine aw_aload_n C dX3_setOuterStages_52 0 rfl ?_
  refine aw_getX3 C K inX3_setOuterStages_3 dX3_setOuterStages_53 2 (by decide) qX3_setOuterStages_fieldLink_RX3_19 0 (wX3_g ..) rfl ?_
  refine aw_iconst (v := 2) C dX3_setOuterStages_56 (by decide) ?_
  refine aw_iload C dX3_setOuterStages_57 5 rfl ?_
  refine aw_imul C dX3_setOuterStages_59 ?_
  obtain ⟨b60, h⟩ := h
  refine aw_iald C K dX3_setOuterStages_60 3 (wX3_g2 ..) b60 ?_
  obtain ⟨b61, h⟩ := h
  refine aw_iald C K dX3_setOuterStages_61 4 (wX3_g3 ..) b61 ?_
  obtain ⟨b62, h⟩ := h
  refine aw_iast C K dX3_setOuterStages_62 (5 + ((x1 - x2).toNatClampNeg)) (wX3_r0 (hn := (vp_in_lt b41)) ..) (wX3_t0 (hn := (vp_in_lt b41)) ..) b62 ?_
  obtain ⟨s62, es62⟩ : ∃ z, z = (uA s33 (10 + ((x1 - x2).toNatClampNeg)) (upd (sA s33 (10 + ((x1 - x2).toNatClampNeg))) ((x3 / 2) + x5).toNatClampNeg (sA s33 3 (sA s33 2 (2 * x5).toNatClampNeg).toNatClampNeg))) := ⟨_, rfl⟩
  rw [← es62]
  have h := h s62 es62
  obtain ⟨x5_63, ex5_63⟩ : ∃ y : Int32, y = x5 + 1 := ⟨_, rfl⟩
  have h := h x5_63 ex5_63
  refine aw_iinc (v := x5_63) (lv' := [(5, .int x5_63), (0, .ref o), (1, .int x1), (2, .int x2), (3, .int x3), (4, .int x4)]) C dX3_setOuterStages_63 5 rfl (by rw [ex5_63]; rfl) (by decide) rfl ?_
  refine aw_goto (tgt := 3) C dX3_setOuterStages_66 (by decide) ?_
  refine aw_lv [1, 2, 3, 4, 5, 0] rfl ?_
  exact hkH s62 x5_63 h
theorem tlX3_setOuterStages_3 (C : ctB p s0 m args c cX3_setOuterStages 6 RX3 wsX3_setOuterStages) (K : ctK s0 D A H0 cy) {o : Nat} {ad : Nat → Nat}  {x1 : Int32} {x2 : Int32} {x3 : Int32} {x4 : Int32} {k69 : St → Prop} (hk69 : ∀ (s : St), k69 s → atG p l e rmX3_setOuterStages s0 m args below meth c 0 0 Z 6 (iW D A H0 (wX3 cy o ad s)) [(0, .ref o)] [] 69) (s : St) (x5 : Int32) (h : lX3_setOuterStages_3 x1 x2 x3 x4 k69 s x5) : atG p l e rmX3_setOuterStages s0 m args below meth c 0 0 Z 6 (iW D A H0 (wX3 cy o ad s)) [(0, .ref o), (1, .int x1), (2, .int x2), (3, .int x3), (4, .int x4), (5, .int x5)] [] 3 :=
  lp_W (σ := St × Int32) (P := fun q => atG p l e rmX3_setOuterStages s0 m args below meth c 0 0 Z 6 (iW D A H0 (wX3 cy o ad q.1)) [(0, .ref o), (1, .int x1), (2, .int x2), (3, .int x3), (4, .int x4), (5, .int q.2)] [] 3) (fun K2 hK2 q hb => tbX3_setOuterStages_3 C K hk69 (fun s x5 hk => hK2 (s, x5) hk) q.1 q.2 hb) (s, x5) h
theorem eX3_setOuterStages (C : ctB p s0 m args c cX3_setOuterStages 6 RX3 wsX3_setOuterStages) (K : ctK s0 D A H0 cy) {o : Nat} {ad : Nat → Nat} {Q : St → Prop} (hQ : ∀ (u : St), Q u → ∀ pc, decode cX3_setOuterStages pc = .ok (.return_, 1) → atG p l e rmX3_setOuterStages s0 m args below meth c 0 0 Z 6 (iW D A H0 (wX3 cy o ad u)) [] [] pc) (s : St) (x1 : Int32) (x2 : Int32) (x3 : Int32) (x4 : Int32) (h : pX3_setOuterStages  s x1 x2 x3 x4 Q) : atG p l e rmX3_setOuterStages s0 m args below meth c 0 0 Z 6 (iW D A H0 (wX3 cy o ad s)) [(0, .ref o), (1, .int x1), (2, .int x2), (3, .int x3), (4, .int x4)] [] 0 := by
  delta pX3_setOuterStages at h
  refine aw_iconst (v := 0) C dX3_setOuterStages_0 (by decide) ?_
  refine aw_istore (lv' := [(5, .int 0), (0, .ref o), (1, .int x1), (2, .int x2), (3, .int x3), (4, .int x4)]) C dX3_setOuterStages_1 (by decide) rfl ?_
  refine aw_lv [1, 2, 3, 4, 5, 0] rfl ?_
  refine tlX3_setOuterStages_3 C K ?_ s 0 h
  intro s_69 h
  refine aw_lv [] rfl ?_
  exact hQ s_69 h 69 dX3_setOuterStages_69
end SX3_setOuterStages
theorem mtX3_setOuterStages (l : Launch) (D : va_G) (cy : Nat → ClassId) (o : Nat) (ad : Nat → Nat) (s : St) (x1 : Int32) (x2 : Int32) (x3 : Int32) (x4 : Int32) (Q : St → Prop) (hw : pX3_setOuterStages  s x1 x2 x3 x4 Q) : mV l yX3_setOuterStages wsX3_setOuterStages rmX3_setOuterStages D cy [.ref o, .int x1, .int x2, .int x3, .int x4] (wX3 cy o ad s) (wX3 cy o ad) Q :=
  metV (Wd := wX3 cy o ad) ⟨rfl, rfl⟩ (by decide) rfl (Nat.le_of_ble_eq_true rfl) (fun C K hQ => eX3_setOuterStages C K hQ s x1 x2 x3 x4 hw)
def rmX3_handToHalves : Room := { frames := 0, cells := 0, slots := 0, locals := 0 }
theorem inX3_handToHalves_3 : ∀ w ∈ wsX30, w ∈ wsX3_handToHalves := fun w h => (List.mem_cons_of_mem _ (List.mem_append_right _ h))
theorem qX3_handToHalves_fieldLink_RX3_23 : Cond.fieldLink RX3 23 "StageSwitch$Rounds" "halfOf" "[I" ∈ wsX3_handToHalves := (List.mem_cons_of_mem _ (List.mem_append_left _ (List.mem_of_getElem? (i := 0) rfl)))
theorem qX3_handToHalves_fieldLink_RX3_16 : Cond.fieldLink RX3 16 "StageSwitch$Rounds" "orders" "[[I" ∈ wsX3_handToHalves := (List.mem_cons_of_mem _ (List.mem_append_left _ (List.mem_of_getElem? (i := 1) rfl)))
section SX3_handToHalves
variable {p : Program} {l : Launch} {e : Env} {s0 : State} {m : MethodId} {args : Array Value} {below : List Frame} {meth : Method} {c : Code} {D : va_G} {A : Nat → Prop} {H0 : Heap} {cy : Nat → ClassId} {Z : State → Prop}
theorem tbX3_handToHalves_3 (C : ctB p s0 m args c cX3_handToHalves 6 RX3 wsX3_handToHalves) (K : ctK s0 D A H0 cy) {o : Nat} {ad : Nat → Nat}  {x1 : Int32} {x2 : Int32} {x3 : Int32} {k59 : St → Prop} (hk59 : ∀ (s : St), k59 s → atG p l e rmX3_handToHalves s0 m args below meth c 0 0 Z 6 (iW D A H0 (wX3 cy o ad s)) [(0, .ref o)] [] 59) {kH : St → Int32 → Prop} (hkH : ∀ (s : St) (y4 : Int32), kH s y4 → atG p l e rmX3_handToHalves s0 m args below meth c 0 0 Z 6 (iW D A H0 (wX3 cy o ad s)) [(0, .ref o), (1, .int x1), (2, .int x2), (3, .int x3), (4, .int y4)] [] 3) (s : St) (x4 : Int32) (h : bX3_handToHalves_3 x1 x2 x3 k59 kH s x4) : atG p l e rmX3_handToHalves s0 m args below meth c 0 0 Z 6 (iW D A H0 (wX3 cy o ad s)) [(0, .ref o), (1, .int x1), (2, .int x2), (3, .int x3), (4, .int x4)] [] 3 := by
  delta bX3_handToHalves_3 at h
  refine aw_iload C dX3_handToHalves_3 4 rfl ?_
  refine aw_iload_n C dX3_handToHalves_5 3 rfl ?_
  refine aw_icmp_ge (tgt := 59) C dX3_handToHalves_6 (by decide) (fun c6 => ?_) (fun c6 => ?_)
  · have h := h.1 c6
    refine aw_lv [0] rfl ?_
    exact hk59 s h
  have h := h.2 c6
  refine aw_iload_n C dX3_handToHalves_9 2 rfl ?_
  refine aw_aload_n C dX3_handToHalves_10 0 rfl ?_
  refine aw_getX3 C K inX3_handToHalves_3 dX3_handToHalves_11 3 (by decide) qX3_handToHalves_fieldLink_RX3_23 0 (wX3_g ..) rfl ?_
  refine aw_iload C dX3_handToHalves_14 4 rfl ?_
  obtain ⟨b16, h⟩ := h
  refine aw_iald C K dX3_handToHalves_16 4 (wX3_g3 ..) b16 ?_
  refine aw_iload_n C dX3_handToHalves_17 3 rfl ?_
  refine aw_imul C dX3_handToHalves_18 ?_
  refine aw_iconst (v := 2) C dX3_handToHalves_19 (by decide) ?_
  refine aw_idiv C dX3_handToHalves_20 (by decide) ?_
  refine aw_iadd C dX3_handToHalves_21 ?_
  refine aw_name (fun x5_22 ex5_22 => ?_)
  have h := h x5_22 ex5_22
  refine aw_istore (lv' := [(5, .int x5_22), (0, .ref o), (1, .int x1), (2, .int x2), (3, .int x3), (4, .int x4)]) C dX3_handToHalves_22 (by decide) rfl ?_
  refine aw_aload_n C dX3_handToHalves_24 1 rfl ?_
  refine aw_getX3 C K inX3_handToHalves_3 dX3_handToHalves_25 1 (by decide) qX3_handToHalves_fieldLink_RX3_16 0 (wX3_g ..) rfl ?_
  refine aw_iload_n C dX3_handToHalves_28 2 rfl ?_
  refine aw_iconst (v := 1) C dX3_handToHalves_29 (by decide) ?_
  refine aw_iadd C dX3_handToHalves_30 ?_
  obtain ⟨b31, h⟩ := h
  refine aw_aald C K dX3_handToHalves_31 2 (wX3_g1 ..) b31 (if_pos (vp_in_lt b31)) ?_
  refine aw_iload C dX3_handToHalves_32 0 rfl ?_
  refine aw_iload C dX3_handToHalves_34 5 rfl ?_
  refine aw_iconst (v := 2) C dX3_handToHalves_36 (by decide) ?_
  refine aw_idiv C dX3_handToHalves_37 (by decide) ?_
  refine aw_iadd C dX3_handToHalves_38 ?_
  refine aw_aload_n C dX3_handToHalves_39 1 rfl ?_
  refine aw_getX3 C K inX3_handToHalves_3 dX3_handToHalves_40 1 (by decide) qX3_handToHalves_fieldLink_RX3_16 0 (wX3_g ..) rfl ?_
  refine aw_iload_n C dX3_handToHalves_43 2 rfl ?_
  obtain ⟨b44, h⟩ := h
  refine aw_aald C K dX3_handToHalves_44 2 (wX3_g1 ..) b44 (if_pos (vp_in_lt b44)) ?_
  refine aw_iload_n C dX3_handToHalves_45 3 rfl ?_
  refine aw_iload C dX3_handToHalves_46 5 rfl ?_
  refine aw_iadd C dX3_handToHalves_48 ?_
  obtain ⟨b49, h⟩ := h
  refine aw_iald C K dX3_handToHalves_49 (12 + x1.toNatClampNeg) (wX3_r1 (hn := (vp_in_lt b44)) ..) b49 ?_
  refine aw_iconst (v := 2) C dX3_handToHalves_50 (by decide) ?_
  refine aw_idiv C dX3_handToHalves_51 (by decide) ?_
  obtain ⟨b52, h⟩ := h
  refine aw_iast C K dX3_handToHalves_52 (12 + ((x1 + 1).toNatClampNeg)) (wX3_r1 (hn := (vp_in_lt b31)) ..) (wX3_t1 (hn := (vp_in_lt b31)) ..) b52 ?_
  obtain ⟨s52, es52⟩ : ∃ z, z = (uA s (20 + ((x1 + 1).toNatClampNeg)) (upd (sA s (20 + ((x1 + 1).toNatClampNeg))) (x5_22 + (x4 / 2)).toNatClampNeg ((sA s (20 + x1.toNatClampNeg) (x2 + x4).toNatClampNeg) / 2))) := ⟨_, rfl⟩
  rw [← es52]
  have h := h s52 es52
  obtain ⟨x4_53, ex4_53⟩ : ∃ y : Int32, y = x4 + 1 := ⟨_, rfl⟩
  have h := h x4_53 ex4_53
  refine aw_iinc (v := x4_53) (lv' := [(4, .int x4_53), (5, .int x5_22), (0, .ref o), (1, .int x1), (2, .int x2), (3, .int x3)]) C dX3_handToHalves_53 5 rfl (by rw [ex4_53]; rfl) (by decide) rfl ?_
  refine aw_goto (tgt := 3) C dX3_handToHalves_56 (by decide) ?_
  refine aw_lv [2, 3, 4, 5, 0] rfl ?_
  exact hkH s52 x4_53 h
theorem tlX3_handToHalves_3 (C : ctB p s0 m args c cX3_handToHalves 6 RX3 wsX3_handToHalves) (K : ctK s0 D A H0 cy) {o : Nat} {ad : Nat → Nat}  {x1 : Int32} {x2 : Int32} {x3 : Int32} {k59 : St → Prop} (hk59 : ∀ (s : St), k59 s → atG p l e rmX3_handToHalves s0 m args below meth c 0 0 Z 6 (iW D A H0 (wX3 cy o ad s)) [(0, .ref o)] [] 59) (s : St) (x4 : Int32) (h : lX3_handToHalves_3 x1 x2 x3 k59 s x4) : atG p l e rmX3_handToHalves s0 m args below meth c 0 0 Z 6 (iW D A H0 (wX3 cy o ad s)) [(0, .ref o), (1, .int x1), (2, .int x2), (3, .int x3), (4, .int x4)] [] 3 :=
  lp_W (σ := St × Int32) (P := fun q => atG p l e rmX3_handToHalves s0 m args below meth c 0 0 Z 6 (iW D A H0 (wX3 cy o ad q.1)) [(0, .ref o), (1, .int x1), (2, .int x2), (3, .int x3), (4, .int q.2)] [] 3) (fun K2 hK2 q hb => tbX3_handToHalves_3 C K hk59 (fun s x4 hk => hK2 (s, x4) hk) q.1 q.2 hb) (s, x4) h
theorem eX3_handToHalves (C : ctB p s0 m args c cX3_handToHalves 6 RX3 wsX3_handToHalves) (K : ctK s0 D A H0 cy) {o : Nat} {ad : Nat → Nat} {Q : St → Prop} (hQ : ∀ (u : St), Q u → ∀ pc, decode cX3_handToHalves pc = .ok (.return_, 1) → atG p l e rmX3_handToHalves s0 m args below meth c 0 0 Z 6 (iW D A H0 (wX3 cy o ad u)) [] [] pc) (s : St) (x1 : Int32) (x2 : Int32) (x3 : Int32) (h : pX3_handToHalves  s x1 x2 x3 Q) : atG p l e rmX3_handToHalves s0 m args below meth c 0 0 Z 6 (iW D A H0 (wX3 cy o ad s)) [(0, .ref o), (1, .int x1), (2, .int x2), (3, .int x3)] [] 0 := by
  delta pX3_handToHalves at h
  refine aw_iconst (v := 0) C dX3_handToHalves_0 (by decide) ?_
  refine aw_istore (lv' := [(4, .int 0), (0, .ref o), (1, .int x1), (2, .int x2), (3, .int x3)]) C dX3_handToHalves_1 (by decide) rfl ?_
  refine aw_lv [1, 2, 3, 4, 0] rfl ?_
  refine tlX3_handToHalves_3 C K ?_ s 0 h
  intro s_59 h
  refine aw_lv [] rfl ?_
  exact hQ s_59 h 59 dX3_handToHalves_59
end SX3_handToHalves
theorem mtX3_handToHalves (l : Launch) (D : va_G) (cy : Nat → ClassId) (o : Nat) (ad : Nat → Nat) (s : St) (x1 : Int32) (x2 : Int32) (x3 : Int32) (Q : St → Prop) (hw : pX3_handToHalves  s x1 x2 x3 Q) : mV l yX3_handToHalves wsX3_handToHalves rmX3_handToHalves D cy [.ref o, .int x1, .int x2, .int x3] (wX3 cy o ad s) (wX3 cy o ad) Q :=
  metV (Wd := wX3 cy o ad) ⟨rfl, rfl⟩ (by decide) rfl (Nat.le_of_ble_eq_true rfl) (fun C K hQ => eX3_handToHalves C K hQ s x1 x2 x3 hw)
def rmX3_setAllSwitches : Room := { frames := 2, cells := 0, slots := 0, locals := 48 }
theorem inX3_setAllSwitches_3 : ∀ w ∈ wsX30, w ∈ wsX3_setAllSwitches := fun w h => (List.mem_cons_of_mem _ (List.mem_append_right _ h))
theorem qX3_setAllSwitches_fieldLink_RX3_11 : Cond.fieldLink RX3 11 "StageSwitch$Rounds" "bits" "[[I" ∈ wsX3_setAllSwitches := (List.mem_cons_of_mem _ (List.mem_append_left _ (List.mem_of_getElem? (i := 0) rfl)))
theorem qX3_setAllSwitches_fieldLink_RX3_16 : Cond.fieldLink RX3 16 "StageSwitch$Rounds" "orders" "[[I" ∈ wsX3_setAllSwitches := (List.mem_cons_of_mem _ (List.mem_append_left _ (List.mem_of_getElem? (i := 1) rfl)))
section SX3_setAllSwitches
variable {p : Program} {l : Launch} {e : Env} {s0 : State} {m : MethodId} {args : Array Value} {below : List Frame} {meth : Method} {c : Code} {D : va_G} {A : Nat → Prop} {H0 : Heap} {cy : Nat → ClassId} {Z : State → Prop}
theorem tbX3_setAllSwitches_21 (C : ctB p s0 m args c cX3_setAllSwitches 6 RX3 wsX3_setAllSwitches) (K : ctK s0 D A H0 cy) {o : Nat} {ad : Nat → Nat}  {x1 : Int32} {x2 : Int32} {x3 : Int32} {x4 : Int32} {k69 : St → Prop} (hk69 : ∀ (s : St), k69 s → atG p l e rmX3_setAllSwitches s0 m args below meth c 0 0 Z 6 (iW D A H0 (wX3 cy o ad s)) [(0, .ref o), (1, .int x1), (2, .int x2), (3, .int x3)] [] 69) {kH : St → Int32 → Prop} (hkH : ∀ (s : St) (y5 : Int32), kH s y5 → atG p l e rmX3_setAllSwitches s0 m args below meth c 0 0 Z 6 (iW D A H0 (wX3 cy o ad s)) [(0, .ref o), (1, .int x1), (2, .int x2), (3, .int x3), (4, .int x4), (5, .int y5)] [] 21) (s : St) (x5 : Int32) (h : bX3_setAllSwitches_21 x1 x2 x3 x4 k69 kH s x5) : atG p l e rmX3_setAllSwitches s0 m args below meth c 0 0 Z 6 (iW D A H0 (wX3 cy o ad s)) [(0, .ref o), (1, .int x1), (2, .int x2), (3, .int x3), (4, .int x4), (5, .int x5)] [] 21 := by
  delta bX3_setAllSwitches_21 at h
  refine aw_iload C dX3_setAllSwitches_21 5 rfl ?_
  refine aw_iload_n C dX3_setAllSwitches_23 2 rfl ?_
  refine aw_icmp_ge (tgt := 69) C dX3_setAllSwitches_24 (by decide) (fun c24 => ?_) (fun c24 => ?_)
  · have h := h.1 c24
    refine aw_lv [0, 1, 2, 3] rfl ?_
    exact hk69 s h
  have h := h.2 c24
  refine aw_aload_n C dX3_setAllSwitches_27 0 rfl ?_
  refine aw_iload_n C dX3_setAllSwitches_28 3 rfl ?_
  refine aw_iload C dX3_setAllSwitches_29 5 rfl ?_
  refine aw_iload C dX3_setAllSwitches_31 4 rfl ?_
  refine aw_callV (As := [.int x3, .int x5, .int x4]) (rest := []) C K (mtX3_goRound l D cy o ad s x3 x5 x4 _ h) (cwV 3 C.2.2.2.2.1 gX3_setAllSwitches_X3_goRound rfl rfl rfl (by decide +kernel) ⟨Nat.le_of_ble_eq_true rfl, Nat.le_of_ble_eq_true rfl⟩) 0 3 (wX3_g ..) rfl rfl rfl rfl (Nat.le_of_ble_eq_true rfl) ⟨Nat.le_of_ble_eq_true rfl, Nat.le_of_ble_eq_true rfl⟩ dX3_setAllSwitches_33 (fun s33 h => ?_)
  refine aw_aload_n C dX3_setAllSwitches_36 0 rfl ?_
  refine aw_iconst (v := 2) C dX3_setAllSwitches_37 (by decide) ?_
  refine aw_iload_n C dX3_setAllSwitches_38 1 rfl ?_
  refine aw_imul C dX3_setAllSwitches_39 ?_
  refine aw_iconst (v := 2) C dX3_setAllSwitches_40 (by decide) ?_
  refine aw_isub C dX3_setAllSwitches_41 ?_
  refine aw_iload_n C dX3_setAllSwitches_42 3 rfl ?_
  refine aw_iload C dX3_setAllSwitches_43 5 rfl ?_
  refine aw_iload C dX3_setAllSwitches_45 4 rfl ?_
  refine aw_callV (As := [.int ((2 * x1) - 2), .int x3, .int x5, .int x4]) (rest := []) C K (mtX3_setOuterStages l D cy o ad s33 ((2 * x1) - 2) x3 x5 x4 _ h) (cwV 4 C.2.2.2.2.1 gX3_setAllSwitches_X3_setOuterStages rfl rfl rfl (by decide +kernel) ⟨Nat.le_of_ble_eq_true rfl, Nat.le_of_ble_eq_true rfl⟩) 0 3 (wX3_g ..) rfl rfl rfl rfl (Nat.le_of_ble_eq_true rfl) ⟨Nat.le_of_ble_eq_true rfl, Nat.le_of_ble_eq_true rfl⟩ dX3_setAllSwitches_47 (fun s47 h => ?_)
  refine aw_aload_n C dX3_setAllSwitches_50 0 rfl ?_
  refine aw_iload_n C dX3_setAllSwitches_51 3 rfl ?_
  refine aw_iload C dX3_setAllSwitches_52 5 rfl ?_
  refine aw_iload C dX3_setAllSwitches_54 4 rfl ?_
  refine aw_callV (As := [.int x3, .int x5, .int x4]) (rest := []) C K (mtX3_handToHalves l D cy o ad s47 x3 x5 x4 _ h) (cwV 3 C.2.2.2.2.1 gX3_setAllSwitches_X3_handToHalves rfl rfl rfl (by decide +kernel) ⟨Nat.le_of_ble_eq_true rfl, Nat.le_of_ble_eq_true rfl⟩) 0 3 (wX3_g ..) rfl rfl rfl rfl (Nat.le_of_ble_eq_true rfl) ⟨Nat.le_of_ble_eq_true rfl, Nat.le_of_ble_eq_true rfl⟩ dX3_setAllSwitches_56 (fun s56 h => ?_)
  refine aw_iload C dX3_setAllSwitches_59 5 rfl ?_
  refine aw_iload C dX3_setAllSwitches_61 4 rfl ?_
  refine aw_iadd C dX3_setAllSwitches_63 ?_
  refine aw_name (fun x5_64 ex5_64 => ?_)
  have h := h x5_64 ex5_64
  refine aw_istore (lv' := [(5, .int x5_64), (0, .ref o), (1, .int x1), (2, .int x2), (3, .int x3), (4, .int x4)]) C dX3_setAllSwitches_64 (by decide) rfl ?_
  refine aw_goto (tgt := 21) C dX3_setAllSwitches_66 (by decide) ?_
  refine aw_lv [1, 2, 3, 4, 5, 0] rfl ?_
  exact hkH s56 x5_64 h
theorem tlX3_setAllSwitches_21 (C : ctB p s0 m args c cX3_setAllSwitches 6 RX3 wsX3_setAllSwitches) (K : ctK s0 D A H0 cy) {o : Nat} {ad : Nat → Nat}  {x1 : Int32} {x2 : Int32} {x3 : Int32} {x4 : Int32} {k69 : St → Prop} (hk69 : ∀ (s : St), k69 s → atG p l e rmX3_setAllSwitches s0 m args below meth c 0 0 Z 6 (iW D A H0 (wX3 cy o ad s)) [(0, .ref o), (1, .int x1), (2, .int x2), (3, .int x3)] [] 69) (s : St) (x5 : Int32) (h : lX3_setAllSwitches_21 x1 x2 x3 x4 k69 s x5) : atG p l e rmX3_setAllSwitches s0 m args below meth c 0 0 Z 6 (iW D A H0 (wX3 cy o ad s)) [(0, .ref o), (1, .int x1), (2, .int x2), (3, .int x3), (4, .int x4), (5, .int x5)] [] 21 :=
  lp_W (σ := St × Int32) (P := fun q => atG p l e rmX3_setAllSwitches s0 m args below meth c 0 0 Z 6 (iW D A H0 (wX3 cy o ad q.1)) [(0, .ref o), (1, .int x1), (2, .int x2), (3, .int x3), (4, .int x4), (5, .int q.2)] [] 21) (fun K2 hK2 q hb => tbX3_setAllSwitches_21 C K hk69 (fun s x5 hk => hK2 (s, x5) hk) q.1 q.2 hb) (s, x5) h
theorem tbX3_setAllSwitches_6 (C : ctB p s0 m args c cX3_setAllSwitches 6 RX3 wsX3_setAllSwitches) (K : ctK s0 D A H0 cy) {o : Nat} {ad : Nat → Nat}  {x1 : Int32} {x2 : Int32} {k75 : St → Prop} (hk75 : ∀ (s : St), k75 s → atG p l e rmX3_setAllSwitches s0 m args below meth c 0 0 Z 6 (iW D A H0 (wX3 cy o ad s)) [(0, .ref o), (1, .int x1), (2, .int x2)] [] 75) {kH : St → Int32 → Prop} (hkH : ∀ (s : St) (y3 : Int32), kH s y3 → atG p l e rmX3_setAllSwitches s0 m args below meth c 0 0 Z 6 (iW D A H0 (wX3 cy o ad s)) [(0, .ref o), (1, .int x1), (2, .int x2), (3, .int y3)] [] 6) (s : St) (x3 : Int32) (h : bX3_setAllSwitches_6 x1 x2 k75 kH s x3) : atG p l e rmX3_setAllSwitches s0 m args below meth c 0 0 Z 6 (iW D A H0 (wX3 cy o ad s)) [(0, .ref o), (1, .int x1), (2, .int x2), (3, .int x3)] [] 6 := by
  delta bX3_setAllSwitches_6 at h
  refine aw_iload_n C dX3_setAllSwitches_6 3 rfl ?_
  refine aw_iload_n C dX3_setAllSwitches_7 1 rfl ?_
  refine aw_iconst (v := 1) C dX3_setAllSwitches_8 (by decide) ?_
  refine aw_isub C dX3_setAllSwitches_9 ?_
  refine aw_icmp_ge (tgt := 75) C dX3_setAllSwitches_10 (by decide) (fun c10 => ?_) (fun c10 => ?_)
  · have h := h.1 c10
    refine aw_lv [0, 1, 2] rfl ?_
    exact hk75 s h
  have h := h.2 c10
  refine aw_iload_n C dX3_setAllSwitches_13 2 rfl ?_
  refine aw_iload_n C dX3_setAllSwitches_14 3 rfl ?_
  refine aw_ishr C dX3_setAllSwitches_15 ?_
  refine aw_name (fun x4_16 ex4_16 => ?_)
  have h := h x4_16 ex4_16
  refine aw_istore (lv' := [(4, .int x4_16), (0, .ref o), (1, .int x1), (2, .int x2), (3, .int x3)]) C dX3_setAllSwitches_16 (by decide) rfl ?_
  refine aw_iconst (v := 0) C dX3_setAllSwitches_18 (by decide) ?_
  refine aw_istore (lv' := [(5, .int 0), (4, .int x4_16), (0, .ref o), (1, .int x1), (2, .int x2), (3, .int x3)]) C dX3_setAllSwitches_19 (by decide) rfl ?_
  refine aw_lv [2, 3, 4, 5, 1, 0] rfl ?_
  refine tlX3_setAllSwitches_21 C K ?_ s 0 h
  intro s_69 h
  obtain ⟨x3_69, ex3_69⟩ : ∃ y : Int32, y = x3 + 1 := ⟨_, rfl⟩
  have h := h x3_69 ex3_69
  refine aw_iinc (v := x3_69) (lv' := [(3, .int x3_69), (0, .ref o), (1, .int x1), (2, .int x2)]) C dX3_setAllSwitches_69 3 rfl (by rw [ex3_69]; rfl) (by decide) rfl ?_
  refine aw_goto (tgt := 6) C dX3_setAllSwitches_72 (by decide) ?_
  refine aw_lv [1, 2, 3, 0] rfl ?_
  exact hkH s_69 x3_69 h
theorem tlX3_setAllSwitches_6 (C : ctB p s0 m args c cX3_setAllSwitches 6 RX3 wsX3_setAllSwitches) (K : ctK s0 D A H0 cy) {o : Nat} {ad : Nat → Nat}  {x1 : Int32} {x2 : Int32} {k75 : St → Prop} (hk75 : ∀ (s : St), k75 s → atG p l e rmX3_setAllSwitches s0 m args below meth c 0 0 Z 6 (iW D A H0 (wX3 cy o ad s)) [(0, .ref o), (1, .int x1), (2, .int x2)] [] 75) (s : St) (x3 : Int32) (h : lX3_setAllSwitches_6 x1 x2 k75 s x3) : atG p l e rmX3_setAllSwitches s0 m args below meth c 0 0 Z 6 (iW D A H0 (wX3 cy o ad s)) [(0, .ref o), (1, .int x1), (2, .int x2), (3, .int x3)] [] 6 :=
  lp_W (σ := St × Int32) (P := fun q => atG p l e rmX3_setAllSwitches s0 m args below meth c 0 0 Z 6 (iW D A H0 (wX3 cy o ad q.1)) [(0, .ref o), (1, .int x1), (2, .int x2), (3, .int q.2)] [] 6) (fun K2 hK2 q hb => tbX3_setAllSwitches_6 C K hk75 (fun s x3 hk => hK2 (s, x3) hk) q.1 q.2 hb) (s, x3) h
theorem tbX3_setAllSwitches_77 (C : ctB p s0 m args c cX3_setAllSwitches 6 RX3 wsX3_setAllSwitches) (K : ctK s0 D A H0 cy) {o : Nat} {ad : Nat → Nat}  {x1 : Int32} {x2 : Int32} {k112 : St → Prop} (hk112 : ∀ (s : St), k112 s → atG p l e rmX3_setAllSwitches s0 m args below meth c 0 0 Z 6 (iW D A H0 (wX3 cy o ad s)) [(0, .ref o)] [] 112) {kH : St → Int32 → Prop} (hkH : ∀ (s : St) (y3 : Int32), kH s y3 → atG p l e rmX3_setAllSwitches s0 m args below meth c 0 0 Z 6 (iW D A H0 (wX3 cy o ad s)) [(0, .ref o), (1, .int x1), (2, .int x2), (3, .int y3)] [] 77) (s : St) (x3 : Int32) (h : bX3_setAllSwitches_77 x1 x2 k112 kH s x3) : atG p l e rmX3_setAllSwitches s0 m args below meth c 0 0 Z 6 (iW D A H0 (wX3 cy o ad s)) [(0, .ref o), (1, .int x1), (2, .int x2), (3, .int x3)] [] 77 := by
  delta bX3_setAllSwitches_77 at h
  refine aw_iload_n C dX3_setAllSwitches_77 3 rfl ?_
  refine aw_iload_n C dX3_setAllSwitches_78 2 rfl ?_
  refine aw_iconst (v := 2) C dX3_setAllSwitches_79 (by decide) ?_
  refine aw_idiv C dX3_setAllSwitches_80 (by decide) ?_
  refine aw_icmp_ge (tgt := 112) C dX3_setAllSwitches_81 (by decide) (fun c81 => ?_) (fun c81 => ?_)
  · have h := h.1 c81
    refine aw_lv [0] rfl ?_
    exact hk112 s h
  have h := h.2 c81
  refine aw_aload_n C dX3_setAllSwitches_84 0 rfl ?_
  refine aw_getX3 C K inX3_setAllSwitches_3 dX3_setAllSwitches_85 0 (by decide) qX3_setAllSwitches_fieldLink_RX3_11 0 (wX3_g ..) rfl ?_
  refine aw_iload_n C dX3_setAllSwitches_88 1 rfl ?_
  refine aw_iconst (v := 1) C dX3_setAllSwitches_89 (by decide) ?_
  refine aw_isub C dX3_setAllSwitches_90 ?_
  obtain ⟨b91, h⟩ := h
  refine aw_aald C K dX3_setAllSwitches_91 1 (wX3_g0 ..) b91 (if_pos (vp_in_lt b91)) ?_
  refine aw_iload_n C dX3_setAllSwitches_92 3 rfl ?_
  refine aw_aload_n C dX3_setAllSwitches_93 0 rfl ?_
  refine aw_getX3 C K inX3_setAllSwitches_3 dX3_setAllSwitches_94 1 (by decide) qX3_setAllSwitches_fieldLink_RX3_16 0 (wX3_g ..) rfl ?_
  refine aw_iload_n C dX3_setAllSwitches_97 1 rfl ?_
  refine aw_iconst (v := 1) C dX3_setAllSwitches_98 (by decide) ?_
  refine aw_isub C dX3_setAllSwitches_99 ?_
  obtain ⟨b100, h⟩ := h
  refine aw_aald C K dX3_setAllSwitches_100 2 (wX3_g1 ..) b100 (if_pos (vp_in_lt b100)) ?_
  refine aw_iconst (v := 2) C dX3_setAllSwitches_101 (by decide) ?_
  refine aw_iload_n C dX3_setAllSwitches_102 3 rfl ?_
  refine aw_imul C dX3_setAllSwitches_103 ?_
  obtain ⟨b104, h⟩ := h
  refine aw_iald C K dX3_setAllSwitches_104 (12 + ((x1 - 1).toNatClampNeg)) (wX3_r1 (hn := (vp_in_lt b100)) ..) b104 ?_
  obtain ⟨b105, h⟩ := h
  refine aw_iast C K dX3_setAllSwitches_105 (5 + ((x1 - 1).toNatClampNeg)) (wX3_r0 (hn := (vp_in_lt b91)) ..) (wX3_t0 (hn := (vp_in_lt b91)) ..) b105 ?_
  obtain ⟨s105, es105⟩ : ∃ z, z = (uA s (10 + ((x1 - 1).toNatClampNeg)) (upd (sA s (10 + ((x1 - 1).toNatClampNeg))) x3.toNatClampNeg (sA s (20 + ((x1 - 1).toNatClampNeg)) (2 * x3).toNatClampNeg))) := ⟨_, rfl⟩
  rw [← es105]
  have h := h s105 es105
  obtain ⟨x3_106, ex3_106⟩ : ∃ y : Int32, y = x3 + 1 := ⟨_, rfl⟩
  have h := h x3_106 ex3_106
  refine aw_iinc (v := x3_106) (lv' := [(3, .int x3_106), (0, .ref o), (1, .int x1), (2, .int x2)]) C dX3_setAllSwitches_106 3 rfl (by rw [ex3_106]; rfl) (by decide) rfl ?_
  refine aw_goto (tgt := 77) C dX3_setAllSwitches_109 (by decide) ?_
  refine aw_lv [1, 2, 3, 0] rfl ?_
  exact hkH s105 x3_106 h
theorem tlX3_setAllSwitches_77 (C : ctB p s0 m args c cX3_setAllSwitches 6 RX3 wsX3_setAllSwitches) (K : ctK s0 D A H0 cy) {o : Nat} {ad : Nat → Nat}  {x1 : Int32} {x2 : Int32} {k112 : St → Prop} (hk112 : ∀ (s : St), k112 s → atG p l e rmX3_setAllSwitches s0 m args below meth c 0 0 Z 6 (iW D A H0 (wX3 cy o ad s)) [(0, .ref o)] [] 112) (s : St) (x3 : Int32) (h : lX3_setAllSwitches_77 x1 x2 k112 s x3) : atG p l e rmX3_setAllSwitches s0 m args below meth c 0 0 Z 6 (iW D A H0 (wX3 cy o ad s)) [(0, .ref o), (1, .int x1), (2, .int x2), (3, .int x3)] [] 77 :=
  lp_W (σ := St × Int32) (P := fun q => atG p l e rmX3_setAllSwitches s0 m args below meth c 0 0 Z 6 (iW D A H0 (wX3 cy o ad q.1)) [(0, .ref o), (1, .int x1), (2, .int x2), (3, .int q.2)] [] 77) (fun K2 hK2 q hb => tbX3_setAllSwitches_77 C K hk112 (fun s x3 hk => hK2 (s, x3) hk) q.1 q.2 hb) (s, x3) h
theorem eX3_setAllSwitches (C : ctB p s0 m args c cX3_setAllSwitches 6 RX3 wsX3_setAllSwitches) (K : ctK s0 D A H0 cy) {o : Nat} {ad : Nat → Nat} {Q : St → Prop} (hQ : ∀ (u : St), Q u → ∀ pc, decode cX3_setAllSwitches pc = .ok (.return_, 1) → atG p l e rmX3_setAllSwitches s0 m args below meth c 0 0 Z 6 (iW D A H0 (wX3 cy o ad u)) [] [] pc) (s : St) (x1 : Int32) (h : pX3_setAllSwitches  s x1 Q) : atG p l e rmX3_setAllSwitches s0 m args below meth c 0 0 Z 6 (iW D A H0 (wX3 cy o ad s)) [(0, .ref o), (1, .int x1)] [] 0 := by
  delta pX3_setAllSwitches at h
  refine aw_iconst (v := 1) C dX3_setAllSwitches_0 (by decide) ?_
  refine aw_iload_n C dX3_setAllSwitches_1 1 rfl ?_
  refine aw_ishl C dX3_setAllSwitches_2 ?_
  refine aw_name (fun x2_3 ex2_3 => ?_)
  have h := h x2_3 ex2_3
  refine aw_istore_n (lv' := [(2, .int x2_3), (0, .ref o), (1, .int x1)]) C dX3_setAllSwitches_3 (by decide) rfl ?_
  refine aw_iconst (v := 0) C dX3_setAllSwitches_4 (by decide) ?_
  refine aw_istore_n (lv' := [(3, .int 0), (2, .int x2_3), (0, .ref o), (1, .int x1)]) C dX3_setAllSwitches_5 (by decide) rfl ?_
  refine aw_lv [2, 3, 1, 0] rfl ?_
  refine tlX3_setAllSwitches_6 C K ?_ s 0 h
  intro s_75 h
  refine aw_iconst (v := 0) C dX3_setAllSwitches_75 (by decide) ?_
  refine aw_istore_n (lv' := [(3, .int 0), (0, .ref o), (1, .int x1), (2, .int x2_3)]) C dX3_setAllSwitches_76 (by decide) rfl ?_
  refine aw_lv [1, 2, 3, 0] rfl ?_
  refine tlX3_setAllSwitches_77 C K ?_ s_75 0 h
  intro s_112 h
  refine aw_lv [] rfl ?_
  exact hQ s_112 h 112 dX3_setAllSwitches_112
end SX3_setAllSwitches
theorem mtX3_setAllSwitches (l : Launch) (D : va_G) (cy : Nat → ClassId) (o : Nat) (ad : Nat → Nat) (s : St) (x1 : Int32) (Q : St → Prop) (hw : pX3_setAllSwitches  s x1 Q) : mV l yX3_setAllSwitches wsX3_setAllSwitches rmX3_setAllSwitches D cy [.ref o, .int x1] (wX3 cy o ad s) (wX3 cy o ad) Q :=
  metV (Wd := wX3 cy o ad) ⟨rfl, rfl⟩ (by decide) rfl (Nat.le_of_ble_eq_true rfl) (fun C K hQ => eX3_setAllSwitches C K hQ s x1 hw)
def rmX3_takeBits : Room := { frames := 0, cells := 0, slots := 0, locals := 0 }
theorem inX3_takeBits_3 : ∀ w ∈ wsX30, w ∈ wsX3_takeBits := fun w h => (List.mem_cons_of_mem _ (List.mem_append_left _ (List.mem_append_right _ h)))
theorem inX3_takeBits_4 : ∀ w ∈ wsX40, w ∈ wsX3_takeBits := fun w h => (List.mem_cons_of_mem _ (List.mem_append_right _ h))
theorem qX3_takeBits_fieldLink_RX3_11 : Cond.fieldLink RX3 11 "StageSwitch$Rounds" "bits" "[[I" ∈ wsX3_takeBits := (List.mem_cons_of_mem _ (List.mem_append_left _ (List.mem_append_left _ (List.mem_of_getElem? (i := 0) rfl))))
theorem qX3_takeBits_fieldLink_RX3_26 : Cond.fieldLink RX3 26 "StageSwitch$Sheet" "items" "[I" ∈ wsX3_takeBits := (List.mem_cons_of_mem _ (List.mem_append_left _ (List.mem_append_left _ (List.mem_of_getElem? (i := 1) rfl))))
section SX3_takeBits
variable {p : Program} {l : Launch} {e : Env} {s0 : State} {m : MethodId} {args : Array Value} {below : List Frame} {meth : Method} {c : Code} {D : va_G} {A : Nat → Prop} {H0 : Heap} {cy : Nat → ClassId} {Z : State → Prop}
theorem tbX3_takeBits_23 (C : ctB p s0 m args c cX3_takeBits 7 RX3 wsX3_takeBits) (K : ctK s0 D A H0 cy) {o : Nat} {ad : Nat → Nat} {o1 : Nat} {ad1 ln1 : Nat → Nat}  {x2 : Int32} {x3 : Int32} {x4 : Int32} {x5 : Int32} {k69 : (St × St) → Prop} (hk69 : ∀ (s : St × St), k69 s → atG p l e rmX3_takeBits s0 m args below meth c 0 0 Z 7 (iW D A H0 (wX34 cy o ad o1 ad1 ln1 s)) [(0, .ref o), (1, .ref o1), (2, .int x2), (3, .int x3), (4, .int x4), (5, .int x5)] [] 69) {kH : (St × St) → Int32 → Prop} (hkH : ∀ (s : St × St) (y6 : Int32), kH s y6 → atG p l e rmX3_takeBits s0 m args below meth c 0 0 Z 7 (iW D A H0 (wX34 cy o ad o1 ad1 ln1 s)) [(0, .ref o), (1, .ref o1), (2, .int x2), (3, .int x3), (4, .int x4), (5, .int x5), (6, .int y6)] [] 23) (s : St × St) (x6 : Int32) (h : bX3_takeBits_23 ln1 x2 x3 x4 x5 k69 kH s x6) : atG p l e rmX3_takeBits s0 m args below meth c 0 0 Z 7 (iW D A H0 (wX34 cy o ad o1 ad1 ln1 s)) [(0, .ref o), (1, .ref o1), (2, .int x2), (3, .int x3), (4, .int x4), (5, .int x5), (6, .int x6)] [] 23 := by
  delta bX3_takeBits_23 at h
  refine aw_iload C dX3_takeBits_23 6 rfl ?_
  refine aw_iload C dX3_takeBits_25 4 rfl ?_
  refine aw_icmp_ge (tgt := 69) C dX3_takeBits_27 (by decide) (fun c27 => ?_) (fun c27 => ?_)
  · have h := h.1 c27
    refine aw_lv [0, 1, 2, 3, 4, 5] rfl ?_
    exact hk69 s h
  have h := h.2 c27
  refine aw_aload_n C dX3_takeBits_30 0 rfl ?_
  refine aw_getX3 C K inX3_takeBits_3 dX3_takeBits_31 0 (by decide) qX3_takeBits_fieldLink_RX3_11 0 (wX34_0g ..) rfl ?_
  refine aw_iload C dX3_takeBits_34 5 rfl ?_
  obtain ⟨b36, h⟩ := h
  refine aw_aald C K dX3_takeBits_36 1 (wX34_0g0 ..) b36 (if_pos (vp_in_lt b36)) ?_
  refine aw_iload C dX3_takeBits_37 6 rfl ?_
  refine aw_aload_n C dX3_takeBits_39 1 rfl ?_
  refine aw_getX4 C K inX3_takeBits_4 dX3_takeBits_40 1 (by decide) qX3_takeBits_fieldLink_RX3_26 16 (wX34_1g ..) rfl ?_
  refine aw_iload_n C dX3_takeBits_43 2 rfl ?_
  refine aw_iload C dX3_takeBits_44 5 rfl ?_
  refine aw_iload C dX3_takeBits_46 4 rfl ?_
  refine aw_imul C dX3_takeBits_48 ?_
  refine aw_iadd C dX3_takeBits_49 ?_
  refine aw_iload C dX3_takeBits_50 6 rfl ?_
  refine aw_iadd C dX3_takeBits_52 ?_
  obtain ⟨b53, h⟩ := h
  refine aw_iald C K dX3_takeBits_53 17 (wX34_1g1 ..) b53 ?_
  refine aw_if_ne (tgt := 61) C dX3_takeBits_54 (by decide) (fun c54 => ?_) (fun c54 => ?_)
  · have h := h.2 c54
    refine aw_iconst (v := 1) C dX3_takeBits_61 (by decide) ?_
    obtain ⟨b62, h⟩ := h
    refine aw_iast C K dX3_takeBits_62 (5 + x5.toNatClampNeg) (wX34_0r0 (hn := (vp_in_lt b36)) ..) (wX34_0t0 (hn := (vp_in_lt b36)) ..) b62 ?_
    obtain ⟨s62, es62⟩ : ∃ z, z = ((uA s.1 (10 + x5.toNatClampNeg) (upd (sA s.1 (10 + x5.toNatClampNeg)) x6.toNatClampNeg 1)), s.2) := ⟨_, rfl⟩
    rw [← es62]
    have h := h s62 es62
    obtain ⟨x6_63, ex6_63⟩ : ∃ y : Int32, y = x6 + 1 := ⟨_, rfl⟩
    have h := h x6_63 ex6_63
    refine aw_iinc (v := x6_63) (lv' := [(6, .int x6_63), (0, .ref o), (1, .ref o1), (2, .int x2), (3, .int x3), (4, .int x4), (5, .int x5)]) C dX3_takeBits_63 6 rfl (by rw [ex6_63]; rfl) (by decide) rfl ?_
    refine aw_goto (tgt := 23) C dX3_takeBits_66 (by decide) ?_
    refine aw_lv [1, 2, 3, 4, 5, 6, 0] rfl ?_
    exact hkH s62 x6_63 h
  have h := h.1 c54
  refine aw_iconst (v := 0) C dX3_takeBits_57 (by decide) ?_
  refine aw_goto (tgt := 62) C dX3_takeBits_58 (by decide) ?_
  obtain ⟨b62, h⟩ := h
  refine aw_iast C K dX3_takeBits_62 (5 + x5.toNatClampNeg) (wX34_0r0 (hn := (vp_in_lt b36)) ..) (wX34_0t0 (hn := (vp_in_lt b36)) ..) b62 ?_
  obtain ⟨s62, es62⟩ : ∃ z, z = ((uA s.1 (10 + x5.toNatClampNeg) (upd (sA s.1 (10 + x5.toNatClampNeg)) x6.toNatClampNeg 0)), s.2) := ⟨_, rfl⟩
  rw [← es62]
  have h := h s62 es62
  obtain ⟨x6_63, ex6_63⟩ : ∃ y : Int32, y = x6 + 1 := ⟨_, rfl⟩
  have h := h x6_63 ex6_63
  refine aw_iinc (v := x6_63) (lv' := [(6, .int x6_63), (0, .ref o), (1, .ref o1), (2, .int x2), (3, .int x3), (4, .int x4), (5, .int x5)]) C dX3_takeBits_63 6 rfl (by rw [ex6_63]; rfl) (by decide) rfl ?_
  refine aw_goto (tgt := 23) C dX3_takeBits_66 (by decide) ?_
  refine aw_lv [1, 2, 3, 4, 5, 6, 0] rfl ?_
  exact hkH s62 x6_63 h
theorem tlX3_takeBits_23 (C : ctB p s0 m args c cX3_takeBits 7 RX3 wsX3_takeBits) (K : ctK s0 D A H0 cy) {o : Nat} {ad : Nat → Nat} {o1 : Nat} {ad1 ln1 : Nat → Nat}  {x2 : Int32} {x3 : Int32} {x4 : Int32} {x5 : Int32} {k69 : (St × St) → Prop} (hk69 : ∀ (s : St × St), k69 s → atG p l e rmX3_takeBits s0 m args below meth c 0 0 Z 7 (iW D A H0 (wX34 cy o ad o1 ad1 ln1 s)) [(0, .ref o), (1, .ref o1), (2, .int x2), (3, .int x3), (4, .int x4), (5, .int x5)] [] 69) (s : St × St) (x6 : Int32) (h : lX3_takeBits_23 ln1 x2 x3 x4 x5 k69 s x6) : atG p l e rmX3_takeBits s0 m args below meth c 0 0 Z 7 (iW D A H0 (wX34 cy o ad o1 ad1 ln1 s)) [(0, .ref o), (1, .ref o1), (2, .int x2), (3, .int x3), (4, .int x4), (5, .int x5), (6, .int x6)] [] 23 :=
  lp_W (σ := (St × St) × Int32) (P := fun q => atG p l e rmX3_takeBits s0 m args below meth c 0 0 Z 7 (iW D A H0 (wX34 cy o ad o1 ad1 ln1 q.1)) [(0, .ref o), (1, .ref o1), (2, .int x2), (3, .int x3), (4, .int x4), (5, .int x5), (6, .int q.2)] [] 23) (fun K2 hK2 q hb => tbX3_takeBits_23 C K hk69 (fun s x6 hk => hK2 (s, x6) hk) q.1 q.2 hb) (s, x6) h
theorem tbX3_takeBits_10 (C : ctB p s0 m args c cX3_takeBits 7 RX3 wsX3_takeBits) (K : ctK s0 D A H0 cy) {o : Nat} {ad : Nat → Nat} {o1 : Nat} {ad1 ln1 : Nat → Nat}  {x2 : Int32} {x3 : Int32} {x4 : Int32} {k75 : (St × St) → Prop} (hk75 : ∀ (s : St × St), k75 s → atG p l e rmX3_takeBits s0 m args below meth c 0 0 Z 7 (iW D A H0 (wX34 cy o ad o1 ad1 ln1 s)) [(0, .ref o)] [] 75) {kH : (St × St) → Int32 → Prop} (hkH : ∀ (s : St × St) (y5 : Int32), kH s y5 → atG p l e rmX3_takeBits s0 m args below meth c 0 0 Z 7 (iW D A H0 (wX34 cy o ad o1 ad1 ln1 s)) [(0, .ref o), (1, .ref o1), (2, .int x2), (3, .int x3), (4, .int x4), (5, .int y5)] [] 10) (s : St × St) (x5 : Int32) (h : bX3_takeBits_10 ln1 x2 x3 x4 k75 kH s x5) : atG p l e rmX3_takeBits s0 m args below meth c 0 0 Z 7 (iW D A H0 (wX34 cy o ad o1 ad1 ln1 s)) [(0, .ref o), (1, .ref o1), (2, .int x2), (3, .int x3), (4, .int x4), (5, .int x5)] [] 10 := by
  delta bX3_takeBits_10 at h
  refine aw_iload C dX3_takeBits_10 5 rfl ?_
  refine aw_iconst (v := 2) C dX3_takeBits_12 (by decide) ?_
  refine aw_iload_n C dX3_takeBits_13 3 rfl ?_
  refine aw_imul C dX3_takeBits_14 ?_
  refine aw_iconst (v := 1) C dX3_takeBits_15 (by decide) ?_
  refine aw_isub C dX3_takeBits_16 ?_
  refine aw_icmp_ge (tgt := 75) C dX3_takeBits_17 (by decide) (fun c17 => ?_) (fun c17 => ?_)
  · have h := h.1 c17
    refine aw_lv [0] rfl ?_
    exact hk75 s h
  have h := h.2 c17
  refine aw_iconst (v := 0) C dX3_takeBits_20 (by decide) ?_
  refine aw_istore (lv' := [(6, .int 0), (0, .ref o), (1, .ref o1), (2, .int x2), (3, .int x3), (4, .int x4), (5, .int x5)]) C dX3_takeBits_21 (by decide) rfl ?_
  refine aw_lv [1, 2, 3, 4, 5, 6, 0] rfl ?_
  refine tlX3_takeBits_23 C K ?_ s 0 h
  intro s_69 h
  obtain ⟨x5_69, ex5_69⟩ : ∃ y : Int32, y = x5 + 1 := ⟨_, rfl⟩
  have h := h x5_69 ex5_69
  refine aw_iinc (v := x5_69) (lv' := [(5, .int x5_69), (0, .ref o), (1, .ref o1), (2, .int x2), (3, .int x3), (4, .int x4)]) C dX3_takeBits_69 5 rfl (by rw [ex5_69]; rfl) (by decide) rfl ?_
  refine aw_goto (tgt := 10) C dX3_takeBits_72 (by decide) ?_
  refine aw_lv [1, 2, 3, 4, 5, 0] rfl ?_
  exact hkH s_69 x5_69 h
theorem tlX3_takeBits_10 (C : ctB p s0 m args c cX3_takeBits 7 RX3 wsX3_takeBits) (K : ctK s0 D A H0 cy) {o : Nat} {ad : Nat → Nat} {o1 : Nat} {ad1 ln1 : Nat → Nat}  {x2 : Int32} {x3 : Int32} {x4 : Int32} {k75 : (St × St) → Prop} (hk75 : ∀ (s : St × St), k75 s → atG p l e rmX3_takeBits s0 m args below meth c 0 0 Z 7 (iW D A H0 (wX34 cy o ad o1 ad1 ln1 s)) [(0, .ref o)] [] 75) (s : St × St) (x5 : Int32) (h : lX3_takeBits_10 ln1 x2 x3 x4 k75 s x5) : atG p l e rmX3_takeBits s0 m args below meth c 0 0 Z 7 (iW D A H0 (wX34 cy o ad o1 ad1 ln1 s)) [(0, .ref o), (1, .ref o1), (2, .int x2), (3, .int x3), (4, .int x4), (5, .int x5)] [] 10 :=
  lp_W (σ := (St × St) × Int32) (P := fun q => atG p l e rmX3_takeBits s0 m args below meth c 0 0 Z 7 (iW D A H0 (wX34 cy o ad o1 ad1 ln1 q.1)) [(0, .ref o), (1, .ref o1), (2, .int x2), (3, .int x3), (4, .int x4), (5, .int q.2)] [] 10) (fun K2 hK2 q hb => tbX3_takeBits_10 C K hk75 (fun s x5 hk => hK2 (s, x5) hk) q.1 q.2 hb) (s, x5) h
theorem eX3_takeBits (C : ctB p s0 m args c cX3_takeBits 7 RX3 wsX3_takeBits) (K : ctK s0 D A H0 cy) {o : Nat} {ad : Nat → Nat} {o1 : Nat} {ad1 ln1 : Nat → Nat} {Q : (St × St) → Prop} (hQ : ∀ (u : St × St), Q u → ∀ pc, decode cX3_takeBits pc = .ok (.return_, 1) → atG p l e rmX3_takeBits s0 m args below meth c 0 0 Z 7 (iW D A H0 (wX34 cy o ad o1 ad1 ln1 u)) [] [] pc) (s : St × St) (x2 : Int32) (x3 : Int32) (h : pX3_takeBits ln1 s x2 x3 Q) : atG p l e rmX3_takeBits s0 m args below meth c 0 0 Z 7 (iW D A H0 (wX34 cy o ad o1 ad1 ln1 s)) [(0, .ref o), (1, .ref o1), (2, .int x2), (3, .int x3)] [] 0 := by
  delta pX3_takeBits at h
  refine aw_iconst (v := 1) C dX3_takeBits_0 (by decide) ?_
  refine aw_iload_n C dX3_takeBits_1 3 rfl ?_
  refine aw_iconst (v := 1) C dX3_takeBits_2 (by decide) ?_
  refine aw_isub C dX3_takeBits_3 ?_
  refine aw_ishl C dX3_takeBits_4 ?_
  refine aw_name (fun x4_5 ex4_5 => ?_)
  have h := h x4_5 ex4_5
  refine aw_istore (lv' := [(4, .int x4_5), (0, .ref o), (1, .ref o1), (2, .int x2), (3, .int x3)]) C dX3_takeBits_5 (by decide) rfl ?_
  refine aw_iconst (v := 0) C dX3_takeBits_7 (by decide) ?_
  refine aw_istore (lv' := [(5, .int 0), (4, .int x4_5), (0, .ref o), (1, .ref o1), (2, .int x2), (3, .int x3)]) C dX3_takeBits_8 (by decide) rfl ?_
  refine aw_lv [2, 3, 4, 5, 1, 0] rfl ?_
  refine tlX3_takeBits_10 C K ?_ s 0 h
  intro s_75 h
  refine aw_lv [] rfl ?_
  exact hQ s_75 h 75 dX3_takeBits_75
end SX3_takeBits
theorem mtX3_takeBits (l : Launch) (D : va_G) (cy : Nat → ClassId) (o : Nat) (ad : Nat → Nat) (o1 : Nat) (ad1 ln1 : Nat → Nat) (s : St × St) (x2 : Int32) (x3 : Int32) (Q : (St × St) → Prop) (hw : pX3_takeBits ln1 s x2 x3 Q) : mV l yX3_takeBits wsX3_takeBits rmX3_takeBits D cy [.ref o, .ref o1, .int x2, .int x3] (wX34 cy o ad o1 ad1 ln1 s) (wX34 cy o ad o1 ad1 ln1) Q :=
  metV (Wd := wX34 cy o ad o1 ad1 ln1) ⟨rfl, rfl⟩ (by decide) rfl (Nat.le_of_ble_eq_true rfl) (fun C K hQ => eX3_takeBits C K hQ s x2 x3 hw)
def rmX3_follow : Room := { frames := 0, cells := 0, slots := 0, locals := 0 }
theorem inX3_follow_3 : ∀ w ∈ wsX30, w ∈ wsX3_follow := fun w h => (List.mem_cons_of_mem _ (List.mem_append_right _ h))
theorem qX3_follow_fieldLink_RX3_11 : Cond.fieldLink RX3 11 "StageSwitch$Rounds" "bits" "[[I" ∈ wsX3_follow := (List.mem_cons_of_mem _ (List.mem_append_left _ (List.mem_of_getElem? (i := 0) rfl)))
section SX3_follow
variable {p : Program} {l : Launch} {e : Env} {s0 : State} {m : MethodId} {args : Array Value} {below : List Frame} {meth : Method} {c : Code} {D : va_G} {A : Nat → Prop} {H0 : Heap} {cy : Nat → ClassId} {Z : State → Prop}
theorem tbX3_follow_8 (C : ctB p s0 m args c cX3_follow 8 RX3 wsX3_follow) (K : ctK s0 D A H0 cy) {o : Nat} {ad : Nat → Nat}  {s : St} {x1 : Int32} {k69 : Int32 → Int32 → Prop} (hk69 : ∀ (y3 : Int32) (y4 : Int32), k69 y3 y4 → atG p l e rmX3_follow s0 m args below meth c 0 0 Z 8 (iW D A H0 (wX3 cy o ad s)) [(0, .ref o), (1, .int x1), (3, .int y3), (4, .int y4)] [] 69) {kH : Int32 → Int32 → Int32 → Prop} (hkH : ∀ (y3 : Int32) (y4 : Int32) (y5 : Int32), kH y3 y4 y5 → atG p l e rmX3_follow s0 m args below meth c 0 0 Z 8 (iW D A H0 (wX3 cy o ad s)) [(0, .ref o), (1, .int x1), (3, .int y3), (4, .int y4), (5, .int y5)] [] 8) (x3 : Int32) (x4 : Int32) (x5 : Int32) (h : bX3_follow_8 s x1 k69 kH x3 x4 x5) : atG p l e rmX3_follow s0 m args below meth c 0 0 Z 8 (iW D A H0 (wX3 cy o ad s)) [(0, .ref o), (1, .int x1), (3, .int x3), (4, .int x4), (5, .int x5)] [] 8 := by
  delta bX3_follow_8 at h
  refine aw_iload C dX3_follow_8 4 rfl ?_
  refine aw_iload_n C dX3_follow_10 1 rfl ?_
  refine aw_iconst (v := 1) C dX3_follow_11 (by decide) ?_
  refine aw_isub C dX3_follow_12 ?_
  refine aw_icmp_ge (tgt := 69) C dX3_follow_13 (by decide) (fun c13 => ?_) (fun c13 => ?_)
  · have h := h.1 c13
    refine aw_lv [0, 1, 2, 3] rfl ?_
    exact hk69 x3 x4 h
  have h := h.2 c13
  refine aw_iconst (v := 1) C dX3_follow_16 (by decide) ?_
  refine aw_iload_n C dX3_follow_17 1 rfl ?_
  refine aw_iload C dX3_follow_18 4 rfl ?_
  refine aw_isub C dX3_follow_20 ?_
  refine aw_ishl C dX3_follow_21 ?_
  refine aw_name (fun x6_22 ex6_22 => ?_)
  have h := h x6_22 ex6_22
  refine aw_istore (lv' := [(6, .int x6_22), (0, .ref o), (1, .int x1), (3, .int x3), (4, .int x4), (5, .int x5)]) C dX3_follow_22 (by decide) rfl ?_
  refine aw_iload C dX3_follow_24 4 rfl ?_
  refine aw_iconst (v := 2) C dX3_follow_26 (by decide) ?_
  refine aw_irem C dX3_follow_27 (by decide) ?_
  refine aw_aload_n C dX3_follow_28 1 rfl ?_
  refine aw_getX3 C K inX3_follow_3 dX3_follow_29 0 (by decide) qX3_follow_fieldLink_RX3_11 0 (wX3_g ..) rfl ?_
  refine aw_iload C dX3_follow_32 5 rfl ?_
  obtain ⟨b34, h⟩ := h
  refine aw_aald C K dX3_follow_34 1 (wX3_g0 ..) b34 (if_pos (vp_in_lt b34)) ?_
  refine aw_iload_n C dX3_follow_35 3 rfl ?_
  refine aw_iload C dX3_follow_36 0 rfl ?_
  refine aw_imul C dX3_follow_38 ?_
  refine aw_iconst (v := 2) C dX3_follow_39 (by decide) ?_
  refine aw_idiv C dX3_follow_40 (by decide) ?_
  refine aw_iload C dX3_follow_41 4 rfl ?_
  refine aw_iconst (v := 2) C dX3_follow_43 (by decide) ?_
  refine aw_idiv C dX3_follow_44 (by decide) ?_
  refine aw_iadd C dX3_follow_45 ?_
  obtain ⟨b46, h⟩ := h
  refine aw_iald C K dX3_follow_46 (5 + x5.toNatClampNeg) (wX3_r0 (hn := (vp_in_lt b34)) ..) b46 ?_
  refine aw_name (fun v46 ev46 => ?_)
  have h := h v46 ev46
  refine aw_ixor C dX3_follow_47 ?_
  refine aw_name (fun x7_48 ex7_48 => ?_)
  have h := h x7_48 ex7_48
  refine aw_istore (lv' := [(7, .int x7_48), (6, .int x6_22), (0, .ref o), (1, .int x1), (3, .int x3), (4, .int x4), (5, .int x5)]) C dX3_follow_48 (by decide) rfl ?_
  refine aw_iconst (v := 2) C dX3_follow_50 (by decide) ?_
  refine aw_iload_n C dX3_follow_51 4 rfl ?_
  refine aw_imul C dX3_follow_52 ?_
  refine aw_iload C dX3_follow_53 0 rfl ?_
  refine aw_iadd C dX3_follow_55 ?_
  refine aw_name (fun x3_56 ex3_56 => ?_)
  have h := h x3_56 ex3_56
  refine aw_istore_n (lv' := [(3, .int x3_56), (7, .int x7_48), (6, .int x6_22), (0, .ref o), (1, .int x1), (4, .int x4), (5, .int x5)]) C dX3_follow_56 (by decide) rfl ?_
  refine aw_iload C dX3_follow_57 5 rfl ?_
  refine aw_iconst (v := 2) C dX3_follow_59 (by decide) ?_
  refine aw_idiv C dX3_follow_60 (by decide) ?_
  refine aw_name (fun x4_61 ex4_61 => ?_)
  have h := h x4_61 ex4_61
  refine aw_istore (lv' := [(4, .int x4_61), (3, .int x3_56), (7, .int x7_48), (6, .int x6_22), (0, .ref o), (1, .int x1), (5, .int x5)]) C dX3_follow_61 (by decide) rfl ?_
  obtain ⟨x5_63, ex5_63⟩ : ∃ y : Int32, y = x5 + 1 := ⟨_, rfl⟩
  have h := h x5_63 ex5_63
  refine aw_iinc (v := x5_63) (lv' := [(5, .int x5_63), (4, .int x4_61), (3, .int x3_56), (7, .int x7_48), (6, .int x6_22), (0, .ref o), (1, .int x1)]) C dX3_follow_63 6 rfl (by rw [ex5_63]; rfl) (by decide) rfl ?_
  refine aw_goto (tgt := 8) C dX3_follow_66 (by decide) ?_
  refine aw_lv [5, 6, 2, 1, 0] rfl ?_
  exact hkH x3_56 x4_61 x5_63 h
theorem tlX3_follow_8 (C : ctB p s0 m args c cX3_follow 8 RX3 wsX3_follow) (K : ctK s0 D A H0 cy) {o : Nat} {ad : Nat → Nat}  {s : St} {x1 : Int32} {k69 : Int32 → Int32 → Prop} (hk69 : ∀ (y3 : Int32) (y4 : Int32), k69 y3 y4 → atG p l e rmX3_follow s0 m args below meth c 0 0 Z 8 (iW D A H0 (wX3 cy o ad s)) [(0, .ref o), (1, .int x1), (3, .int y3), (4, .int y4)] [] 69) (x3 : Int32) (x4 : Int32) (x5 : Int32) (h : lX3_follow_8 s x1 k69 x3 x4 x5) : atG p l e rmX3_follow s0 m args below meth c 0 0 Z 8 (iW D A H0 (wX3 cy o ad s)) [(0, .ref o), (1, .int x1), (3, .int x3), (4, .int x4), (5, .int x5)] [] 8 :=
  lp_W (σ := Int32 × Int32 × Int32) (P := fun q => atG p l e rmX3_follow s0 m args below meth c 0 0 Z 8 (iW D A H0 (wX3 cy o ad s)) [(0, .ref o), (1, .int x1), (3, .int q.1), (4, .int q.2.1), (5, .int q.2.2)] [] 8) (fun K2 hK2 q hb => tbX3_follow_8 C K hk69 (fun x3 x4 x5 hk => hK2 (x3, x4, x5) hk) q.1 q.2.1 q.2.2 hb) (x3, x4, x5) h
theorem tbX3_follow_89 (C : ctB p s0 m args c cX3_follow 8 RX3 wsX3_follow) (K : ctK s0 D A H0 cy) {o : Nat} {ad : Nat → Nat}  {s : St} {x1 : Int32} {k150 : Int32 → Prop} (hk150 : ∀ (y4 : Int32), k150 y4 → atG p l e rmX3_follow s0 m args below meth c 0 0 Z 8 (iW D A H0 (wX3 cy o ad s)) [(0, .ref o), (4, .int y4)] [] 150) {kH : Int32 → Int32 → Int32 → Prop} (hkH : ∀ (y3 : Int32) (y4 : Int32) (y5 : Int32), kH y3 y4 y5 → atG p l e rmX3_follow s0 m args below meth c 0 0 Z 8 (iW D A H0 (wX3 cy o ad s)) [(0, .ref o), (1, .int x1), (3, .int y3), (4, .int y4), (5, .int y5)] [] 89) (x3 : Int32) (x4 : Int32) (x5 : Int32) (h : bX3_follow_89 s x1 k150 kH x3 x4 x5) : atG p l e rmX3_follow s0 m args below meth c 0 0 Z 8 (iW D A H0 (wX3 cy o ad s)) [(0, .ref o), (1, .int x1), (3, .int x3), (4, .int x4), (5, .int x5)] [] 89 := by
  delta bX3_follow_89 at h
  refine aw_iload C dX3_follow_89 4 rfl ?_
  refine aw_if_lt (tgt := 150) C dX3_follow_91 (by decide) (fun c91 => ?_) (fun c91 => ?_)
  · have h := h.1 c91
    refine aw_lv [0, 3] rfl ?_
    exact hk150 x4 h
  have h := h.2 c91
  refine aw_iconst (v := 1) C dX3_follow_94 (by decide) ?_
  refine aw_iload_n C dX3_follow_95 1 rfl ?_
  refine aw_iload C dX3_follow_96 4 rfl ?_
  refine aw_isub C dX3_follow_98 ?_
  refine aw_ishl C dX3_follow_99 ?_
  refine aw_name (fun x6_100 ex6_100 => ?_)
  have h := h x6_100 ex6_100
  refine aw_istore (lv' := [(6, .int x6_100), (0, .ref o), (1, .int x1), (3, .int x3), (4, .int x4), (5, .int x5)]) C dX3_follow_100 (by decide) rfl ?_
  refine aw_iload_n C dX3_follow_102 3 rfl ?_
  refine aw_iconst (v := 2) C dX3_follow_103 (by decide) ?_
  refine aw_irem C dX3_follow_104 (by decide) ?_
  refine aw_name (fun x7_105 ex7_105 => ?_)
  have h := h x7_105 ex7_105
  refine aw_istore (lv' := [(7, .int x7_105), (6, .int x6_100), (0, .ref o), (1, .int x1), (3, .int x3), (4, .int x4), (5, .int x5)]) C dX3_follow_105 (by decide) rfl ?_
  refine aw_iload_n C dX3_follow_107 4 rfl ?_
  refine aw_iconst (v := 2) C dX3_follow_108 (by decide) ?_
  refine aw_idiv C dX3_follow_109 (by decide) ?_
  refine aw_name (fun x3_110 ex3_110 => ?_)
  have h := h x3_110 ex3_110
  refine aw_istore_n (lv' := [(3, .int x3_110), (7, .int x7_105), (6, .int x6_100), (0, .ref o), (1, .int x1), (4, .int x4), (5, .int x5)]) C dX3_follow_110 (by decide) rfl ?_
  refine aw_iconst (v := 2) C dX3_follow_111 (by decide) ?_
  refine aw_iload C dX3_follow_112 5 rfl ?_
  refine aw_imul C dX3_follow_114 ?_
  refine aw_iload C dX3_follow_115 1 rfl ?_
  refine aw_aload_n C dX3_follow_117 3 rfl ?_
  refine aw_getX3 C K inX3_follow_3 dX3_follow_118 0 (by decide) qX3_follow_fieldLink_RX3_11 0 (wX3_g ..) rfl ?_
  refine aw_iconst (v := 2) C dX3_follow_121 (by decide) ?_
  refine aw_iload_n C dX3_follow_122 4 rfl ?_
  refine aw_imul C dX3_follow_123 ?_
  refine aw_iconst (v := 2) C dX3_follow_124 (by decide) ?_
  refine aw_isub C dX3_follow_125 ?_
  refine aw_iload C dX3_follow_126 6 rfl ?_
  refine aw_isub C dX3_follow_128 ?_
  obtain ⟨b129, h⟩ := h
  refine aw_aald C K dX3_follow_129 1 (wX3_g0 ..) b129 (if_pos (vp_in_lt b129)) ?_
  refine aw_iload_n C dX3_follow_130 0 rfl ?_
  refine aw_iload C dX3_follow_131 2 rfl ?_
  refine aw_imul C dX3_follow_133 ?_
  refine aw_iconst (v := 2) C dX3_follow_134 (by decide) ?_
  refine aw_idiv C dX3_follow_135 (by decide) ?_
  refine aw_iload C dX3_follow_136 5 rfl ?_
  refine aw_iadd C dX3_follow_138 ?_
  obtain ⟨b139, h⟩ := h
  refine aw_iald C K dX3_follow_139 (5 + ((((2 * x1) - 2) - x5).toNatClampNeg)) (wX3_r0 (hn := (vp_in_lt b129)) ..) b139 ?_
  refine aw_name (fun v139 ev139 => ?_)
  have h := h v139 ev139
  refine aw_ixor C dX3_follow_140 ?_
  refine aw_iadd C dX3_follow_141 ?_
  refine aw_name (fun x4_142 ex4_142 => ?_)
  have h := h x4_142 ex4_142
  refine aw_istore (lv' := [(4, .int x4_142), (3, .int x3_110), (7, .int x7_105), (6, .int x6_100), (0, .ref o), (1, .int x1), (5, .int x5)]) C dX3_follow_142 (by decide) rfl ?_
  obtain ⟨x5_144, ex5_144⟩ : ∃ y : Int32, y = x5 + (-1) := ⟨_, rfl⟩
  have h := h x5_144 ex5_144
  refine aw_iinc (v := x5_144) (lv' := [(5, .int x5_144), (4, .int x4_142), (3, .int x3_110), (7, .int x7_105), (6, .int x6_100), (0, .ref o), (1, .int x1)]) C dX3_follow_144 6 rfl (by rw [ex5_144]; rfl) (by decide) rfl ?_
  refine aw_goto (tgt := 89) C dX3_follow_147 (by decide) ?_
  refine aw_lv [5, 6, 2, 1, 0] rfl ?_
  exact hkH x3_110 x4_142 x5_144 h
theorem tlX3_follow_89 (C : ctB p s0 m args c cX3_follow 8 RX3 wsX3_follow) (K : ctK s0 D A H0 cy) {o : Nat} {ad : Nat → Nat}  {s : St} {x1 : Int32} {k150 : Int32 → Prop} (hk150 : ∀ (y4 : Int32), k150 y4 → atG p l e rmX3_follow s0 m args below meth c 0 0 Z 8 (iW D A H0 (wX3 cy o ad s)) [(0, .ref o), (4, .int y4)] [] 150) (x3 : Int32) (x4 : Int32) (x5 : Int32) (h : lX3_follow_89 s x1 k150 x3 x4 x5) : atG p l e rmX3_follow s0 m args below meth c 0 0 Z 8 (iW D A H0 (wX3 cy o ad s)) [(0, .ref o), (1, .int x1), (3, .int x3), (4, .int x4), (5, .int x5)] [] 89 :=
  lp_W (σ := Int32 × Int32 × Int32) (P := fun q => atG p l e rmX3_follow s0 m args below meth c 0 0 Z 8 (iW D A H0 (wX3 cy o ad s)) [(0, .ref o), (1, .int x1), (3, .int q.1), (4, .int q.2.1), (5, .int q.2.2)] [] 89) (fun K2 hK2 q hb => tbX3_follow_89 C K hk150 (fun x3 x4 x5 hk => hK2 (x3, x4, x5) hk) q.1 q.2.1 q.2.2 hb) (x3, x4, x5) h
theorem eX3_follow (C : ctB p s0 m args c cX3_follow 8 RX3 wsX3_follow) (K : ctK s0 D A H0 cy) {o : Nat} {ad : Nat → Nat} {Q : Int32 → Prop} (s : St) (hQ : ∀ (v : Int32), Q v → ∀ pc, decode cX3_follow pc = .ok (.ireturn, 1) → atG p l e rmX3_follow s0 m args below meth c 0 0 Z 8 (iW D A H0 (wX3 cy o ad s)) [] [.int v] pc) (x1 : Int32) (x2 : Int32) (h : pX3_follow  s x1 x2 Q) : atG p l e rmX3_follow s0 m args below meth c 0 0 Z 8 (iW D A H0 (wX3 cy o ad s)) [(0, .ref o), (1, .int x1), (2, .int x2)] [] 0 := by
  delta pX3_follow at h
  refine aw_iconst (v := 0) C dX3_follow_0 (by decide) ?_
  refine aw_istore_n (lv' := [(3, .int 0), (0, .ref o), (1, .int x1), (2, .int x2)]) C dX3_follow_1 (by decide) rfl ?_
  refine aw_iload_n C dX3_follow_2 3 rfl ?_
  refine aw_istore (lv' := [(4, .int x2), (3, .int 0), (0, .ref o), (1, .int x1), (2, .int x2)]) C dX3_follow_3 (by decide) rfl ?_
  refine aw_iconst (v := 0) C dX3_follow_5 (by decide) ?_
  refine aw_istore (lv' := [(5, .int 0), (4, .int x2), (3, .int 0), (0, .ref o), (1, .int x1), (2, .int x2)]) C dX3_follow_6 (by decide) rfl ?_
  refine aw_lv [3, 4, 2, 1, 0] rfl ?_
  refine tlX3_follow_8 C K ?_ 0 x2 0 h
  intro z69_3 z69_4 h
  refine aw_iload C dX3_follow_69 3 rfl ?_
  refine aw_aload_n C dX3_follow_71 0 rfl ?_
  refine aw_getX3 C K inX3_follow_3 dX3_follow_72 0 (by decide) qX3_follow_fieldLink_RX3_11 0 (wX3_g ..) rfl ?_
  refine aw_iload_n C dX3_follow_75 1 rfl ?_
  refine aw_iconst (v := 1) C dX3_follow_76 (by decide) ?_
  refine aw_isub C dX3_follow_77 ?_
  obtain ⟨b78, h⟩ := h
  refine aw_aald C K dX3_follow_78 1 (wX3_g0 ..) b78 (if_pos (vp_in_lt b78)) ?_
  refine aw_iload_n C dX3_follow_79 2 rfl ?_
  obtain ⟨b80, h⟩ := h
  refine aw_iald C K dX3_follow_80 (5 + ((x1 - 1).toNatClampNeg)) (wX3_r0 (hn := (vp_in_lt b78)) ..) b80 ?_
  refine aw_ixor C dX3_follow_81 ?_
  refine aw_name (fun x4_82 ex4_82 => ?_)
  have h := h x4_82 ex4_82
  refine aw_istore (lv' := [(4, .int x4_82), (0, .ref o), (1, .int x1), (3, .int z69_3)]) C dX3_follow_82 (by decide) rfl ?_
  refine aw_iload_n C dX3_follow_84 2 rfl ?_
  refine aw_iconst (v := 2) C dX3_follow_85 (by decide) ?_
  refine aw_isub C dX3_follow_86 ?_
  refine aw_name (fun x5_87 ex5_87 => ?_)
  have h := h x5_87 ex5_87
  refine aw_istore (lv' := [(5, .int x5_87), (4, .int x4_82), (0, .ref o), (1, .int x1), (3, .int z69_3)]) C dX3_follow_87 (by decide) rfl ?_
  refine aw_lv [2, 3, 4, 1, 0] rfl ?_
  refine tlX3_follow_89 C K ?_ z69_3 x4_82 x5_87 h
  intro z150_4 h
  refine aw_iload C dX3_follow_150 1 rfl ?_
  refine aw_lv [] rfl ?_
  exact hQ z150_4 h 152 dX3_follow_152
end SX3_follow
theorem mtX3_follow (l : Launch) (D : va_G) (cy : Nat → ClassId) (o : Nat) (ad : Nat → Nat) (s : St) (x1 : Int32) (x2 : Int32) (Q : Int32 → Prop) (hw : pX3_follow  s x1 x2 Q) : mI l yX3_follow wsX3_follow rmX3_follow D cy [.ref o, .int x1, .int x2] (wX3 cy o ad s) (wX3 cy o ad) (fun r u => Q r ∧ u = s) :=
  metI (Wd := wX3 cy o ad) ⟨rfl, rfl⟩ (by decide) rfl (Nat.le_of_ble_eq_true rfl) (fun C K hQ => eX3_follow C K s (fun v hq => hQ v s ⟨hq, rfl⟩) x1 x2 hw)
def rmX2_sumOfRow : Room := { frames := 0, cells := 0, slots := 0, locals := 0 }
theorem inX2_sumOfRow_2 : ∀ w ∈ wsX20, w ∈ wsX2_sumOfRow := fun w h => (List.mem_cons_of_mem _ (List.mem_append_right _ h))
theorem qX2_sumOfRow_fieldLink_RX2_20 : Cond.fieldLink RX2 20 "StageSwitch$Parts" "size" "I" ∈ wsX2_sumOfRow := (List.mem_cons_of_mem _ (List.mem_append_left _ (List.mem_of_getElem? (i := 0) rfl)))
theorem qX2_sumOfRow_fieldLink_RX2_17 : Cond.fieldLink RX2 17 "StageSwitch$Parts" "left" "[[I" ∈ wsX2_sumOfRow := (List.mem_cons_of_mem _ (List.mem_append_left _ (List.mem_of_getElem? (i := 1) rfl)))
section SX2_sumOfRow
variable {p : Program} {l : Launch} {e : Env} {s0 : State} {m : MethodId} {args : Array Value} {below : List Frame} {meth : Method} {c : Code} {D : va_G} {A : Nat → Prop} {H0 : Heap} {cy : Nat → ClassId} {Z : State → Prop}
theorem tbX2_sumOfRow_4 (C : ctB p s0 m args c cX2_sumOfRow 4 RX2 wsX2_sumOfRow) (K : ctK s0 D A H0 cy) {o : Nat} {ad : Nat → Nat}  {s : St} {x1 : Int32} {k29 : Int32 → Prop} (hk29 : ∀ (y2 : Int32), k29 y2 → atG p l e rmX2_sumOfRow s0 m args below meth c 0 0 Z 4 (iW D A H0 (wX2 cy o ad s)) [(0, .ref o), (2, .int y2)] [] 29) {kH : Int32 → Int32 → Prop} (hkH : ∀ (y2 : Int32) (y3 : Int32), kH y2 y3 → atG p l e rmX2_sumOfRow s0 m args below meth c 0 0 Z 4 (iW D A H0 (wX2 cy o ad s)) [(0, .ref o), (1, .int x1), (2, .int y2), (3, .int y3)] [] 4) (x2 : Int32) (x3 : Int32) (h : bX2_sumOfRow_4 s x1 k29 kH x2 x3) : atG p l e rmX2_sumOfRow s0 m args below meth c 0 0 Z 4 (iW D A H0 (wX2 cy o ad s)) [(0, .ref o), (1, .int x1), (2, .int x2), (3, .int x3)] [] 4 := by
  delta bX2_sumOfRow_4 at h
  refine aw_iload_n C dX2_sumOfRow_4 3 rfl ?_
  refine aw_aload_n C dX2_sumOfRow_5 0 rfl ?_
  refine aw_getX2 C K inX2_sumOfRow_2 dX2_sumOfRow_6 3 (by decide) qX2_sumOfRow_fieldLink_RX2_20 0 (wX2_g ..) rfl ?_
  refine aw_icmp_ge (tgt := 29) C dX2_sumOfRow_9 (by decide) (fun c9 => ?_) (fun c9 => ?_)
  · have h := h.1 c9
    refine aw_lv [0, 2] rfl ?_
    exact hk29 x2 h
  have h := h.2 c9
  refine aw_iload_n C dX2_sumOfRow_12 2 rfl ?_
  refine aw_aload_n C dX2_sumOfRow_13 0 rfl ?_
  refine aw_getX2 C K inX2_sumOfRow_2 dX2_sumOfRow_14 2 (by decide) qX2_sumOfRow_fieldLink_RX2_17 0 (wX2_g ..) rfl ?_
  refine aw_iload_n C dX2_sumOfRow_17 1 rfl ?_
  obtain ⟨b18, h⟩ := h
  refine aw_aald C K dX2_sumOfRow_18 2 (wX2_g2 ..) b18 (if_pos (vp_in_lt b18)) ?_
  refine aw_iload_n C dX2_sumOfRow_19 3 rfl ?_
  obtain ⟨b20, h⟩ := h
  refine aw_iald C K dX2_sumOfRow_20 (3 + x1.toNatClampNeg) (wX2_r2 (hn := (vp_in_lt b18)) ..) b20 ?_
  refine aw_iadd C dX2_sumOfRow_21 ?_
  refine aw_name (fun x2_22 ex2_22 => ?_)
  have h := h x2_22 ex2_22
  refine aw_istore_n (lv' := [(2, .int x2_22), (0, .ref o), (1, .int x1), (3, .int x3)]) C dX2_sumOfRow_22 (by decide) rfl ?_
  obtain ⟨x3_23, ex3_23⟩ : ∃ y : Int32, y = x3 + 1 := ⟨_, rfl⟩
  have h := h x3_23 ex3_23
  refine aw_iinc (v := x3_23) (lv' := [(3, .int x3_23), (2, .int x2_22), (0, .ref o), (1, .int x1)]) C dX2_sumOfRow_23 3 rfl (by rw [ex3_23]; rfl) (by decide) rfl ?_
  refine aw_goto (tgt := 4) C dX2_sumOfRow_26 (by decide) ?_
  refine aw_lv [2, 3, 1, 0] rfl ?_
  exact hkH x2_22 x3_23 h
theorem tlX2_sumOfRow_4 (C : ctB p s0 m args c cX2_sumOfRow 4 RX2 wsX2_sumOfRow) (K : ctK s0 D A H0 cy) {o : Nat} {ad : Nat → Nat}  {s : St} {x1 : Int32} {k29 : Int32 → Prop} (hk29 : ∀ (y2 : Int32), k29 y2 → atG p l e rmX2_sumOfRow s0 m args below meth c 0 0 Z 4 (iW D A H0 (wX2 cy o ad s)) [(0, .ref o), (2, .int y2)] [] 29) (x2 : Int32) (x3 : Int32) (h : lX2_sumOfRow_4 s x1 k29 x2 x3) : atG p l e rmX2_sumOfRow s0 m args below meth c 0 0 Z 4 (iW D A H0 (wX2 cy o ad s)) [(0, .ref o), (1, .int x1), (2, .int x2), (3, .int x3)] [] 4 :=
  lp_W (σ := Int32 × Int32) (P := fun q => atG p l e rmX2_sumOfRow s0 m args below meth c 0 0 Z 4 (iW D A H0 (wX2 cy o ad s)) [(0, .ref o), (1, .int x1), (2, .int q.1), (3, .int q.2)] [] 4) (fun K2 hK2 q hb => tbX2_sumOfRow_4 C K hk29 (fun x2 x3 hk => hK2 (x2, x3) hk) q.1 q.2 hb) (x2, x3) h
theorem eX2_sumOfRow (C : ctB p s0 m args c cX2_sumOfRow 4 RX2 wsX2_sumOfRow) (K : ctK s0 D A H0 cy) {o : Nat} {ad : Nat → Nat} {Q : Int32 → Prop} (s : St) (hQ : ∀ (v : Int32), Q v → ∀ pc, decode cX2_sumOfRow pc = .ok (.ireturn, 1) → atG p l e rmX2_sumOfRow s0 m args below meth c 0 0 Z 4 (iW D A H0 (wX2 cy o ad s)) [] [.int v] pc) (x1 : Int32) (h : pX2_sumOfRow  s x1 Q) : atG p l e rmX2_sumOfRow s0 m args below meth c 0 0 Z 4 (iW D A H0 (wX2 cy o ad s)) [(0, .ref o), (1, .int x1)] [] 0 := by
  delta pX2_sumOfRow at h
  refine aw_iconst (v := 0) C dX2_sumOfRow_0 (by decide) ?_
  refine aw_istore_n (lv' := [(2, .int 0), (0, .ref o), (1, .int x1)]) C dX2_sumOfRow_1 (by decide) rfl ?_
  refine aw_iconst (v := 0) C dX2_sumOfRow_2 (by decide) ?_
  refine aw_istore_n (lv' := [(3, .int 0), (2, .int 0), (0, .ref o), (1, .int x1)]) C dX2_sumOfRow_3 (by decide) rfl ?_
  refine aw_lv [2, 3, 1, 0] rfl ?_
  refine tlX2_sumOfRow_4 C K ?_ 0 0 h
  intro z29_2 h
  refine aw_iload_n C dX2_sumOfRow_29 1 rfl ?_
  refine aw_lv [] rfl ?_
  exact hQ z29_2 h 30 dX2_sumOfRow_30
end SX2_sumOfRow
theorem mtX2_sumOfRow (l : Launch) (D : va_G) (cy : Nat → ClassId) (o : Nat) (ad : Nat → Nat) (s : St) (x1 : Int32) (Q : Int32 → Prop) (hw : pX2_sumOfRow  s x1 Q) : mI l yX2_sumOfRow wsX2_sumOfRow rmX2_sumOfRow D cy [.ref o, .int x1] (wX2 cy o ad s) (wX2 cy o ad) (fun r u => Q r ∧ u = s) :=
  metI (Wd := wX2 cy o ad) ⟨rfl, rfl⟩ (by decide) rfl (Nat.le_of_ble_eq_true rfl) (fun C K hQ => eX2_sumOfRow C K s (fun v hq => hQ v s ⟨hq, rfl⟩) x1 hw)
def rmX2_sumOfColumn : Room := { frames := 0, cells := 0, slots := 0, locals := 0 }
theorem inX2_sumOfColumn_2 : ∀ w ∈ wsX20, w ∈ wsX2_sumOfColumn := fun w h => (List.mem_cons_of_mem _ (List.mem_append_right _ h))
theorem qX2_sumOfColumn_fieldLink_RX2_20 : Cond.fieldLink RX2 20 "StageSwitch$Parts" "size" "I" ∈ wsX2_sumOfColumn := (List.mem_cons_of_mem _ (List.mem_append_left _ (List.mem_of_getElem? (i := 0) rfl)))
theorem qX2_sumOfColumn_fieldLink_RX2_17 : Cond.fieldLink RX2 17 "StageSwitch$Parts" "left" "[[I" ∈ wsX2_sumOfColumn := (List.mem_cons_of_mem _ (List.mem_append_left _ (List.mem_of_getElem? (i := 1) rfl)))
section SX2_sumOfColumn
variable {p : Program} {l : Launch} {e : Env} {s0 : State} {m : MethodId} {args : Array Value} {below : List Frame} {meth : Method} {c : Code} {D : va_G} {A : Nat → Prop} {H0 : Heap} {cy : Nat → ClassId} {Z : State → Prop}
theorem tbX2_sumOfColumn_4 (C : ctB p s0 m args c cX2_sumOfColumn 4 RX2 wsX2_sumOfColumn) (K : ctK s0 D A H0 cy) {o : Nat} {ad : Nat → Nat}  {s : St} {x1 : Int32} {k29 : Int32 → Prop} (hk29 : ∀ (y2 : Int32), k29 y2 → atG p l e rmX2_sumOfColumn s0 m args below meth c 0 0 Z 4 (iW D A H0 (wX2 cy o ad s)) [(0, .ref o), (2, .int y2)] [] 29) {kH : Int32 → Int32 → Prop} (hkH : ∀ (y2 : Int32) (y3 : Int32), kH y2 y3 → atG p l e rmX2_sumOfColumn s0 m args below meth c 0 0 Z 4 (iW D A H0 (wX2 cy o ad s)) [(0, .ref o), (1, .int x1), (2, .int y2), (3, .int y3)] [] 4) (x2 : Int32) (x3 : Int32) (h : bX2_sumOfColumn_4 s x1 k29 kH x2 x3) : atG p l e rmX2_sumOfColumn s0 m args below meth c 0 0 Z 4 (iW D A H0 (wX2 cy o ad s)) [(0, .ref o), (1, .int x1), (2, .int x2), (3, .int x3)] [] 4 := by
  delta bX2_sumOfColumn_4 at h
  refine aw_iload_n C dX2_sumOfColumn_4 3 rfl ?_
  refine aw_aload_n C dX2_sumOfColumn_5 0 rfl ?_
  refine aw_getX2 C K inX2_sumOfColumn_2 dX2_sumOfColumn_6 3 (by decide) qX2_sumOfColumn_fieldLink_RX2_20 0 (wX2_g ..) rfl ?_
  refine aw_icmp_ge (tgt := 29) C dX2_sumOfColumn_9 (by decide) (fun c9 => ?_) (fun c9 => ?_)
  · have h := h.1 c9
    refine aw_lv [0, 2] rfl ?_
    exact hk29 x2 h
  have h := h.2 c9
  refine aw_iload_n C dX2_sumOfColumn_12 2 rfl ?_
  refine aw_aload_n C dX2_sumOfColumn_13 0 rfl ?_
  refine aw_getX2 C K inX2_sumOfColumn_2 dX2_sumOfColumn_14 2 (by decide) qX2_sumOfColumn_fieldLink_RX2_17 0 (wX2_g ..) rfl ?_
  refine aw_iload_n C dX2_sumOfColumn_17 3 rfl ?_
  obtain ⟨b18, h⟩ := h
  refine aw_aald C K dX2_sumOfColumn_18 2 (wX2_g2 ..) b18 (if_pos (vp_in_lt b18)) ?_
  refine aw_iload_n C dX2_sumOfColumn_19 1 rfl ?_
  obtain ⟨b20, h⟩ := h
  refine aw_iald C K dX2_sumOfColumn_20 (3 + x3.toNatClampNeg) (wX2_r2 (hn := (vp_in_lt b18)) ..) b20 ?_
  refine aw_iadd C dX2_sumOfColumn_21 ?_
  refine aw_name (fun x2_22 ex2_22 => ?_)
  have h := h x2_22 ex2_22
  refine aw_istore_n (lv' := [(2, .int x2_22), (0, .ref o), (1, .int x1), (3, .int x3)]) C dX2_sumOfColumn_22 (by decide) rfl ?_
  obtain ⟨x3_23, ex3_23⟩ : ∃ y : Int32, y = x3 + 1 := ⟨_, rfl⟩
  have h := h x3_23 ex3_23
  refine aw_iinc (v := x3_23) (lv' := [(3, .int x3_23), (2, .int x2_22), (0, .ref o), (1, .int x1)]) C dX2_sumOfColumn_23 3 rfl (by rw [ex3_23]; rfl) (by decide) rfl ?_
  refine aw_goto (tgt := 4) C dX2_sumOfColumn_26 (by decide) ?_
  refine aw_lv [2, 3, 1, 0] rfl ?_
  exact hkH x2_22 x3_23 h
theorem tlX2_sumOfColumn_4 (C : ctB p s0 m args c cX2_sumOfColumn 4 RX2 wsX2_sumOfColumn) (K : ctK s0 D A H0 cy) {o : Nat} {ad : Nat → Nat}  {s : St} {x1 : Int32} {k29 : Int32 → Prop} (hk29 : ∀ (y2 : Int32), k29 y2 → atG p l e rmX2_sumOfColumn s0 m args below meth c 0 0 Z 4 (iW D A H0 (wX2 cy o ad s)) [(0, .ref o), (2, .int y2)] [] 29) (x2 : Int32) (x3 : Int32) (h : lX2_sumOfColumn_4 s x1 k29 x2 x3) : atG p l e rmX2_sumOfColumn s0 m args below meth c 0 0 Z 4 (iW D A H0 (wX2 cy o ad s)) [(0, .ref o), (1, .int x1), (2, .int x2), (3, .int x3)] [] 4 :=
  lp_W (σ := Int32 × Int32) (P := fun q => atG p l e rmX2_sumOfColumn s0 m args below meth c 0 0 Z 4 (iW D A H0 (wX2 cy o ad s)) [(0, .ref o), (1, .int x1), (2, .int q.1), (3, .int q.2)] [] 4) (fun K2 hK2 q hb => tbX2_sumOfColumn_4 C K hk29 (fun x2 x3 hk => hK2 (x2, x3) hk) q.1 q.2 hb) (x2, x3) h
theorem eX2_sumOfColumn (C : ctB p s0 m args c cX2_sumOfColumn 4 RX2 wsX2_sumOfColumn) (K : ctK s0 D A H0 cy) {o : Nat} {ad : Nat → Nat} {Q : Int32 → Prop} (s : St) (hQ : ∀ (v : Int32), Q v → ∀ pc, decode cX2_sumOfColumn pc = .ok (.ireturn, 1) → atG p l e rmX2_sumOfColumn s0 m args below meth c 0 0 Z 4 (iW D A H0 (wX2 cy o ad s)) [] [.int v] pc) (x1 : Int32) (h : pX2_sumOfColumn  s x1 Q) : atG p l e rmX2_sumOfColumn s0 m args below meth c 0 0 Z 4 (iW D A H0 (wX2 cy o ad s)) [(0, .ref o), (1, .int x1)] [] 0 := by
  delta pX2_sumOfColumn at h
  refine aw_iconst (v := 0) C dX2_sumOfColumn_0 (by decide) ?_
  refine aw_istore_n (lv' := [(2, .int 0), (0, .ref o), (1, .int x1)]) C dX2_sumOfColumn_1 (by decide) rfl ?_
  refine aw_iconst (v := 0) C dX2_sumOfColumn_2 (by decide) ?_
  refine aw_istore_n (lv' := [(3, .int 0), (2, .int 0), (0, .ref o), (1, .int x1)]) C dX2_sumOfColumn_3 (by decide) rfl ?_
  refine aw_lv [2, 3, 1, 0] rfl ?_
  refine tlX2_sumOfColumn_4 C K ?_ 0 0 h
  intro z29_2 h
  refine aw_iload_n C dX2_sumOfColumn_29 1 rfl ?_
  refine aw_lv [] rfl ?_
  exact hQ z29_2 h 30 dX2_sumOfColumn_30
end SX2_sumOfColumn
theorem mtX2_sumOfColumn (l : Launch) (D : va_G) (cy : Nat → ClassId) (o : Nat) (ad : Nat → Nat) (s : St) (x1 : Int32) (Q : Int32 → Prop) (hw : pX2_sumOfColumn  s x1 Q) : mI l yX2_sumOfColumn wsX2_sumOfColumn rmX2_sumOfColumn D cy [.ref o, .int x1] (wX2 cy o ad s) (wX2 cy o ad) (fun r u => Q r ∧ u = s) :=
  metI (Wd := wX2 cy o ad) ⟨rfl, rfl⟩ (by decide) rfl (Nat.le_of_ble_eq_true rfl) (fun C K hQ => eX2_sumOfColumn C K s (fun v hq => hQ v s ⟨hq, rfl⟩) x1 hw)
def rmX2_takeTable : Room := { frames := 1, cells := 0, slots := 0, locals := 23 }
theorem inX2_takeTable_2 : ∀ w ∈ wsX20, w ∈ wsX2_takeTable := fun w h => (List.mem_cons_of_mem _ (List.mem_append_left _ (List.mem_append_right _ h)))
theorem inX2_takeTable_4 : ∀ w ∈ wsX40, w ∈ wsX2_takeTable := fun w h => (List.mem_cons_of_mem _ (List.mem_append_right _ h))
theorem qX2_takeTable_fieldLink_RX2_20 : Cond.fieldLink RX2 20 "StageSwitch$Parts" "size" "I" ∈ wsX2_takeTable := (List.mem_cons_of_mem _ (List.mem_append_left _ (List.mem_append_left _ (List.mem_of_getElem? (i := 0) rfl))))
theorem qX2_takeTable_fieldLink_RX2_24 : Cond.fieldLink RX2 24 "StageSwitch$Sheet" "items" "[I" ∈ wsX2_takeTable := (List.mem_cons_of_mem _ (List.mem_append_left _ (List.mem_append_left _ (List.mem_of_getElem? (i := 1) rfl))))
theorem qX2_takeTable_initialized_RX5 : Cond.initialized RX5 ∈ wsX2_takeTable := (List.mem_cons_of_mem _ (List.mem_append_left _ (List.mem_append_left _ (List.mem_of_getElem? (i := 4) rfl))))
theorem qX2_takeTable_static_yX5_within : Cond.static yX5_within ∈ wsX2_takeTable := (List.mem_cons_of_mem _ (List.mem_append_left _ (List.mem_append_left _ (List.mem_of_getElem? (i := 3) rfl))))
theorem qX2_takeTable_fieldLink_RX2_17 : Cond.fieldLink RX2 17 "StageSwitch$Parts" "left" "[[I" ∈ wsX2_takeTable := (List.mem_cons_of_mem _ (List.mem_append_left _ (List.mem_append_left _ (List.mem_of_getElem? (i := 2) rfl))))
section SX2_takeTable
variable {p : Program} {l : Launch} {e : Env} {s0 : State} {m : MethodId} {args : Array Value} {below : List Frame} {meth : Method} {c : Code} {D : va_G} {A : Nat → Prop} {H0 : Heap} {cy : Nat → ClassId} {Z : State → Prop}
theorem tbX2_takeTable_17 (C : ctB p s0 m args c cX2_takeTable 7 RX2 wsX2_takeTable) (K : ctK s0 D A H0 cy) {o : Nat} {ad : Nat → Nat} {o1 : Nat} {ad1 ln1 : Nat → Nat}  {x2 : Int32} {x3 : Int32} {x4 : Int32} {k51 : (St × St) → Prop} {k71 : (St × St) → Prop} (hk51 : ∀ (s : St × St), k51 s → atG p l e rmX2_takeTable s0 m args below meth c 0 0 Z 7 (iW D A H0 (wX24 cy o ad o1 ad1 ln1 s)) [(0, .ref o)] [] 51) (hk71 : ∀ (s : St × St), k71 s → atG p l e rmX2_takeTable s0 m args below meth c 0 0 Z 7 (iW D A H0 (wX24 cy o ad o1 ad1 ln1 s)) [(0, .ref o), (1, .ref o1), (2, .int x2), (3, .int x3), (4, .int x4)] [] 71) {kH : (St × St) → Int32 → Prop} (hkH : ∀ (s : St × St) (y5 : Int32), kH s y5 → atG p l e rmX2_takeTable s0 m args below meth c 0 0 Z 7 (iW D A H0 (wX24 cy o ad o1 ad1 ln1 s)) [(0, .ref o), (1, .ref o1), (2, .int x2), (3, .int x3), (4, .int x4), (5, .int y5)] [] 17) (s : St × St) (x5 : Int32) (h : bX2_takeTable_17 ln1 x2 x3 x4 k51 k71 kH s x5) : atG p l e rmX2_takeTable s0 m args below meth c 0 0 Z 7 (iW D A H0 (wX24 cy o ad o1 ad1 ln1 s)) [(0, .ref o), (1, .ref o1), (2, .int x2), (3, .int x3), (4, .int x4), (5, .int x5)] [] 17 := by
  delta bX2_takeTable_17 at h
  refine aw_iload C dX2_takeTable_17 5 rfl ?_
  refine aw_iload_n C dX2_takeTable_19 3 rfl ?_
  refine aw_icmp_ge (tgt := 71) C dX2_takeTable_20 (by decide) (fun c20 => ?_) (fun c20 => ?_)
  · have h := h.1 c20
    refine aw_lv [0, 1, 2, 3, 4] rfl ?_
    exact hk71 s h
  have h := h.2 c20
  refine aw_aload_n C dX2_takeTable_23 1 rfl ?_
  refine aw_getX4 C K inX2_takeTable_4 dX2_takeTable_24 1 (by decide) qX2_takeTable_fieldLink_RX2_24 9 (wX24_1g ..) rfl ?_
  refine aw_iload_n C dX2_takeTable_27 2 rfl ?_
  refine aw_iload C dX2_takeTable_28 4 rfl ?_
  refine aw_iload_n C dX2_takeTable_30 3 rfl ?_
  refine aw_imul C dX2_takeTable_31 ?_
  refine aw_iadd C dX2_takeTable_32 ?_
  refine aw_iload C dX2_takeTable_33 5 rfl ?_
  refine aw_iadd C dX2_takeTable_35 ?_
  obtain ⟨b36, h⟩ := h
  refine aw_iald C K dX2_takeTable_36 10 (wX24_1g1 ..) b36 ?_
  refine aw_name (fun x6_37 ex6_37 => ?_)
  have h := h x6_37 ex6_37
  refine aw_istore (lv' := [(6, .int x6_37), (0, .ref o), (1, .ref o1), (2, .int x2), (3, .int x3), (4, .int x4), (5, .int x5)]) C dX2_takeTable_37 (by decide) rfl ?_
  refine aw_iload C dX2_takeTable_39 0 rfl ?_
  refine aw_iconst (v := 0) C dX2_takeTable_41 (by decide) ?_
  refine aw_sipush (v := 1000) C dX2_takeTable_42 (by decide) ?_
  refine aw_callSN (As := [.int x6_37, .int 0, .int 1000]) (rest := []) (y := yX5_within) C (mtX5_within l x6_37 0 1000 _ h) ⟨va_cnB 3 C.2.2.2.2.1 gX2_takeTable_X5_within_n29 rfl rfl rfl (C.2.2.2.2.2.1 (RX2, 29, yX5_within) (by decide +kernel)) (C.2.2.2.2.1 _ qX2_takeTable_initialized_RX5) (by decide +kernel) ⟨Nat.le_of_ble_eq_true rfl, Nat.le_of_ble_eq_true rfl⟩, C.2.2.2.2.1 _ qX2_takeTable_static_yX5_within, trivial⟩ rfl rfl (Nat.le_of_ble_eq_true rfl) ⟨rfl, rfl⟩ ⟨Nat.zero_le _, Nat.zero_le _⟩ dX2_takeTable_45 (fun r45 h => ?_)
  refine aw_if_ne (tgt := 53) C dX2_takeTable_48 (by decide) (fun c48 => ?_) (fun c48 => ?_)
  · have h := h.2 c48
    refine aw_aload_n C dX2_takeTable_53 1 rfl ?_
    refine aw_getX2 C K inX2_takeTable_2 dX2_takeTable_54 2 (by decide) qX2_takeTable_fieldLink_RX2_17 0 (wX24_0g ..) rfl ?_
    refine aw_iload C dX2_takeTable_57 5 rfl ?_
    obtain ⟨b59, h⟩ := h
    refine aw_aald C K dX2_takeTable_59 2 (wX24_0g2 ..) b59 (if_pos (vp_in_lt b59)) ?_
    refine aw_iload C dX2_takeTable_60 6 rfl ?_
    refine aw_iload C dX2_takeTable_62 0 rfl ?_
    obtain ⟨b64, h⟩ := h
    refine aw_iast C K dX2_takeTable_64 (3 + x4.toNatClampNeg) (wX24_0r2 (hn := (vp_in_lt b59)) ..) (wX24_0t2 (hn := (vp_in_lt b59)) ..) b64 ?_
    obtain ⟨s64, es64⟩ : ∃ z, z = ((uA s.1 (10 + x4.toNatClampNeg) (upd (sA s.1 (10 + x4.toNatClampNeg)) x5.toNatClampNeg x6_37)), s.2) := ⟨_, rfl⟩
    rw [← es64]
    have h := h s64 es64
    obtain ⟨x5_65, ex5_65⟩ : ∃ y : Int32, y = x5 + 1 := ⟨_, rfl⟩
    have h := h x5_65 ex5_65
    refine aw_iinc (v := x5_65) (lv' := [(5, .int x5_65), (6, .int x6_37), (0, .ref o), (1, .ref o1), (2, .int x2), (3, .int x3), (4, .int x4)]) C dX2_takeTable_65 6 rfl (by rw [ex5_65]; rfl) (by decide) rfl ?_
    refine aw_goto (tgt := 17) C dX2_takeTable_68 (by decide) ?_
    refine aw_lv [2, 3, 4, 5, 6, 0] rfl ?_
    exact hkH s64 x5_65 h
  have h := h.1 c48
  refine aw_lv [1] rfl ?_
  exact hk51 s h
theorem tlX2_takeTable_17 (C : ctB p s0 m args c cX2_takeTable 7 RX2 wsX2_takeTable) (K : ctK s0 D A H0 cy) {o : Nat} {ad : Nat → Nat} {o1 : Nat} {ad1 ln1 : Nat → Nat}  {x2 : Int32} {x3 : Int32} {x4 : Int32} {k51 : (St × St) → Prop} {k71 : (St × St) → Prop} (hk51 : ∀ (s : St × St), k51 s → atG p l e rmX2_takeTable s0 m args below meth c 0 0 Z 7 (iW D A H0 (wX24 cy o ad o1 ad1 ln1 s)) [(0, .ref o)] [] 51) (hk71 : ∀ (s : St × St), k71 s → atG p l e rmX2_takeTable s0 m args below meth c 0 0 Z 7 (iW D A H0 (wX24 cy o ad o1 ad1 ln1 s)) [(0, .ref o), (1, .ref o1), (2, .int x2), (3, .int x3), (4, .int x4)] [] 71) (s : St × St) (x5 : Int32) (h : lX2_takeTable_17 ln1 x2 x3 x4 k51 k71 s x5) : atG p l e rmX2_takeTable s0 m args below meth c 0 0 Z 7 (iW D A H0 (wX24 cy o ad o1 ad1 ln1 s)) [(0, .ref o), (1, .ref o1), (2, .int x2), (3, .int x3), (4, .int x4), (5, .int x5)] [] 17 :=
  lp_W (σ := (St × St) × Int32) (P := fun q => atG p l e rmX2_takeTable s0 m args below meth c 0 0 Z 7 (iW D A H0 (wX24 cy o ad o1 ad1 ln1 q.1)) [(0, .ref o), (1, .ref o1), (2, .int x2), (3, .int x3), (4, .int x4), (5, .int q.2)] [] 17) (fun K2 hK2 q hb => tbX2_takeTable_17 C K hk51 hk71 (fun s x5 hk => hK2 (s, x5) hk) q.1 q.2 hb) (s, x5) h
theorem tbX2_takeTable_8 (C : ctB p s0 m args c cX2_takeTable 7 RX2 wsX2_takeTable) (K : ctK s0 D A H0 cy) {o : Nat} {ad : Nat → Nat} {o1 : Nat} {ad1 ln1 : Nat → Nat}  {x2 : Int32} {x3 : Int32} {k51 : (St × St) → Prop} {k77 : (St × St) → Prop} (hk51 : ∀ (s : St × St), k51 s → atG p l e rmX2_takeTable s0 m args below meth c 0 0 Z 7 (iW D A H0 (wX24 cy o ad o1 ad1 ln1 s)) [(0, .ref o)] [] 51) (hk77 : ∀ (s : St × St), k77 s → atG p l e rmX2_takeTable s0 m args below meth c 0 0 Z 7 (iW D A H0 (wX24 cy o ad o1 ad1 ln1 s)) [(0, .ref o), (3, .int x3)] [] 77) {kH : (St × St) → Int32 → Prop} (hkH : ∀ (s : St × St) (y4 : Int32), kH s y4 → atG p l e rmX2_takeTable s0 m args below meth c 0 0 Z 7 (iW D A H0 (wX24 cy o ad o1 ad1 ln1 s)) [(0, .ref o), (1, .ref o1), (2, .int x2), (3, .int x3), (4, .int y4)] [] 8) (s : St × St) (x4 : Int32) (h : bX2_takeTable_8 ln1 x2 x3 k51 k77 kH s x4) : atG p l e rmX2_takeTable s0 m args below meth c 0 0 Z 7 (iW D A H0 (wX24 cy o ad o1 ad1 ln1 s)) [(0, .ref o), (1, .ref o1), (2, .int x2), (3, .int x3), (4, .int x4)] [] 8 := by
  delta bX2_takeTable_8 at h
  refine aw_iload C dX2_takeTable_8 4 rfl ?_
  refine aw_iload_n C dX2_takeTable_10 3 rfl ?_
  refine aw_icmp_ge (tgt := 77) C dX2_takeTable_11 (by decide) (fun c11 => ?_) (fun c11 => ?_)
  · have h := h.1 c11
    refine aw_lv [0, 3] rfl ?_
    exact hk77 s h
  have h := h.2 c11
  refine aw_iconst (v := 0) C dX2_takeTable_14 (by decide) ?_
  refine aw_istore (lv' := [(5, .int 0), (0, .ref o), (1, .ref o1), (2, .int x2), (3, .int x3), (4, .int x4)]) C dX2_takeTable_15 (by decide) rfl ?_
  refine aw_lv [1, 2, 3, 4, 5, 0] rfl ?_
  refine tlX2_takeTable_17 C K ?_ ?_ s 0 h
  · intro s_51 h
    exact hk51 s_51 h
  intro s_71 h
  obtain ⟨x4_71, ex4_71⟩ : ∃ y : Int32, y = x4 + 1 := ⟨_, rfl⟩
  have h := h x4_71 ex4_71
  refine aw_iinc (v := x4_71) (lv' := [(4, .int x4_71), (0, .ref o), (1, .ref o1), (2, .int x2), (3, .int x3)]) C dX2_takeTable_71 4 rfl (by rw [ex4_71]; rfl) (by decide) rfl ?_
  refine aw_goto (tgt := 8) C dX2_takeTable_74 (by decide) ?_
  refine aw_lv [1, 2, 3, 4, 0] rfl ?_
  exact hkH s_71 x4_71 h
theorem tlX2_takeTable_8 (C : ctB p s0 m args c cX2_takeTable 7 RX2 wsX2_takeTable) (K : ctK s0 D A H0 cy) {o : Nat} {ad : Nat → Nat} {o1 : Nat} {ad1 ln1 : Nat → Nat}  {x2 : Int32} {x3 : Int32} {k51 : (St × St) → Prop} {k77 : (St × St) → Prop} (hk51 : ∀ (s : St × St), k51 s → atG p l e rmX2_takeTable s0 m args below meth c 0 0 Z 7 (iW D A H0 (wX24 cy o ad o1 ad1 ln1 s)) [(0, .ref o)] [] 51) (hk77 : ∀ (s : St × St), k77 s → atG p l e rmX2_takeTable s0 m args below meth c 0 0 Z 7 (iW D A H0 (wX24 cy o ad o1 ad1 ln1 s)) [(0, .ref o), (3, .int x3)] [] 77) (s : St × St) (x4 : Int32) (h : lX2_takeTable_8 ln1 x2 x3 k51 k77 s x4) : atG p l e rmX2_takeTable s0 m args below meth c 0 0 Z 7 (iW D A H0 (wX24 cy o ad o1 ad1 ln1 s)) [(0, .ref o), (1, .ref o1), (2, .int x2), (3, .int x3), (4, .int x4)] [] 8 :=
  lp_W (σ := (St × St) × Int32) (P := fun q => atG p l e rmX2_takeTable s0 m args below meth c 0 0 Z 7 (iW D A H0 (wX24 cy o ad o1 ad1 ln1 q.1)) [(0, .ref o), (1, .ref o1), (2, .int x2), (3, .int x3), (4, .int q.2)] [] 8) (fun K2 hK2 q hb => tbX2_takeTable_8 C K hk51 hk77 (fun s x4 hk => hK2 (s, x4) hk) q.1 q.2 hb) (s, x4) h
theorem tbX2_takeTable_87 (C : ctB p s0 m args c cX2_takeTable 7 RX2 wsX2_takeTable) (K : ctK s0 D A H0 cy) {o : Nat} {ad : Nat → Nat} {o1 : Nat} {ad1 ln1 : Nat → Nat}  {s : St × St} {x3 : Int32} {x4 : Int32} {k115 : Prop} {k123 : Prop} (hk115 : k115 → atG p l e rmX2_takeTable s0 m args below meth c 0 0 Z 7 (iW D A H0 (wX24 cy o ad o1 ad1 ln1 s)) [(0, .ref o)] [] 115) (hk123 : k123 → atG p l e rmX2_takeTable s0 m args below meth c 0 0 Z 7 (iW D A H0 (wX24 cy o ad o1 ad1 ln1 s)) [(0, .ref o)] [] 123) {kH : Int32 → Prop} (hkH : ∀ (y5 : Int32), kH y5 → atG p l e rmX2_takeTable s0 m args below meth c 0 0 Z 7 (iW D A H0 (wX24 cy o ad o1 ad1 ln1 s)) [(0, .ref o), (3, .int x3), (4, .int x4), (5, .int y5)] [] 87) (x5 : Int32) (h : bX2_takeTable_87 ln1 s x3 x4 k115 k123 kH x5) : atG p l e rmX2_takeTable s0 m args below meth c 0 0 Z 7 (iW D A H0 (wX24 cy o ad o1 ad1 ln1 s)) [(0, .ref o), (3, .int x3), (4, .int x4), (5, .int x5)] [] 87 := by
  delta bX2_takeTable_87 at h
  refine aw_iload C dX2_takeTable_87 3 rfl ?_
  refine aw_iload_n C dX2_takeTable_89 1 rfl ?_
  refine aw_icmp_ge (tgt := 123) C dX2_takeTable_90 (by decide) (fun c90 => ?_) (fun c90 => ?_)
  · have h := h.1 c90
    refine aw_lv [0] rfl ?_
    exact hk123 h
  have h := h.2 c90
  refine aw_aload_n C dX2_takeTable_93 0 rfl ?_
  refine aw_iload C dX2_takeTable_94 3 rfl ?_
  refine aw_callFI (cells2 := 0) (slots2 := 0) (Wx := (fun u => (wX24 cy o ad o1 ad1 ln1 (u, s.2)))) (wr := (wX4 cy o1 ad1 ln1 s.2)) (As := [.int x5]) (rest := []) C K (mtX2_sumOfRow l D cy o ad s.1 x5 _ h) (List.Perm.refl _) (fun u => List.Perm.refl _) (cwV 1 C.2.2.2.2.1 gX2_takeTable_X2_sumOfRow rfl rfl rfl (by decide +kernel) ⟨Nat.le_of_ble_eq_true rfl, Nat.le_of_ble_eq_true rfl⟩) 0 2 (wX2_g ..) rfl rfl rfl rfl (Nat.le_of_ble_eq_true rfl) rfl rfl ⟨Nat.le_of_ble_eq_true rfl, Nat.le_of_ble_eq_true rfl⟩ dX2_takeTable_96 (fun r96 u96 h => ?_)
  obtain ⟨h, hu96⟩ := h
  refine aw_perm (w1 := (wX24 cy o ad o1 ad1 ln1 s)) (by rw [hu96] <;> exact List.Perm.refl _) ?_
  refine aw_iload C dX2_takeTable_99 2 rfl ?_
  refine aw_icmp_ne (tgt := 115) C dX2_takeTable_101 (by decide) (fun c101 => ?_) (fun c101 => ?_)
  · have h := h.2 c101
    refine aw_lv [0] rfl ?_
    exact hk115 h
  have h := h.1 c101
  refine aw_aload_n C dX2_takeTable_104 0 rfl ?_
  refine aw_iload C dX2_takeTable_105 3 rfl ?_
  refine aw_callFI (cells2 := 0) (slots2 := 0) (Wx := (fun u => (wX24 cy o ad o1 ad1 ln1 (u, s.2)))) (wr := (wX4 cy o1 ad1 ln1 s.2)) (As := [.int x5]) (rest := []) C K (mtX2_sumOfColumn l D cy o ad s.1 x5 _ h) (List.Perm.refl _) (fun u => List.Perm.refl _) (cwV 1 C.2.2.2.2.1 gX2_takeTable_X2_sumOfColumn rfl rfl rfl (by decide +kernel) ⟨Nat.le_of_ble_eq_true rfl, Nat.le_of_ble_eq_true rfl⟩) 0 2 (wX2_g ..) rfl rfl rfl rfl (Nat.le_of_ble_eq_true rfl) rfl rfl ⟨Nat.le_of_ble_eq_true rfl, Nat.le_of_ble_eq_true rfl⟩ dX2_takeTable_107 (fun r107 u107 h => ?_)
  obtain ⟨h, hu107⟩ := h
  refine aw_perm (w1 := (wX24 cy o ad o1 ad1 ln1 s)) (by rw [hu107] <;> exact List.Perm.refl _) ?_
  refine aw_iload C dX2_takeTable_110 2 rfl ?_
  refine aw_icmp_eq (tgt := 117) C dX2_takeTable_112 (by decide) (fun c112 => ?_) (fun c112 => ?_)
  · have h := h.1 c112
    obtain ⟨x5_117, ex5_117⟩ : ∃ y : Int32, y = x5 + 1 := ⟨_, rfl⟩
    have h := h x5_117 ex5_117
    refine aw_iinc (v := x5_117) (lv' := [(5, .int x5_117), (0, .ref o), (3, .int x3), (4, .int x4)]) C dX2_takeTable_117 3 rfl (by rw [ex5_117]; rfl) (by decide) rfl ?_
    refine aw_goto (tgt := 87) C dX2_takeTable_120 (by decide) ?_
    refine aw_lv [1, 2, 3, 0] rfl ?_
    exact hkH x5_117 h
  have h := h.2 c112
  refine aw_lv [0] rfl ?_
  exact hk115 h
theorem tlX2_takeTable_87 (C : ctB p s0 m args c cX2_takeTable 7 RX2 wsX2_takeTable) (K : ctK s0 D A H0 cy) {o : Nat} {ad : Nat → Nat} {o1 : Nat} {ad1 ln1 : Nat → Nat}  {s : St × St} {x3 : Int32} {x4 : Int32} {k115 : Prop} {k123 : Prop} (hk115 : k115 → atG p l e rmX2_takeTable s0 m args below meth c 0 0 Z 7 (iW D A H0 (wX24 cy o ad o1 ad1 ln1 s)) [(0, .ref o)] [] 115) (hk123 : k123 → atG p l e rmX2_takeTable s0 m args below meth c 0 0 Z 7 (iW D A H0 (wX24 cy o ad o1 ad1 ln1 s)) [(0, .ref o)] [] 123) (x5 : Int32) (h : lX2_takeTable_87 ln1 s x3 x4 k115 k123 x5) : atG p l e rmX2_takeTable s0 m args below meth c 0 0 Z 7 (iW D A H0 (wX24 cy o ad o1 ad1 ln1 s)) [(0, .ref o), (3, .int x3), (4, .int x4), (5, .int x5)] [] 87 :=
  lp_W (σ := Int32) (P := fun q => atG p l e rmX2_takeTable s0 m args below meth c 0 0 Z 7 (iW D A H0 (wX24 cy o ad o1 ad1 ln1 s)) [(0, .ref o), (3, .int x3), (4, .int x4), (5, .int q)] [] 87) (fun K2 hK2 q hb => tbX2_takeTable_87 C K hk115 hk123 (fun x5 hk => hK2 x5 hk) q hb) x5 h
theorem eX2_takeTable (C : ctB p s0 m args c cX2_takeTable 7 RX2 wsX2_takeTable) (K : ctK s0 D A H0 cy) {o : Nat} {ad : Nat → Nat} {o1 : Nat} {ad1 ln1 : Nat → Nat} {Q : Int32 → (St × St) → Prop} (hQ : ∀ (v : Int32) (u : St × St), narrow .boolean (.int v) = .int v → Q v u → ∀ pc, decode cX2_takeTable pc = .ok (.ireturn, 1) → atG p l e rmX2_takeTable s0 m args below meth c 0 0 Z 7 (iW D A H0 (wX24 cy o ad o1 ad1 ln1 u)) [] [.int v] pc) (s : St × St) (x2 : Int32) (x3 : Int32) (h : pX2_takeTable ln1 s x2 x3 Q) : atG p l e rmX2_takeTable s0 m args below meth c 0 0 Z 7 (iW D A H0 (wX24 cy o ad o1 ad1 ln1 s)) [(0, .ref o), (1, .ref o1), (2, .int x2), (3, .int x3)] [] 0 := by
  delta pX2_takeTable at h
  refine aw_aload_n C dX2_takeTable_0 0 rfl ?_
  refine aw_iload_n C dX2_takeTable_1 3 rfl ?_
  refine aw_putX2 (ty := .int) C K inX2_takeTable_2 dX2_takeTable_2 3 (by decide) qX2_takeTable_fieldLink_RX2_20 0 (wX24_0g ..) rfl (by decide +kernel) rfl rfl (Nat.le_of_ble_eq_true rfl) (wX24_0p3 ..) ?_
  obtain ⟨s2, es2⟩ : ∃ z, z = ((uF s.1 3 x3), s.2) := ⟨_, rfl⟩
  rw [← es2]
  have h := h s2 es2
  refine aw_iconst (v := 0) C dX2_takeTable_5 (by decide) ?_
  refine aw_istore (lv' := [(4, .int 0), (0, .ref o), (1, .ref o1), (2, .int x2), (3, .int x3)]) C dX2_takeTable_6 (by decide) rfl ?_
  refine aw_lv [1, 2, 3, 4, 0] rfl ?_
  refine tlX2_takeTable_8 C K ?_ ?_ s2 0 h
  · intro s_51 h
    refine aw_iconst (v := 0) C dX2_takeTable_51 (by decide) ?_
    refine aw_lv [] rfl ?_
    exact hQ 0 s_51 rfl h 52 dX2_takeTable_52
  intro s_77 h
  refine aw_aload_n C dX2_takeTable_77 0 rfl ?_
  refine aw_iconst (v := 0) C dX2_takeTable_78 (by decide) ?_
  refine aw_callFI (cells2 := 0) (slots2 := 0) (Wx := (fun u => (wX24 cy o ad o1 ad1 ln1 (u, s_77.2)))) (wr := (wX4 cy o1 ad1 ln1 s_77.2)) (As := [.int 0]) (rest := []) C K (mtX2_sumOfRow l D cy o ad s_77.1 0 _ h) (List.Perm.refl _) (fun u => List.Perm.refl _) (cwV 1 C.2.2.2.2.1 gX2_takeTable_X2_sumOfRow rfl rfl rfl (by decide +kernel) ⟨Nat.le_of_ble_eq_true rfl, Nat.le_of_ble_eq_true rfl⟩) 0 2 (wX2_g ..) rfl rfl rfl rfl (Nat.le_of_ble_eq_true rfl) rfl rfl ⟨Nat.le_of_ble_eq_true rfl, Nat.le_of_ble_eq_true rfl⟩ dX2_takeTable_79 (fun r79 u79 h => ?_)
  obtain ⟨h, hu79⟩ := h
  refine aw_perm (w1 := (wX24 cy o ad o1 ad1 ln1 s_77)) (by rw [hu79] <;> exact List.Perm.refl _) ?_
  refine aw_istore (lv' := [(4, .int r79), (0, .ref o), (3, .int x3)]) C dX2_takeTable_82 (by decide) rfl ?_
  refine aw_iconst (v := 0) C dX2_takeTable_84 (by decide) ?_
  refine aw_istore (lv' := [(5, .int 0), (4, .int r79), (0, .ref o), (3, .int x3)]) C dX2_takeTable_85 (by decide) rfl ?_
  refine aw_lv [2, 3, 1, 0] rfl ?_
  refine tlX2_takeTable_87 C K ?_ ?_ 0 h
  · intro h
    refine aw_iconst (v := 0) C dX2_takeTable_115 (by decide) ?_
    refine aw_lv [] rfl ?_
    exact hQ 0 s_77 rfl h 116 dX2_takeTable_116
  intro h
  refine aw_iconst (v := 1) C dX2_takeTable_123 (by decide) ?_
  refine aw_lv [] rfl ?_
  exact hQ 1 s_77 rfl h 124 dX2_takeTable_124
end SX2_takeTable
theorem mtX2_takeTable (l : Launch) (D : va_G) (cy : Nat → ClassId) (o : Nat) (ad : Nat → Nat) (o1 : Nat) (ad1 ln1 : Nat → Nat) (s : St × St) (x2 : Int32) (x3 : Int32) (Q : Int32 → (St × St) → Prop) (hw : pX2_takeTable ln1 s x2 x3 Q) : mI l yX2_takeTable wsX2_takeTable rmX2_takeTable D cy [.ref o, .ref o1, .int x2, .int x3] (wX24 cy o ad o1 ad1 ln1 s) (wX24 cy o ad o1 ad1 ln1) Q :=
  metZ (ty := .boolean) (Wd := wX24 cy o ad o1 ad1 ln1) ⟨rfl, rfl⟩ (by decide) rfl (Nat.le_of_ble_eq_true rfl) (fun C K hQ => eX2_takeTable C K hQ s x2 x3 hw)
def rrX2_findOrder (n : Nat) : Room := { frames := n + 0, cells := 0, slots := 0, locals := n * 26 + 0 }
def rmX2_findOrder : Room := rrX2_findOrder 8
section SX2_findOrder
variable {p : Program} {l : Launch} {e : Env} {s0 : State} {m : MethodId} {args : Array Value} {below : List Frame} {meth : Method} {c : Code} {D : va_G} {A : Nat → Prop} {H0 : Heap} {cy : Nat → ClassId} {Z : State → Prop}
theorem tjX2_findOrder_31 (C : ctB p s0 m args c cX2_findOrder 7 RX2 wsX2_findOrder) (K : ctK s0 D A H0 cy) {o : Nat} {ad : Nat → Nat} {n : Nat} {rec : St → Int32 → Int32 → Int32 → (Int32 → St → Prop) → Prop} (hrec : ∀ (s : St) (x0 : Int32) (x1 : Int32) (x2 : Int32) (Q : Int32 → St → Prop), rec s x0 x1 x2 Q → mI l yX2_findOrder wsX2_findOrder (rrX2_findOrder n) D cy [.int x0, .int x1, .int x2, .ref (ad 2), .ref (ad 0)] (wX2 cy o ad s) (wX2 cy o ad) Q)  {kH : St → Int32 → Prop} {k72 : St → Prop} (s : St) (x0 : Int32) (x1 : Int32) (x2 : Int32) (x5 : Int32) (u0 : Int32) (hkH : ∀ (s : St) (y5 : Int32), kH s y5 → atG p l e (rrX2_findOrder (n + 1)) s0 m args below meth c 0 0 Z 7 (iW D A H0 (wX2 cy o ad s)) [(0, .int x0), (1, .int x1), (2, .int x2), (3, .ref (ad 2)), (4, .ref (ad 0)), (5, .int y5)] [] 10) (hk72 : ∀ (s : St), k72 s → atG p l e (rrX2_findOrder (n + 1)) s0 m args below meth c 0 0 Z 7 (iW D A H0 (wX2 cy o ad s)) [] [] 72) (h : jX2_findOrder_31 rec kH k72 s x0 x1 x2 x5 u0) : atG p l e (rrX2_findOrder (n + 1)) s0 m args below meth c 0 0 Z 7 (iW D A H0 (wX2 cy o ad s)) [(0, .int x0), (1, .int x1), (2, .int x2), (3, .ref (ad 2)), (4, .ref (ad 0)), (5, .int x5)] [.int u0] 31 := by
  delta jX2_findOrder_31 at h
  refine aw_istore (lv' := [(6, .int u0), (0, .int x0), (1, .int x1), (2, .int x2), (3, .ref (ad 2)), (4, .ref (ad 0)), (5, .int x5)]) C dX2_findOrder_31 (by decide) rfl ?_
  refine aw_iload C dX2_findOrder_33 0 rfl ?_
  refine aw_if_ne (tgt := 74) C dX2_findOrder_35 (by decide) (fun c35 => ?_) (fun c35 => ?_)
  · have h := h.2 c35
    obtain ⟨x5_74, ex5_74⟩ : ∃ y : Int32, y = x5 + 1 := ⟨_, rfl⟩
    have h := h x5_74 ex5_74
    refine aw_iinc (v := x5_74) (lv' := [(5, .int x5_74), (6, .int u0), (0, .int x0), (1, .int x1), (2, .int x2), (3, .ref (ad 2)), (4, .ref (ad 0))]) C dX2_findOrder_74 6 rfl (by rw [ex5_74]; rfl) (by decide) rfl ?_
    refine aw_goto (tgt := 10) C dX2_findOrder_77 (by decide) ?_
    refine aw_lv [2, 3, 4, 5, 6, 0] rfl ?_
    exact hkH s x5_74 h
  have h := h.1 c35
  refine aw_aload_n C dX2_findOrder_38 4 rfl ?_
  refine aw_iload_n C dX2_findOrder_39 1 rfl ?_
  obtain ⟨b40, h⟩ := h
  refine aw_aald C K dX2_findOrder_40 2 (wX2_g2 ..) b40 (if_pos (vp_in_lt b40)) ?_
  refine aw_iload C dX2_findOrder_41 6 rfl ?_
  obtain ⟨b43, h⟩ := h
  refine aw_iald C K dX2_findOrder_43 (3 + x0.toNatClampNeg) (wX2_r2 (hn := (vp_in_lt b40)) ..) b43 ?_
  refine aw_if_le (tgt := 74) C dX2_findOrder_44 (by decide) (fun c44 => ?_) (fun c44 => ?_)
  · have h := h.1 c44
    obtain ⟨x5_74, ex5_74⟩ : ∃ y : Int32, y = x5 + 1 := ⟨_, rfl⟩
    have h := h x5_74 ex5_74
    refine aw_iinc (v := x5_74) (lv' := [(5, .int x5_74), (6, .int u0), (0, .int x0), (1, .int x1), (2, .int x2), (3, .ref (ad 2)), (4, .ref (ad 0))]) C dX2_findOrder_74 6 rfl (by rw [ex5_74]; rfl) (by decide) rfl ?_
    refine aw_goto (tgt := 10) C dX2_findOrder_77 (by decide) ?_
    refine aw_lv [2, 3, 4, 5, 6, 0] rfl ?_
    exact hkH s x5_74 h
  have h := h.2 c44
  refine aw_aload C dX2_findOrder_47 5 rfl ?_
  refine aw_iload_n C dX2_findOrder_49 1 rfl ?_
  refine aw_iload C dX2_findOrder_50 6 rfl ?_
  obtain ⟨b52, h⟩ := h
  refine aw_iast C K dX2_findOrder_52 1 (wX2_g0 ..) (wX2_s0 ..) b52 ?_
  obtain ⟨s52, es52⟩ : ∃ z, z = (uA s 0 (upd (sA s 0) x0.toNatClampNeg x5)) := ⟨_, rfl⟩
  rw [← es52]
  have h := h s52 es52
  refine aw_iload_n C dX2_findOrder_53 1 rfl ?_
  refine aw_iconst (v := 1) C dX2_findOrder_54 (by decide) ?_
  refine aw_iadd C dX2_findOrder_55 ?_
  refine aw_iload_n C dX2_findOrder_56 2 rfl ?_
  refine aw_iconst (v := 1) C dX2_findOrder_57 (by decide) ?_
  refine aw_iload C dX2_findOrder_58 6 rfl ?_
  refine aw_ishl C dX2_findOrder_60 ?_
  refine aw_ior C dX2_findOrder_61 ?_
  refine aw_iload_n C dX2_findOrder_62 3 rfl ?_
  refine aw_aload_n C dX2_findOrder_63 4 rfl ?_
  refine aw_aload C dX2_findOrder_64 5 rfl ?_
  refine aw_callFTI (cells2 := 0) (slots2 := 0) (Wx := wX2 cy o ad) (wr := []) (As := [.int (x0 + 1), .int (x1 ||| (1 <<< (x5 &&& 31))), .int x2, .ref (ad 2), .ref (ad 0)]) (rest := []) C K (hrec s52 (x0 + 1) (x1 ||| (1 <<< (x5 &&& 31))) x2 _ h) (permNil _) (fun u => permNil _) (va_cwS 5 C.2.2.2.2.1 gX2_findOrder_X2_findOrder rfl rfl rfl (by decide +kernel) ⟨by simp only [rrX2_findOrder, rrX2_findOrder]; omega, by simp only [rrX2_findOrder, rrX2_findOrder]; omega⟩) rfl rfl (Nat.le_of_ble_eq_true rfl) rfl rfl ⟨Nat.zero_le _, Nat.zero_le _⟩ dX2_findOrder_66 (fun r66 s66 h => ?_)
  refine aw_if_eq (tgt := 74) C dX2_findOrder_69 (by decide) (fun c69 => ?_) (fun c69 => ?_)
  · have h := h.1 c69
    obtain ⟨x5_74, ex5_74⟩ : ∃ y : Int32, y = x5 + 1 := ⟨_, rfl⟩
    have h := h x5_74 ex5_74
    refine aw_iinc (v := x5_74) (lv' := [(5, .int x5_74), (6, .int u0), (0, .int x0), (1, .int x1), (2, .int x2), (3, .ref (ad 2)), (4, .ref (ad 0))]) C dX2_findOrder_74 6 rfl (by rw [ex5_74]; rfl) (by decide) rfl ?_
    refine aw_goto (tgt := 10) C dX2_findOrder_77 (by decide) ?_
    refine aw_lv [2, 3, 4, 5, 6, 0] rfl ?_
    exact hkH s66 x5_74 h
  have h := h.2 c69
  refine aw_lv [] rfl ?_
  exact hk72 s66 h
theorem tbX2_findOrder_10 (C : ctB p s0 m args c cX2_findOrder 7 RX2 wsX2_findOrder) (K : ctK s0 D A H0 cy) {o : Nat} {ad : Nat → Nat} {n : Nat} {rec : St → Int32 → Int32 → Int32 → (Int32 → St → Prop) → Prop} (hrec : ∀ (s : St) (x0 : Int32) (x1 : Int32) (x2 : Int32) (Q : Int32 → St → Prop), rec s x0 x1 x2 Q → mI l yX2_findOrder wsX2_findOrder (rrX2_findOrder n) D cy [.int x0, .int x1, .int x2, .ref (ad 2), .ref (ad 0)] (wX2 cy o ad s) (wX2 cy o ad) Q)  {x0 : Int32} {x1 : Int32} {x2 : Int32} {k72 : St → Prop} {k80 : St → Prop} (hk72 : ∀ (s : St), k72 s → atG p l e (rrX2_findOrder (n + 1)) s0 m args below meth c 0 0 Z 7 (iW D A H0 (wX2 cy o ad s)) [] [] 72) (hk80 : ∀ (s : St), k80 s → atG p l e (rrX2_findOrder (n + 1)) s0 m args below meth c 0 0 Z 7 (iW D A H0 (wX2 cy o ad s)) [] [] 80) {kH : St → Int32 → Prop} (hkH : ∀ (s : St) (y5 : Int32), kH s y5 → atG p l e (rrX2_findOrder (n + 1)) s0 m args below meth c 0 0 Z 7 (iW D A H0 (wX2 cy o ad s)) [(0, .int x0), (1, .int x1), (2, .int x2), (3, .ref (ad 2)), (4, .ref (ad 0)), (5, .int y5)] [] 10) (s : St) (x5 : Int32) (h : bX2_findOrder_10 rec x0 x1 x2 k72 k80 kH s x5) : atG p l e (rrX2_findOrder (n + 1)) s0 m args below meth c 0 0 Z 7 (iW D A H0 (wX2 cy o ad s)) [(0, .int x0), (1, .int x1), (2, .int x2), (3, .ref (ad 2)), (4, .ref (ad 0)), (5, .int x5)] [] 10 := by
  delta bX2_findOrder_10 at h
  refine aw_iload C dX2_findOrder_10 5 rfl ?_
  refine aw_iload_n C dX2_findOrder_12 2 rfl ?_
  refine aw_icmp_ge (tgt := 80) C dX2_findOrder_13 (by decide) (fun c13 => ?_) (fun c13 => ?_)
  · have h := h.1 c13
    refine aw_lv [] rfl ?_
    exact hk80 s h
  have h := h.2 c13
  refine aw_iload_n C dX2_findOrder_16 1 rfl ?_
  refine aw_iload C dX2_findOrder_17 5 rfl ?_
  refine aw_ishr C dX2_findOrder_19 ?_
  refine aw_iconst (v := 1) C dX2_findOrder_20 (by decide) ?_
  refine aw_iand C dX2_findOrder_21 ?_
  refine aw_iconst (v := 1) C dX2_findOrder_22 (by decide) ?_
  refine aw_icmp_ne (tgt := 30) C dX2_findOrder_23 (by decide) (fun c23 => ?_) (fun c23 => ?_)
  · have h := h.2 c23
    refine aw_iconst (v := 0) C dX2_findOrder_30 (by decide) ?_
    exact tjX2_findOrder_31 C K hrec s x0 x1 x2 x5 0 hkH hk72 h
  have h := h.1 c23
  refine aw_iconst (v := 1) C dX2_findOrder_26 (by decide) ?_
  refine aw_goto (tgt := 31) C dX2_findOrder_27 (by decide) ?_
  exact tjX2_findOrder_31 C K hrec s x0 x1 x2 x5 1 hkH hk72 h
theorem tlX2_findOrder_10 (C : ctB p s0 m args c cX2_findOrder 7 RX2 wsX2_findOrder) (K : ctK s0 D A H0 cy) {o : Nat} {ad : Nat → Nat} {n : Nat} {rec : St → Int32 → Int32 → Int32 → (Int32 → St → Prop) → Prop} (hrec : ∀ (s : St) (x0 : Int32) (x1 : Int32) (x2 : Int32) (Q : Int32 → St → Prop), rec s x0 x1 x2 Q → mI l yX2_findOrder wsX2_findOrder (rrX2_findOrder n) D cy [.int x0, .int x1, .int x2, .ref (ad 2), .ref (ad 0)] (wX2 cy o ad s) (wX2 cy o ad) Q)  {x0 : Int32} {x1 : Int32} {x2 : Int32} {k72 : St → Prop} {k80 : St → Prop} (hk72 : ∀ (s : St), k72 s → atG p l e (rrX2_findOrder (n + 1)) s0 m args below meth c 0 0 Z 7 (iW D A H0 (wX2 cy o ad s)) [] [] 72) (hk80 : ∀ (s : St), k80 s → atG p l e (rrX2_findOrder (n + 1)) s0 m args below meth c 0 0 Z 7 (iW D A H0 (wX2 cy o ad s)) [] [] 80) (s : St) (x5 : Int32) (h : lX2_findOrder_10 rec x0 x1 x2 k72 k80 s x5) : atG p l e (rrX2_findOrder (n + 1)) s0 m args below meth c 0 0 Z 7 (iW D A H0 (wX2 cy o ad s)) [(0, .int x0), (1, .int x1), (2, .int x2), (3, .ref (ad 2)), (4, .ref (ad 0)), (5, .int x5)] [] 10 :=
  lp_W (σ := St × Int32) (P := fun q => atG p l e (rrX2_findOrder (n + 1)) s0 m args below meth c 0 0 Z 7 (iW D A H0 (wX2 cy o ad q.1)) [(0, .int x0), (1, .int x1), (2, .int x2), (3, .ref (ad 2)), (4, .ref (ad 0)), (5, .int q.2)] [] 10) (fun K2 hK2 q hb => tbX2_findOrder_10 C K hrec hk72 hk80 (fun s x5 hk => hK2 (s, x5) hk) q.1 q.2 hb) (s, x5) h
theorem eX2_findOrder (C : ctB p s0 m args c cX2_findOrder 7 RX2 wsX2_findOrder) (K : ctK s0 D A H0 cy) {o : Nat} {ad : Nat → Nat} {n : Nat} {rec : St → Int32 → Int32 → Int32 → (Int32 → St → Prop) → Prop} (hrec : ∀ (s : St) (x0 : Int32) (x1 : Int32) (x2 : Int32) (Q : Int32 → St → Prop), rec s x0 x1 x2 Q → mI l yX2_findOrder wsX2_findOrder (rrX2_findOrder n) D cy [.int x0, .int x1, .int x2, .ref (ad 2), .ref (ad 0)] (wX2 cy o ad s) (wX2 cy o ad) Q) {Q : Int32 → St → Prop} (hQ : ∀ (v : Int32) (u : St), narrow .boolean (.int v) = .int v → Q v u → ∀ pc, decode cX2_findOrder pc = .ok (.ireturn, 1) → atG p l e (rrX2_findOrder (n + 1)) s0 m args below meth c 0 0 Z 7 (iW D A H0 (wX2 cy o ad u)) [] [.int v] pc) (s : St) (x0 : Int32) (x1 : Int32) (x2 : Int32) (h : pbX2_findOrder rec  s x0 x1 x2 Q) : atG p l e (rrX2_findOrder (n + 1)) s0 m args below meth c 0 0 Z 7 (iW D A H0 (wX2 cy o ad s)) [(0, .int x0), (1, .int x1), (2, .int x2), (3, .ref (ad 2)), (4, .ref (ad 0))] [] 0 := by
  delta pbX2_findOrder at h
  refine aw_iload_n C dX2_findOrder_0 0 rfl ?_
  refine aw_iload_n C dX2_findOrder_1 2 rfl ?_
  refine aw_icmp_lt (tgt := 7) C dX2_findOrder_2 (by decide) (fun c2 => ?_) (fun c2 => ?_)
  · have h := h.1 c2
    refine aw_iconst (v := 0) C dX2_findOrder_7 (by decide) ?_
    refine aw_istore (lv' := [(5, .int 0), (0, .int x0), (1, .int x1), (2, .int x2), (3, .ref (ad 2)), (4, .ref (ad 0))]) C dX2_findOrder_8 (by decide) rfl ?_
    refine aw_lv [1, 2, 3, 4, 5, 0] rfl ?_
    refine tlX2_findOrder_10 C K hrec ?_ ?_ s 0 h
    · intro s_72 h
      refine aw_iconst (v := 1) C dX2_findOrder_72 (by decide) ?_
      refine aw_lv [] rfl ?_
      exact hQ 1 s_72 rfl h 73 dX2_findOrder_73
    intro s_80 h
    refine aw_iconst (v := 0) C dX2_findOrder_80 (by decide) ?_
    refine aw_lv [] rfl ?_
    exact hQ 0 s_80 rfl h 81 dX2_findOrder_81
  have h := h.2 c2
  refine aw_iconst (v := 1) C dX2_findOrder_5 (by decide) ?_
  refine aw_lv [] rfl ?_
  exact hQ 1 s rfl h 6 dX2_findOrder_6
end SX2_findOrder
theorem mnX2_findOrder (l : Launch) (D : va_G) (cy : Nat → ClassId) (o : Nat) (ad : Nat → Nat) : ∀ (n : Nat) (s : St) (x0 : Int32) (x1 : Int32) (x2 : Int32) (Q : Int32 → St → Prop), pnX2_findOrder n s x0 x1 x2 Q → mI l yX2_findOrder wsX2_findOrder (rrX2_findOrder n) D cy [.int x0, .int x1, .int x2, .ref (ad 2), .ref (ad 0)] (wX2 cy o ad s) (wX2 cy o ad) Q := by
  intro n
  induction n with
  | zero => intro  s x0 x1 x2 Q h; exact h.elim
  | succ n ih =>
    intro  s x0 x1 x2 Q hw
    exact metZ (ty := .boolean) (Wd := wX2 cy o ad) ⟨rfl, rfl⟩ (by decide) rfl (Nat.le_of_ble_eq_true rfl) (fun C K hQ => eX2_findOrder C K ih hQ s x0 x1 x2 hw)
theorem mtX2_findOrder (l : Launch) (D : va_G) (cy : Nat → ClassId) (o : Nat) (ad : Nat → Nat) (s : St) (x0 : Int32) (x1 : Int32) (x2 : Int32) (Q : Int32 → St → Prop) (hw : pX2_findOrder  s x0 x1 x2 Q) : mI l yX2_findOrder wsX2_findOrder rmX2_findOrder D cy [.int x0, .int x1, .int x2, .ref (ad 2), .ref (ad 0)] (wX2 cy o ad s) (wX2 cy o ad) Q := mnX2_findOrder l D cy o ad 8 s x0 x1 x2 Q hw
def rmX2_takeOrderOff : Room := { frames := 1, cells := 0, slots := 0, locals := 30 }
theorem inX2_takeOrderOff_2 : ∀ w ∈ wsX20, w ∈ wsX2_takeOrderOff := fun w h => (List.mem_cons_of_mem _ (List.mem_append_right _ h))
theorem qX2_takeOrderOff_fieldLink_RX2_47 : Cond.fieldLink RX2 47 "StageSwitch$Parts" "times" "I" ∈ wsX2_takeOrderOff := (List.mem_cons_of_mem _ (List.mem_append_left _ (List.mem_of_getElem? (i := 0) rfl)))
theorem qX2_takeOrderOff_fieldLink_RX2_20 : Cond.fieldLink RX2 20 "StageSwitch$Parts" "size" "I" ∈ wsX2_takeOrderOff := (List.mem_cons_of_mem _ (List.mem_append_left _ (List.mem_of_getElem? (i := 1) rfl)))
theorem qX2_takeOrderOff_fieldLink_RX2_17 : Cond.fieldLink RX2 17 "StageSwitch$Parts" "left" "[[I" ∈ wsX2_takeOrderOff := (List.mem_cons_of_mem _ (List.mem_append_left _ (List.mem_of_getElem? (i := 2) rfl)))
theorem qX2_takeOrderOff_fieldLink_RX2_9 : Cond.fieldLink RX2 9 "StageSwitch$Parts" "order" "[I" ∈ wsX2_takeOrderOff := (List.mem_cons_of_mem _ (List.mem_append_left _ (List.mem_of_getElem? (i := 3) rfl)))
theorem qX2_takeOrderOff_methodLink_RX2_50_Lib_Math_min_name : Cond.methodLink RX2 50 Lib.Math.min.name ∈ wsX2_takeOrderOff := (List.mem_cons_of_mem _ (List.mem_append_left _ (List.mem_of_getElem? (i := 4) rfl)))
theorem qX2_takeOrderOff_static_Lib_Math_min_name : Cond.static Lib.Math.min.name ∈ wsX2_takeOrderOff := (List.mem_cons_of_mem _ (List.mem_append_left _ (List.mem_of_getElem? (i := 5) rfl)))
theorem qX2_takeOrderOff_initialized : Cond.initialized "java/lang/Math" ∈ wsX2_takeOrderOff := (List.mem_cons_of_mem _ (List.mem_append_left _ (List.mem_of_getElem? (i := 6) rfl)))
theorem qX2_takeOrderOff_code_Lib_Math_min_name_Lib_Math_min_code_2_some_int : Cond.code Lib.Math.min.name Lib.Math.min.code 2 (some .int) ∈ wsX2_takeOrderOff := (List.mem_cons_of_mem _ (List.mem_append_left _ (List.mem_of_getElem? (i := 7) rfl)))
section SX2_takeOrderOff
variable {p : Program} {l : Launch} {e : Env} {s0 : State} {m : MethodId} {args : Array Value} {below : List Frame} {meth : Method} {c : Code} {D : va_G} {A : Nat → Prop} {H0 : Heap} {cy : Nat → ClassId} {Z : State → Prop}
theorem tbX2_takeOrderOff_9 (C : ctB p s0 m args c cX2_takeOrderOff 2 RX2 wsX2_takeOrderOff) (K : ctK s0 D A H0 cy) {o : Nat} {ad : Nat → Nat}  {k47 : St → Prop} (hk47 : ∀ (s : St), k47 s → atG p l e rmX2_takeOrderOff s0 m args below meth c 0 0 Z 2 (iW D A H0 (wX2 cy o ad s)) [(0, .ref o)] [] 47) {kH : St → Int32 → Prop} (hkH : ∀ (s : St) (y1 : Int32), kH s y1 → atG p l e rmX2_takeOrderOff s0 m args below meth c 0 0 Z 2 (iW D A H0 (wX2 cy o ad s)) [(0, .ref o), (1, .int y1)] [] 9) (s : St) (x1 : Int32) (h : bX2_takeOrderOff_9 k47 kH s x1) : atG p l e rmX2_takeOrderOff s0 m args below meth c 0 0 Z 2 (iW D A H0 (wX2 cy o ad s)) [(0, .ref o), (1, .int x1)] [] 9 := by
  delta bX2_takeOrderOff_9 at h
  refine aw_iload_n C dX2_takeOrderOff_9 1 rfl ?_
  refine aw_aload_n C dX2_takeOrderOff_10 0 rfl ?_
  refine aw_getX2 C K inX2_takeOrderOff_2 dX2_takeOrderOff_11 3 (by decide) qX2_takeOrderOff_fieldLink_RX2_20 0 (wX2_g ..) rfl ?_
  refine aw_icmp_ge (tgt := 47) C dX2_takeOrderOff_14 (by decide) (fun c14 => ?_) (fun c14 => ?_)
  · have h := h.1 c14
    refine aw_lv [0] rfl ?_
    exact hk47 s h
  have h := h.2 c14
  refine aw_aload_n C dX2_takeOrderOff_17 0 rfl ?_
  refine aw_aload_n C dX2_takeOrderOff_18 0 rfl ?_
  refine aw_getX2 C K inX2_takeOrderOff_2 dX2_takeOrderOff_19 1 (by decide) qX2_takeOrderOff_fieldLink_RX2_47 0 (wX2_g ..) rfl ?_
  refine aw_aload_n C dX2_takeOrderOff_22 0 rfl ?_
  refine aw_getX2 C K inX2_takeOrderOff_2 dX2_takeOrderOff_23 2 (by decide) qX2_takeOrderOff_fieldLink_RX2_17 0 (wX2_g ..) rfl ?_
  refine aw_iload_n C dX2_takeOrderOff_26 1 rfl ?_
  obtain ⟨b27, h⟩ := h
  refine aw_aald C K dX2_takeOrderOff_27 2 (wX2_g2 ..) b27 (if_pos (vp_in_lt b27)) ?_
  refine aw_aload_n C dX2_takeOrderOff_28 0 rfl ?_
  refine aw_getX2 C K inX2_takeOrderOff_2 dX2_takeOrderOff_29 0 (by decide) qX2_takeOrderOff_fieldLink_RX2_9 0 (wX2_g ..) rfl ?_
  refine aw_iload_n C dX2_takeOrderOff_32 1 rfl ?_
  obtain ⟨b33, h⟩ := h
  refine aw_iald C K dX2_takeOrderOff_33 1 (wX2_g0 ..) b33 ?_
  obtain ⟨b34, h⟩ := h
  refine aw_iald C K dX2_takeOrderOff_34 (3 + x1.toNatClampNeg) (wX2_r2 (hn := (vp_in_lt b27)) ..) b34 ?_
  refine aw_mmin C dX2_takeOrderOff_35 qX2_takeOrderOff_methodLink_RX2_50_Lib_Math_min_name qX2_takeOrderOff_static_Lib_Math_min_name qX2_takeOrderOff_initialized qX2_takeOrderOff_code_Lib_Math_min_name_Lib_Math_min_code_2_some_int (Nat.le_of_ble_eq_true rfl) (Nat.le_of_ble_eq_true rfl) (Nat.zero_le _) (Nat.zero_le _) ?_
  refine aw_name (fun v35 ev35 => ?_)
  have h := h v35 ev35
  refine aw_putX2 (ty := .int) C K inX2_takeOrderOff_2 dX2_takeOrderOff_38 1 (by decide) qX2_takeOrderOff_fieldLink_RX2_47 0 (wX2_g ..) rfl (by decide +kernel) rfl rfl (Nat.le_of_ble_eq_true rfl) (wX2_p1 ..) ?_
  obtain ⟨s38, es38⟩ : ∃ z, z = (uF s 1 v35) := ⟨_, rfl⟩
  rw [← es38]
  have h := h s38 es38
  obtain ⟨x1_41, ex1_41⟩ : ∃ y : Int32, y = x1 + 1 := ⟨_, rfl⟩
  have h := h x1_41 ex1_41
  refine aw_iinc (v := x1_41) (lv' := [(1, .int x1_41), (0, .ref o)]) C dX2_takeOrderOff_41 1 rfl (by rw [ex1_41]; rfl) (by decide) rfl ?_
  refine aw_goto (tgt := 9) C dX2_takeOrderOff_44 (by decide) ?_
  refine aw_lv [1, 0] rfl ?_
  exact hkH s38 x1_41 h
theorem tlX2_takeOrderOff_9 (C : ctB p s0 m args c cX2_takeOrderOff 2 RX2 wsX2_takeOrderOff) (K : ctK s0 D A H0 cy) {o : Nat} {ad : Nat → Nat}  {k47 : St → Prop} (hk47 : ∀ (s : St), k47 s → atG p l e rmX2_takeOrderOff s0 m args below meth c 0 0 Z 2 (iW D A H0 (wX2 cy o ad s)) [(0, .ref o)] [] 47) (s : St) (x1 : Int32) (h : lX2_takeOrderOff_9 k47 s x1) : atG p l e rmX2_takeOrderOff s0 m args below meth c 0 0 Z 2 (iW D A H0 (wX2 cy o ad s)) [(0, .ref o), (1, .int x1)] [] 9 :=
  lp_W (σ := St × Int32) (P := fun q => atG p l e rmX2_takeOrderOff s0 m args below meth c 0 0 Z 2 (iW D A H0 (wX2 cy o ad q.1)) [(0, .ref o), (1, .int q.2)] [] 9) (fun K2 hK2 q hb => tbX2_takeOrderOff_9 C K hk47 (fun s x1 hk => hK2 (s, x1) hk) q.1 q.2 hb) (s, x1) h
theorem tbX2_takeOrderOff_49 (C : ctB p s0 m args c cX2_takeOrderOff 2 RX2 wsX2_takeOrderOff) (K : ctK s0 D A H0 cy) {o : Nat} {ad : Nat → Nat}  {k83 : St → Prop} (hk83 : ∀ (s : St), k83 s → atG p l e rmX2_takeOrderOff s0 m args below meth c 0 0 Z 2 (iW D A H0 (wX2 cy o ad s)) [(0, .ref o)] [] 83) {kH : St → Int32 → Prop} (hkH : ∀ (s : St) (y1 : Int32), kH s y1 → atG p l e rmX2_takeOrderOff s0 m args below meth c 0 0 Z 2 (iW D A H0 (wX2 cy o ad s)) [(0, .ref o), (1, .int y1)] [] 49) (s : St) (x1 : Int32) (h : bX2_takeOrderOff_49 k83 kH s x1) : atG p l e rmX2_takeOrderOff s0 m args below meth c 0 0 Z 2 (iW D A H0 (wX2 cy o ad s)) [(0, .ref o), (1, .int x1)] [] 49 := by
  delta bX2_takeOrderOff_49 at h
  refine aw_iload_n C dX2_takeOrderOff_49 1 rfl ?_
  refine aw_aload_n C dX2_takeOrderOff_50 0 rfl ?_
  refine aw_getX2 C K inX2_takeOrderOff_2 dX2_takeOrderOff_51 3 (by decide) qX2_takeOrderOff_fieldLink_RX2_20 0 (wX2_g ..) rfl ?_
  refine aw_icmp_ge (tgt := 83) C dX2_takeOrderOff_54 (by decide) (fun c54 => ?_) (fun c54 => ?_)
  · have h := h.1 c54
    refine aw_lv [0] rfl ?_
    exact hk83 s h
  have h := h.2 c54
  refine aw_aload_n C dX2_takeOrderOff_57 0 rfl ?_
  refine aw_getX2 C K inX2_takeOrderOff_2 dX2_takeOrderOff_58 2 (by decide) qX2_takeOrderOff_fieldLink_RX2_17 0 (wX2_g ..) rfl ?_
  refine aw_iload_n C dX2_takeOrderOff_61 1 rfl ?_
  obtain ⟨b62, h⟩ := h
  refine aw_aald C K dX2_takeOrderOff_62 2 (wX2_g2 ..) b62 (if_pos (vp_in_lt b62)) ?_
  refine aw_aload_n C dX2_takeOrderOff_63 0 rfl ?_
  refine aw_getX2 C K inX2_takeOrderOff_2 dX2_takeOrderOff_64 0 (by decide) qX2_takeOrderOff_fieldLink_RX2_9 0 (wX2_g ..) rfl ?_
  refine aw_iload_n C dX2_takeOrderOff_67 1 rfl ?_
  obtain ⟨b68, h⟩ := h
  refine aw_iald C K dX2_takeOrderOff_68 1 (wX2_g0 ..) b68 ?_
  refine aw_dup2 C dX2_takeOrderOff_69 rfl rfl ?_
  obtain ⟨b70, h⟩ := h
  refine aw_iald C K dX2_takeOrderOff_70 (3 + x1.toNatClampNeg) (wX2_r2 (hn := (vp_in_lt b62)) ..) b70 ?_
  refine aw_aload_n C dX2_takeOrderOff_71 0 rfl ?_
  refine aw_getX2 C K inX2_takeOrderOff_2 dX2_takeOrderOff_72 1 (by decide) qX2_takeOrderOff_fieldLink_RX2_47 0 (wX2_g ..) rfl ?_
  refine aw_isub C dX2_takeOrderOff_75 ?_
  refine aw_name (fun v75 ev75 => ?_)
  have h := h v75 ev75
  obtain ⟨b76, h⟩ := h
  refine aw_iast C K dX2_takeOrderOff_76 (3 + x1.toNatClampNeg) (wX2_r2 (hn := (vp_in_lt b62)) ..) (wX2_t2 (hn := (vp_in_lt b62)) ..) b76 ?_
  obtain ⟨s76, es76⟩ : ∃ z, z = (uA s (10 + x1.toNatClampNeg) (upd (sA s (10 + x1.toNatClampNeg)) (sA s 0 x1.toNatClampNeg).toNatClampNeg v75)) := ⟨_, rfl⟩
  rw [← es76]
  have h := h s76 es76
  obtain ⟨x1_77, ex1_77⟩ : ∃ y : Int32, y = x1 + 1 := ⟨_, rfl⟩
  have h := h x1_77 ex1_77
  refine aw_iinc (v := x1_77) (lv' := [(1, .int x1_77), (0, .ref o)]) C dX2_takeOrderOff_77 1 rfl (by rw [ex1_77]; rfl) (by decide) rfl ?_
  refine aw_goto (tgt := 49) C dX2_takeOrderOff_80 (by decide) ?_
  refine aw_lv [1, 0] rfl ?_
  exact hkH s76 x1_77 h
theorem tlX2_takeOrderOff_49 (C : ctB p s0 m args c cX2_takeOrderOff 2 RX2 wsX2_takeOrderOff) (K : ctK s0 D A H0 cy) {o : Nat} {ad : Nat → Nat}  {k83 : St → Prop} (hk83 : ∀ (s : St), k83 s → atG p l e rmX2_takeOrderOff s0 m args below meth c 0 0 Z 2 (iW D A H0 (wX2 cy o ad s)) [(0, .ref o)] [] 83) (s : St) (x1 : Int32) (h : lX2_takeOrderOff_49 k83 s x1) : atG p l e rmX2_takeOrderOff s0 m args below meth c 0 0 Z 2 (iW D A H0 (wX2 cy o ad s)) [(0, .ref o), (1, .int x1)] [] 49 :=
  lp_W (σ := St × Int32) (P := fun q => atG p l e rmX2_takeOrderOff s0 m args below meth c 0 0 Z 2 (iW D A H0 (wX2 cy o ad q.1)) [(0, .ref o), (1, .int q.2)] [] 49) (fun K2 hK2 q hb => tbX2_takeOrderOff_49 C K hk83 (fun s x1 hk => hK2 (s, x1) hk) q.1 q.2 hb) (s, x1) h
theorem eX2_takeOrderOff (C : ctB p s0 m args c cX2_takeOrderOff 2 RX2 wsX2_takeOrderOff) (K : ctK s0 D A H0 cy) {o : Nat} {ad : Nat → Nat} {Q : St → Prop} (hQ : ∀ (u : St), Q u → ∀ pc, decode cX2_takeOrderOff pc = .ok (.return_, 1) → atG p l e rmX2_takeOrderOff s0 m args below meth c 0 0 Z 2 (iW D A H0 (wX2 cy o ad u)) [] [] pc) (s : St)  (h : pX2_takeOrderOff  s Q) : atG p l e rmX2_takeOrderOff s0 m args below meth c 0 0 Z 2 (iW D A H0 (wX2 cy o ad s)) [(0, .ref o)] [] 0 := by
  delta pX2_takeOrderOff at h
  refine aw_aload_n C dX2_takeOrderOff_0 0 rfl ?_
  refine aw_sipush (v := 1000) C dX2_takeOrderOff_1 (by decide) ?_
  refine aw_putX2 (ty := .int) C K inX2_takeOrderOff_2 dX2_takeOrderOff_4 1 (by decide) qX2_takeOrderOff_fieldLink_RX2_47 0 (wX2_g ..) rfl (by decide +kernel) rfl rfl (Nat.le_of_ble_eq_true rfl) (wX2_p1 ..) ?_
  obtain ⟨s4, es4⟩ : ∃ z, z = (uF s 1 1000) := ⟨_, rfl⟩
  rw [← es4]
  have h := h s4 es4
  refine aw_iconst (v := 0) C dX2_takeOrderOff_7 (by decide) ?_
  refine aw_istore_n (lv' := [(1, .int 0), (0, .ref o)]) C dX2_takeOrderOff_8 (by decide) rfl ?_
  refine aw_lv [1, 0] rfl ?_
  refine tlX2_takeOrderOff_9 C K ?_ s4 0 h
  intro s_47 h
  refine aw_iconst (v := 0) C dX2_takeOrderOff_47 (by decide) ?_
  refine aw_istore_n (lv' := [(1, .int 0), (0, .ref o)]) C dX2_takeOrderOff_48 (by decide) rfl ?_
  refine aw_lv [1, 0] rfl ?_
  refine tlX2_takeOrderOff_49 C K ?_ s_47 0 h
  intro s_83 h
  refine aw_lv [] rfl ?_
  exact hQ s_83 h 83 dX2_takeOrderOff_83
end SX2_takeOrderOff
theorem mtX2_takeOrderOff (l : Launch) (D : va_G) (cy : Nat → ClassId) (o : Nat) (ad : Nat → Nat) (s : St)  (Q : St → Prop) (hw : pX2_takeOrderOff  s Q) : mV l yX2_takeOrderOff wsX2_takeOrderOff rmX2_takeOrderOff D cy [.ref o] (wX2 cy o ad s) (wX2 cy o ad) Q :=
  metV (Wd := wX2 cy o ad) ⟨rfl, rfl⟩ (by decide) rfl (Nat.le_of_ble_eq_true rfl) (fun C K hQ => eX2_takeOrderOff C K hQ s hw)
def rmX2_takeUpTo : Room := { frames := 9, cells := 0, slots := 0, locals := 234 }
theorem inX2_takeUpTo_2 : ∀ w ∈ wsX20, w ∈ wsX2_takeUpTo := fun w h => (List.mem_cons_of_mem _ (List.mem_append_right _ h))
theorem qX2_takeUpTo_fieldLink_RX2_20 : Cond.fieldLink RX2 20 "StageSwitch$Parts" "size" "I" ∈ wsX2_takeUpTo := (List.mem_cons_of_mem _ (List.mem_append_left _ (List.mem_of_getElem? (i := 0) rfl)))
theorem qX2_takeUpTo_fieldLink_RX2_17 : Cond.fieldLink RX2 17 "StageSwitch$Parts" "left" "[[I" ∈ wsX2_takeUpTo := (List.mem_cons_of_mem _ (List.mem_append_left _ (List.mem_of_getElem? (i := 1) rfl)))
theorem qX2_takeUpTo_fieldLink_RX2_9 : Cond.fieldLink RX2 9 "StageSwitch$Parts" "order" "[I" ∈ wsX2_takeUpTo := (List.mem_cons_of_mem _ (List.mem_append_left _ (List.mem_of_getElem? (i := 2) rfl)))
section SX2_takeUpTo
variable {p : Program} {l : Launch} {e : Env} {s0 : State} {m : MethodId} {args : Array Value} {below : List Frame} {meth : Method} {c : Code} {D : va_G} {A : Nat → Prop} {H0 : Heap} {cy : Nat → ClassId} {Z : State → Prop}
theorem tbX2_takeUpTo_2 (C : ctB p s0 m args c cX2_takeUpTo 3 RX2 wsX2_takeUpTo) (K : ctK s0 D A H0 cy) {o : Nat} {ad : Nat → Nat}  {x1 : Int32} {k37 : St → Int32 → Prop} (hk37 : ∀ (s : St) (y2 : Int32), k37 s y2 → atG p l e rmX2_takeUpTo s0 m args below meth c 0 0 Z 3 (iW D A H0 (wX2 cy o ad s)) [(0, .ref o), (2, .int y2)] [] 37) {kH : St → Int32 → Prop} (hkH : ∀ (s : St) (y2 : Int32), kH s y2 → atG p l e rmX2_takeUpTo s0 m args below meth c 0 0 Z 3 (iW D A H0 (wX2 cy o ad s)) [(0, .ref o), (1, .int x1), (2, .int y2)] [] 2) (s : St) (x2 : Int32) (h : bX2_takeUpTo_2 x1 k37 kH s x2) : atG p l e rmX2_takeUpTo s0 m args below meth c 0 0 Z 3 (iW D A H0 (wX2 cy o ad s)) [(0, .ref o), (1, .int x1), (2, .int x2)] [] 2 := by
  delta bX2_takeUpTo_2 at h
  refine aw_iload_n C dX2_takeUpTo_2 2 rfl ?_
  refine aw_iload_n C dX2_takeUpTo_3 1 rfl ?_
  refine aw_icmp_ge (tgt := 37) C dX2_takeUpTo_4 (by decide) (fun c4 => ?_) (fun c4 => ?_)
  · have h := h.1 c4
    refine aw_lv [0, 2] rfl ?_
    exact hk37 s x2 h
  have h := h.2 c4
  refine aw_iconst (v := 0) C dX2_takeUpTo_7 (by decide) ?_
  refine aw_iconst (v := 0) C dX2_takeUpTo_8 (by decide) ?_
  refine aw_aload_n C dX2_takeUpTo_9 0 rfl ?_
  refine aw_getX2 C K inX2_takeUpTo_2 dX2_takeUpTo_10 3 (by decide) qX2_takeUpTo_fieldLink_RX2_20 0 (wX2_g ..) rfl ?_
  refine aw_aload_n C dX2_takeUpTo_13 0 rfl ?_
  refine aw_getX2 C K inX2_takeUpTo_2 dX2_takeUpTo_14 2 (by decide) qX2_takeUpTo_fieldLink_RX2_17 0 (wX2_g ..) rfl ?_
  refine aw_aload_n C dX2_takeUpTo_17 0 rfl ?_
  refine aw_getX2 C K inX2_takeUpTo_2 dX2_takeUpTo_18 0 (by decide) qX2_takeUpTo_fieldLink_RX2_9 0 (wX2_g ..) rfl ?_
  refine aw_callFTI (cells2 := 0) (slots2 := 0) (Wx := wX2 cy o ad) (wr := []) (As := [.int 0, .int 0, .int (sF s 3), .ref (ad 2), .ref (ad 0)]) (rest := []) C K (mtX2_findOrder l D cy o ad s 0 0 (sF s 3) _ h) (permNil _) (fun u => permNil _) (va_cwS 5 C.2.2.2.2.1 gX2_takeUpTo_X2_findOrder rfl rfl rfl (by decide +kernel) ⟨Nat.le_of_ble_eq_true rfl, Nat.le_of_ble_eq_true rfl⟩) rfl rfl (Nat.le_of_ble_eq_true rfl) rfl rfl ⟨Nat.le_of_ble_eq_true rfl, Nat.le_of_ble_eq_true rfl⟩ dX2_takeUpTo_21 (fun r21 s21 h => ?_)
  refine aw_if_eq (tgt := 37) C dX2_takeUpTo_24 (by decide) (fun c24 => ?_) (fun c24 => ?_)
  · have h := h.1 c24
    refine aw_lv [0, 2] rfl ?_
    exact hk37 s21 x2 h
  have h := h.2 c24
  refine aw_aload_n C dX2_takeUpTo_27 0 rfl ?_
  refine aw_callV (As := []) (rest := []) C K (mtX2_takeOrderOff l D cy o ad s21 _ h) (cwV 0 C.2.2.2.2.1 gX2_takeUpTo_X2_takeOrderOff rfl rfl rfl (by decide +kernel) ⟨Nat.le_of_ble_eq_true rfl, Nat.le_of_ble_eq_true rfl⟩) 0 2 (wX2_g ..) rfl rfl rfl rfl (Nat.le_of_ble_eq_true rfl) ⟨Nat.le_of_ble_eq_true rfl, Nat.le_of_ble_eq_true rfl⟩ dX2_takeUpTo_28 (fun s28 h => ?_)
  obtain ⟨x2_31, ex2_31⟩ : ∃ y : Int32, y = x2 + 1 := ⟨_, rfl⟩
  have h := h x2_31 ex2_31
  refine aw_iinc (v := x2_31) (lv' := [(2, .int x2_31), (0, .ref o), (1, .int x1)]) C dX2_takeUpTo_31 2 rfl (by rw [ex2_31]; rfl) (by decide) rfl ?_
  refine aw_goto (tgt := 2) C dX2_takeUpTo_34 (by decide) ?_
  refine aw_lv [1, 2, 0] rfl ?_
  exact hkH s28 x2_31 h
theorem tlX2_takeUpTo_2 (C : ctB p s0 m args c cX2_takeUpTo 3 RX2 wsX2_takeUpTo) (K : ctK s0 D A H0 cy) {o : Nat} {ad : Nat → Nat}  {x1 : Int32} {k37 : St → Int32 → Prop} (hk37 : ∀ (s : St) (y2 : Int32), k37 s y2 → atG p l e rmX2_takeUpTo s0 m args below meth c 0 0 Z 3 (iW D A H0 (wX2 cy o ad s)) [(0, .ref o), (2, .int y2)] [] 37) (s : St) (x2 : Int32) (h : lX2_takeUpTo_2 x1 k37 s x2) : atG p l e rmX2_takeUpTo s0 m args below meth c 0 0 Z 3 (iW D A H0 (wX2 cy o ad s)) [(0, .ref o), (1, .int x1), (2, .int x2)] [] 2 :=
  lp_W (σ := St × Int32) (P := fun q => atG p l e rmX2_takeUpTo s0 m args below meth c 0 0 Z 3 (iW D A H0 (wX2 cy o ad q.1)) [(0, .ref o), (1, .int x1), (2, .int q.2)] [] 2) (fun K2 hK2 q hb => tbX2_takeUpTo_2 C K hk37 (fun s x2 hk => hK2 (s, x2) hk) q.1 q.2 hb) (s, x2) h
theorem eX2_takeUpTo (C : ctB p s0 m args c cX2_takeUpTo 3 RX2 wsX2_takeUpTo) (K : ctK s0 D A H0 cy) {o : Nat} {ad : Nat → Nat} {Q : Int32 → St → Prop} (hQ : ∀ (v : Int32) (u : St), Q v u → ∀ pc, decode cX2_takeUpTo pc = .ok (.ireturn, 1) → atG p l e rmX2_takeUpTo s0 m args below meth c 0 0 Z 3 (iW D A H0 (wX2 cy o ad u)) [] [.int v] pc) (s : St) (x1 : Int32) (h : pX2_takeUpTo  s x1 Q) : atG p l e rmX2_takeUpTo s0 m args below meth c 0 0 Z 3 (iW D A H0 (wX2 cy o ad s)) [(0, .ref o), (1, .int x1)] [] 0 := by
  delta pX2_takeUpTo at h
  refine aw_iconst (v := 0) C dX2_takeUpTo_0 (by decide) ?_
  refine aw_istore_n (lv' := [(2, .int 0), (0, .ref o), (1, .int x1)]) C dX2_takeUpTo_1 (by decide) rfl ?_
  refine aw_lv [1, 2, 0] rfl ?_
  refine tlX2_takeUpTo_2 C K ?_ s 0 h
  intro s_37 z37_2 h
  refine aw_iload_n C dX2_takeUpTo_37 1 rfl ?_
  refine aw_lv [] rfl ?_
  exact hQ z37_2 s_37 h 38 dX2_takeUpTo_38
end SX2_takeUpTo
theorem mtX2_takeUpTo (l : Launch) (D : va_G) (cy : Nat → ClassId) (o : Nat) (ad : Nat → Nat) (s : St) (x1 : Int32) (Q : Int32 → St → Prop) (hw : pX2_takeUpTo  s x1 Q) : mI l yX2_takeUpTo wsX2_takeUpTo rmX2_takeUpTo D cy [.ref o, .int x1] (wX2 cy o ad s) (wX2 cy o ad) Q :=
  metI (Wd := wX2 cy o ad) ⟨rfl, rfl⟩ (by decide) rfl (Nat.le_of_ble_eq_true rfl) (fun C K hQ => eX2_takeUpTo C K hQ s x1 hw)
