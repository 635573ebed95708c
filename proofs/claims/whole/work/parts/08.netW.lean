def rmX1_hasLine : Room := { frames := 1, cells := 0, slots := 0, locals := 22 }
theorem inX1_hasLine_1 : ∀ w ∈ wsX10, w ∈ wsX1_hasLine := fun w h => (List.mem_cons_of_mem _ (List.mem_append_right _ h))
theorem qX1_hasLine_fieldLink_RX1_21 : Cond.fieldLink RX1 21 "StageSwitch$Net" "lines" "I" ∈ wsX1_hasLine := (List.mem_cons_of_mem _ (List.mem_append_left _ (List.mem_of_getElem? (i := 0) rfl)))
theorem qX1_hasLine_initialized_RX5 : Cond.initialized RX5 ∈ wsX1_hasLine := (List.mem_cons_of_mem _ (List.mem_append_left _ (List.mem_of_getElem? (i := 2) rfl)))
theorem qX1_hasLine_static_yX5_within : Cond.static yX5_within ∈ wsX1_hasLine := (List.mem_cons_of_mem _ (List.mem_append_left _ (List.mem_of_getElem? (i := 1) rfl)))
section SX1_hasLine
variable {p : Program} {l : Launch} {e : Env} {s0 : State} {m : MethodId} {args : Array Value} {below : List Frame} {meth : Method} {c : Code} {D : va_G} {A : Nat → Prop} {H0 : Heap} {cy : Nat → ClassId} {Z : State → Prop}
theorem eX1_hasLine (C : ctB p s0 m args c cX1_hasLine 2 RX1 wsX1_hasLine) (K : ctK s0 D A H0 cy) {o : Nat} {ad ln : Nat → Nat} {Q : Int32 → Prop} (s : St) (hQ : ∀ (v : Int32), narrow .boolean (.int v) = .int v → Q v → ∀ pc, decode cX1_hasLine pc = .ok (.ireturn, 1) → atG p l e rmX1_hasLine s0 m args below meth c 0 0 Z 2 (iW D A H0 (wX1 cy o ad ln s)) [] [.int v] pc) (x1 : Int32) (h : pX1_hasLine ln s x1 Q) : atG p l e rmX1_hasLine s0 m args below meth c 0 0 Z 2 (iW D A H0 (wX1 cy o ad ln s)) [(0, .ref o), (1, .int x1)] [] 0 := by
  delta pX1_hasLine at h
  refine aw_iload_n C dX1_hasLine_0 1 rfl ?_
  refine aw_iconst (v := 0) C dX1_hasLine_1 (by decide) ?_
  refine aw_aload_n C dX1_hasLine_2 0 rfl ?_
  refine aw_getX1 C K inX1_hasLine_1 dX1_hasLine_3 3 (by decide) qX1_hasLine_fieldLink_RX1_21 0 (wX1_g ..) rfl ?_
  refine aw_iconst (v := 1) C dX1_hasLine_6 (by decide) ?_
  refine aw_isub C dX1_hasLine_7 ?_
  refine aw_callSN (As := [.int x1, .int 0, .int ((sF s 3) - 1)]) (rest := []) (y := yX5_within) C (mtX5_within l x1 0 ((sF s 3) - 1) _ h) ⟨va_cnB 3 C.2.2.2.2.1 gX1_hasLine_X5_within_n72 rfl rfl rfl (C.2.2.2.2.2.1 (RX1, 72, yX5_within) (by decide +kernel)) (C.2.2.2.2.1 _ qX1_hasLine_initialized_RX5) (by decide +kernel) ⟨Nat.le_of_ble_eq_true rfl, Nat.le_of_ble_eq_true rfl⟩, C.2.2.2.2.1 _ qX1_hasLine_static_yX5_within, trivial⟩ rfl rfl (Nat.le_of_ble_eq_true rfl) ⟨rfl, rfl⟩ ⟨Nat.zero_le _, Nat.zero_le _⟩ dX1_hasLine_8 (fun r8 h => ?_)
  refine aw_lv [] rfl ?_
  exact hQ r8 h.1 h.2 11 dX1_hasLine_11
end SX1_hasLine
theorem mtX1_hasLine (l : Launch) (D : va_G) (cy : Nat → ClassId) (o : Nat) (ad ln : Nat → Nat) (s : St) (x1 : Int32) (Q : Int32 → Prop) (hw : pX1_hasLine ln s x1 Q) : mI l yX1_hasLine wsX1_hasLine rmX1_hasLine D cy [.ref o, .int x1] (wX1 cy o ad ln s) (wX1 cy o ad ln) (fun r u => Q r ∧ u = s) :=
  metZ (ty := .boolean) (Wd := wX1 cy o ad ln) ⟨rfl, rfl⟩ (by decide) rfl (Nat.le_of_ble_eq_true rfl) (fun C K hQ => eX1_hasLine C K s (fun v hn hq => hQ v s hn ⟨hq, rfl⟩) x1 hw)
def rmX1_hasMiddle : Room := { frames := 1, cells := 0, slots := 0, locals := 22 }
theorem inX1_hasMiddle_1 : ∀ w ∈ wsX10, w ∈ wsX1_hasMiddle := fun w h => (List.mem_cons_of_mem _ (List.mem_append_right _ h))
theorem qX1_hasMiddle_fieldLink_RX1_9 : Cond.fieldLink RX1 9 "StageSwitch$Net" "middles" "I" ∈ wsX1_hasMiddle := (List.mem_cons_of_mem _ (List.mem_append_left _ (List.mem_of_getElem? (i := 0) rfl)))
theorem qX1_hasMiddle_initialized_RX5 : Cond.initialized RX5 ∈ wsX1_hasMiddle := (List.mem_cons_of_mem _ (List.mem_append_left _ (List.mem_of_getElem? (i := 2) rfl)))
theorem qX1_hasMiddle_static_yX5_within : Cond.static yX5_within ∈ wsX1_hasMiddle := (List.mem_cons_of_mem _ (List.mem_append_left _ (List.mem_of_getElem? (i := 1) rfl)))
section SX1_hasMiddle
variable {p : Program} {l : Launch} {e : Env} {s0 : State} {m : MethodId} {args : Array Value} {below : List Frame} {meth : Method} {c : Code} {D : va_G} {A : Nat → Prop} {H0 : Heap} {cy : Nat → ClassId} {Z : State → Prop}
theorem eX1_hasMiddle (C : ctB p s0 m args c cX1_hasMiddle 2 RX1 wsX1_hasMiddle) (K : ctK s0 D A H0 cy) {o : Nat} {ad ln : Nat → Nat} {Q : Int32 → Prop} (s : St) (hQ : ∀ (v : Int32), narrow .boolean (.int v) = .int v → Q v → ∀ pc, decode cX1_hasMiddle pc = .ok (.ireturn, 1) → atG p l e rmX1_hasMiddle s0 m args below meth c 0 0 Z 2 (iW D A H0 (wX1 cy o ad ln s)) [] [.int v] pc) (x1 : Int32) (h : pX1_hasMiddle ln s x1 Q) : atG p l e rmX1_hasMiddle s0 m args below meth c 0 0 Z 2 (iW D A H0 (wX1 cy o ad ln s)) [(0, .ref o), (1, .int x1)] [] 0 := by
  delta pX1_hasMiddle at h
  refine aw_iload_n C dX1_hasMiddle_0 1 rfl ?_
  refine aw_iconst (v := 0) C dX1_hasMiddle_1 (by decide) ?_
  refine aw_aload_n C dX1_hasMiddle_2 0 rfl ?_
  refine aw_getX1 C K inX1_hasMiddle_1 dX1_hasMiddle_3 0 (by decide) qX1_hasMiddle_fieldLink_RX1_9 0 (wX1_g ..) rfl ?_
  refine aw_iconst (v := 1) C dX1_hasMiddle_6 (by decide) ?_
  refine aw_isub C dX1_hasMiddle_7 ?_
  refine aw_callSN (As := [.int x1, .int 0, .int ((sF s 0) - 1)]) (rest := []) (y := yX5_within) C (mtX5_within l x1 0 ((sF s 0) - 1) _ h) ⟨va_cnB 3 C.2.2.2.2.1 gX1_hasMiddle_X5_within_n72 rfl rfl rfl (C.2.2.2.2.2.1 (RX1, 72, yX5_within) (by decide +kernel)) (C.2.2.2.2.1 _ qX1_hasMiddle_initialized_RX5) (by decide +kernel) ⟨Nat.le_of_ble_eq_true rfl, Nat.le_of_ble_eq_true rfl⟩, C.2.2.2.2.1 _ qX1_hasMiddle_static_yX5_within, trivial⟩ rfl rfl (Nat.le_of_ble_eq_true rfl) ⟨rfl, rfl⟩ ⟨Nat.zero_le _, Nat.zero_le _⟩ dX1_hasMiddle_8 (fun r8 h => ?_)
  refine aw_lv [] rfl ?_
  exact hQ r8 h.1 h.2 11 dX1_hasMiddle_11
end SX1_hasMiddle
theorem mtX1_hasMiddle (l : Launch) (D : va_G) (cy : Nat → ClassId) (o : Nat) (ad ln : Nat → Nat) (s : St) (x1 : Int32) (Q : Int32 → Prop) (hw : pX1_hasMiddle ln s x1 Q) : mI l yX1_hasMiddle wsX1_hasMiddle rmX1_hasMiddle D cy [.ref o, .int x1] (wX1 cy o ad ln s) (wX1 cy o ad ln) (fun r u => Q r ∧ u = s) :=
  metZ (ty := .boolean) (Wd := wX1 cy o ad ln) ⟨rfl, rfl⟩ (by decide) rfl (Nat.le_of_ble_eq_true rfl) (fun C K hQ => eX1_hasMiddle C K s (fun v hn hq => hQ v s hn ⟨hq, rfl⟩) x1 hw)
def rmX1_isBusy : Room := { frames := 0, cells := 0, slots := 0, locals := 0 }
theorem inX1_isBusy_1 : ∀ w ∈ wsX10, w ∈ wsX1_isBusy := fun w h => (List.mem_cons_of_mem _ (List.mem_append_right _ h))
theorem qX1_isBusy_fieldLink_RX1_28 : Cond.fieldLink RX1 28 "StageSwitch$Net" "outOf" "[I" ∈ wsX1_isBusy := (List.mem_cons_of_mem _ (List.mem_append_left _ (List.mem_of_getElem? (i := 0) rfl)))
theorem qX1_isBusy_constant_RX1_65_1000000 : Cond.constant RX1 65 (-1000000) ∈ wsX1_isBusy := (List.mem_cons_of_mem _ (List.mem_append_left _ (List.mem_of_getElem? (i := 1) rfl)))
theorem qX1_isBusy_fieldLink_RX1_35 : Cond.fieldLink RX1 35 "StageSwitch$Net" "outTaken" "[Z" ∈ wsX1_isBusy := (List.mem_cons_of_mem _ (List.mem_append_left _ (List.mem_of_getElem? (i := 2) rfl)))
section SX1_isBusy
variable {p : Program} {l : Launch} {e : Env} {s0 : State} {m : MethodId} {args : Array Value} {below : List Frame} {meth : Method} {c : Code} {D : va_G} {A : Nat → Prop} {H0 : Heap} {cy : Nat → ClassId} {Z : State → Prop}
theorem eX1_isBusy (C : ctB p s0 m args c cX1_isBusy 3 RX1 wsX1_isBusy) (K : ctK s0 D A H0 cy) {o : Nat} {ad ln : Nat → Nat} {Q : Int32 → Prop} (s : St) (hQ : ∀ (v : Int32), narrow .boolean (.int v) = .int v → Q v → ∀ pc, decode cX1_isBusy pc = .ok (.ireturn, 1) → atG p l e rmX1_isBusy s0 m args below meth c 0 0 Z 3 (iW D A H0 (wX1 cy o ad ln s)) [] [.int v] pc) (x1 : Int32) (x2 : Int32) (h : pX1_isBusy ln s x1 x2 Q) : atG p l e rmX1_isBusy s0 m args below meth c 0 0 Z 3 (iW D A H0 (wX1 cy o ad ln s)) [(0, .ref o), (1, .int x1), (2, .int x2)] [] 0 := by
  delta pX1_isBusy at h
  refine aw_aload_n C dX1_isBusy_0 0 rfl ?_
  refine aw_getX1 C K inX1_isBusy_1 dX1_isBusy_1 5 (by decide) qX1_isBusy_fieldLink_RX1_28 0 (wX1_g ..) rfl ?_
  refine aw_iload_n C dX1_isBusy_4 1 rfl ?_
  obtain ⟨b5, h⟩ := h
  refine aw_iald C K dX1_isBusy_5 2 (wX1_g5 ..) b5 ?_
  refine aw_ldc (v := (-1000000)) C dX1_isBusy_6 qX1_isBusy_constant_RX1_65_1000000 ?_
  refine aw_icmp_ne (tgt := 20) C dX1_isBusy_8 (by decide) (fun c8 => ?_) (fun c8 => ?_)
  · have h := h.2 c8
    refine aw_iconst (v := 1) C dX1_isBusy_20 (by decide) ?_
    refine aw_goto (tgt := 25) C dX1_isBusy_21 (by decide) ?_
    refine aw_lv [] rfl ?_
    exact hQ 1 rfl h 25 dX1_isBusy_25
  have h := h.1 c8
  refine aw_aload_n C dX1_isBusy_11 0 rfl ?_
  refine aw_getX1 C K inX1_isBusy_1 dX1_isBusy_12 7 (by decide) qX1_isBusy_fieldLink_RX1_35 0 (wX1_g ..) rfl ?_
  refine aw_iload_n C dX1_isBusy_15 2 rfl ?_
  obtain ⟨b16, h⟩ := h
  refine aw_zald C K dX1_isBusy_16 4 (wX1_g7 ..) b16 ?_
  refine aw_if_eq (tgt := 24) C dX1_isBusy_17 (by decide) (fun c17 => ?_) (fun c17 => ?_)
  · have h := h.1 c17
    refine aw_iconst (v := 0) C dX1_isBusy_24 (by decide) ?_
    refine aw_lv [] rfl ?_
    exact hQ 0 rfl h 25 dX1_isBusy_25
  have h := h.2 c17
  refine aw_iconst (v := 1) C dX1_isBusy_20 (by decide) ?_
  refine aw_goto (tgt := 25) C dX1_isBusy_21 (by decide) ?_
  refine aw_lv [] rfl ?_
  exact hQ 1 rfl h 25 dX1_isBusy_25
end SX1_isBusy
theorem mtX1_isBusy (l : Launch) (D : va_G) (cy : Nat → ClassId) (o : Nat) (ad ln : Nat → Nat) (s : St) (x1 : Int32) (x2 : Int32) (Q : Int32 → Prop) (hw : pX1_isBusy ln s x1 x2 Q) : mI l yX1_isBusy wsX1_isBusy rmX1_isBusy D cy [.ref o, .int x1, .int x2] (wX1 cy o ad ln s) (wX1 cy o ad ln) (fun r u => Q r ∧ u = s) :=
  metZ (ty := .boolean) (Wd := wX1 cy o ad ln) ⟨rfl, rfl⟩ (by decide) rfl (Nat.le_of_ble_eq_true rfl) (fun C K hQ => eX1_isBusy C K s (fun v hn hq => hQ v s hn ⟨hq, rfl⟩) x1 x2 hw)
def rmX1_toldKind : Room := { frames := 0, cells := 0, slots := 0, locals := 0 }
theorem inX1_toldKind_1 : ∀ w ∈ wsX10, w ∈ wsX1_toldKind := fun w h => (List.mem_cons_of_mem _ (List.mem_append_right _ h))
theorem qX1_toldKind_fieldLink_RX1_53 : Cond.fieldLink RX1 53 "StageSwitch$Net" "alive" "I" ∈ wsX1_toldKind := (List.mem_cons_of_mem _ (List.mem_append_left _ (List.mem_of_getElem? (i := 0) rfl)))
theorem qX1_toldKind_fieldLink_RX1_15 : Cond.fieldLink RX1 15 "StageSwitch$Net" "linesEach" "I" ∈ wsX1_toldKind := (List.mem_cons_of_mem _ (List.mem_append_left _ (List.mem_of_getElem? (i := 1) rfl)))
section SX1_toldKind
variable {p : Program} {l : Launch} {e : Env} {s0 : State} {m : MethodId} {args : Array Value} {below : List Frame} {meth : Method} {c : Code} {D : va_G} {A : Nat → Prop} {H0 : Heap} {cy : Nat → ClassId} {Z : State → Prop}
theorem eX1_toldKind (C : ctB p s0 m args c cX1_toldKind 1 RX1 wsX1_toldKind) (K : ctK s0 D A H0 cy) {o : Nat} {ad ln : Nat → Nat} {Q : Int32 → Prop} (s : St) (hQ : ∀ (v : Int32), Q v → ∀ pc, decode cX1_toldKind pc = .ok (.ireturn, 1) → atG p l e rmX1_toldKind s0 m args below meth c 0 0 Z 1 (iW D A H0 (wX1 cy o ad ln s)) [] [.int v] pc)  (h : pX1_toldKind ln s Q) : atG p l e rmX1_toldKind s0 m args below meth c 0 0 Z 1 (iW D A H0 (wX1 cy o ad ln s)) [(0, .ref o)] [] 0 := by
  delta pX1_toldKind at h
  refine aw_aload_n C dX1_toldKind_0 0 rfl ?_
  refine aw_getX1 C K inX1_toldKind_1 dX1_toldKind_1 13 (by decide) qX1_toldKind_fieldLink_RX1_53 0 (wX1_g ..) rfl ?_
  refine aw_iconst (v := 2) C dX1_toldKind_4 (by decide) ?_
  refine aw_aload_n C dX1_toldKind_5 0 rfl ?_
  refine aw_getX1 C K inX1_toldKind_1 dX1_toldKind_6 1 (by decide) qX1_toldKind_fieldLink_RX1_15 0 (wX1_g ..) rfl ?_
  refine aw_imul C dX1_toldKind_9 ?_
  refine aw_iconst (v := 1) C dX1_toldKind_10 (by decide) ?_
  refine aw_isub C dX1_toldKind_11 ?_
  refine aw_icmp_lt (tgt := 17) C dX1_toldKind_12 (by decide) (fun c12 => ?_) (fun c12 => ?_)
  · have h := h.1 c12
    refine aw_aload_n C dX1_toldKind_17 0 rfl ?_
    refine aw_getX1 C K inX1_toldKind_1 dX1_toldKind_18 13 (by decide) qX1_toldKind_fieldLink_RX1_53 0 (wX1_g ..) rfl ?_
    refine aw_aload_n C dX1_toldKind_21 0 rfl ?_
    refine aw_getX1 C K inX1_toldKind_1 dX1_toldKind_22 1 (by decide) qX1_toldKind_fieldLink_RX1_15 0 (wX1_g ..) rfl ?_
    refine aw_icmp_lt (tgt := 30) C dX1_toldKind_25 (by decide) (fun c25 => ?_) (fun c25 => ?_)
    · have h := h.1 c25
      refine aw_aload_n C dX1_toldKind_30 0 rfl ?_
      refine aw_getX1 C K inX1_toldKind_1 dX1_toldKind_31 13 (by decide) qX1_toldKind_fieldLink_RX1_53 0 (wX1_g ..) rfl ?_
      refine aw_iconst (v := 1) C dX1_toldKind_34 (by decide) ?_
      refine aw_icmp_ne (tgt := 42) C dX1_toldKind_35 (by decide) (fun c35 => ?_) (fun c35 => ?_)
      · have h := h.2 c35
        refine aw_iconst (v := 0) C dX1_toldKind_42 (by decide) ?_
        refine aw_lv [] rfl ?_
        exact hQ 0 h 43 dX1_toldKind_43
      have h := h.1 c35
      refine aw_iconst (v := 3) C dX1_toldKind_38 (by decide) ?_
      refine aw_goto (tgt := 43) C dX1_toldKind_39 (by decide) ?_
      refine aw_lv [] rfl ?_
      exact hQ 3 h 43 dX1_toldKind_43
    have h := h.2 c25
    refine aw_iconst (v := 1) C dX1_toldKind_28 (by decide) ?_
    refine aw_lv [] rfl ?_
    exact hQ 1 h 29 dX1_toldKind_29
  have h := h.2 c12
  refine aw_iconst (v := 2) C dX1_toldKind_15 (by decide) ?_
  refine aw_lv [] rfl ?_
  exact hQ 2 h 16 dX1_toldKind_16
end SX1_toldKind
theorem mtX1_toldKind (l : Launch) (D : va_G) (cy : Nat → ClassId) (o : Nat) (ad ln : Nat → Nat) (s : St)  (Q : Int32 → Prop) (hw : pX1_toldKind ln s Q) : mI l yX1_toldKind wsX1_toldKind rmX1_toldKind D cy [.ref o] (wX1 cy o ad ln s) (wX1 cy o ad ln) (fun r u => Q r ∧ u = s) :=
  metI (Wd := wX1 cy o ad ln) ⟨rfl, rfl⟩ (by decide) rfl (Nat.le_of_ble_eq_true rfl) (fun C K hQ => eX1_toldKind C K s (fun v hq => hQ v s ⟨hq, rfl⟩) hw)
def rmX1_link : Room := { frames := 0, cells := 0, slots := 0, locals := 0 }
theorem inX1_link_1 : ∀ w ∈ wsX10, w ∈ wsX1_link := fun w h => (List.mem_cons_of_mem _ (List.mem_append_right _ h))
theorem qX1_link_fieldLink_RX1_18 : Cond.fieldLink RX1 18 "StageSwitch$Net" "switches" "I" ∈ wsX1_link := (List.mem_cons_of_mem _ (List.mem_append_left _ (List.mem_of_getElem? (i := 0) rfl)))
theorem qX1_link_fieldLink_RX1_15 : Cond.fieldLink RX1 15 "StageSwitch$Net" "linesEach" "I" ∈ wsX1_link := (List.mem_cons_of_mem _ (List.mem_append_left _ (List.mem_of_getElem? (i := 1) rfl)))
section SX1_link
variable {p : Program} {l : Launch} {e : Env} {s0 : State} {m : MethodId} {args : Array Value} {below : List Frame} {meth : Method} {c : Code} {D : va_G} {A : Nat → Prop} {H0 : Heap} {cy : Nat → ClassId} {Z : State → Prop}
theorem eX1_link (C : ctB p s0 m args c cX1_link 3 RX1 wsX1_link) (K : ctK s0 D A H0 cy) {o : Nat} {ad ln : Nat → Nat} {Q : Int32 → Prop} (s : St) (hQ : ∀ (v : Int32), Q v → ∀ pc, decode cX1_link pc = .ok (.ireturn, 1) → atG p l e rmX1_link s0 m args below meth c 0 0 Z 3 (iW D A H0 (wX1 cy o ad ln s)) [] [.int v] pc) (x1 : Int32) (x2 : Int32) (h : pX1_link ln s x1 x2 Q) : atG p l e rmX1_link s0 m args below meth c 0 0 Z 3 (iW D A H0 (wX1 cy o ad ln s)) [(0, .ref o), (1, .int x1), (2, .int x2)] [] 0 := by
  delta pX1_link at h
  refine aw_iload_n C dX1_link_0 1 rfl ?_
  refine aw_aload_n C dX1_link_1 0 rfl ?_
  refine aw_getX1 C K inX1_link_1 dX1_link_2 2 (by decide) qX1_link_fieldLink_RX1_18 0 (wX1_g ..) rfl ?_
  refine aw_imul C dX1_link_5 ?_
  refine aw_iload_n C dX1_link_6 2 rfl ?_
  refine aw_aload_n C dX1_link_7 0 rfl ?_
  refine aw_getX1 C K inX1_link_1 dX1_link_8 1 (by decide) qX1_link_fieldLink_RX1_15 0 (wX1_g ..) rfl ?_
  obtain ⟨hz11, h⟩ := h
  refine aw_idiv C dX1_link_11 hz11 ?_
  refine aw_iadd C dX1_link_12 ?_
  refine aw_lv [] rfl ?_
  exact hQ ((x1 * (sF s 2)) + (x2 / (sF s 1))) h 13 dX1_link_13
end SX1_link
theorem mtX1_link (l : Launch) (D : va_G) (cy : Nat → ClassId) (o : Nat) (ad ln : Nat → Nat) (s : St) (x1 : Int32) (x2 : Int32) (Q : Int32 → Prop) (hw : pX1_link ln s x1 x2 Q) : mI l yX1_link wsX1_link rmX1_link D cy [.ref o, .int x1, .int x2] (wX1 cy o ad ln s) (wX1 cy o ad ln) (fun r u => Q r ∧ u = s) :=
  metI (Wd := wX1 cy o ad ln) ⟨rfl, rfl⟩ (by decide) rfl (Nat.le_of_ble_eq_true rfl) (fun C K hQ => eX1_link C K s (fun v hq => hQ v s ⟨hq, rfl⟩) x1 x2 hw)
def rmX1_isFreeFrom : Room := { frames := 1, cells := 0, slots := 0, locals := 22 }
theorem inX1_isFreeFrom_1 : ∀ w ∈ wsX10, w ∈ wsX1_isFreeFrom := fun w h => (List.mem_cons_of_mem _ (List.mem_append_right _ h))
theorem qX1_isFreeFrom_fieldLink_RX1_24 : Cond.fieldLink RX1 24 "StageSwitch$Net" "dead" "[Z" ∈ wsX1_isFreeFrom := (List.mem_cons_of_mem _ (List.mem_append_left _ (List.mem_of_getElem? (i := 0) rfl)))
theorem qX1_isFreeFrom_fieldLink_RX1_38 : Cond.fieldLink RX1 38 "StageSwitch$Net" "fromFirst" "[I" ∈ wsX1_isFreeFrom := (List.mem_cons_of_mem _ (List.mem_append_left _ (List.mem_of_getElem? (i := 1) rfl)))
section SX1_isFreeFrom
variable {p : Program} {l : Launch} {e : Env} {s0 : State} {m : MethodId} {args : Array Value} {below : List Frame} {meth : Method} {c : Code} {D : va_G} {A : Nat → Prop} {H0 : Heap} {cy : Nat → ClassId} {Z : State → Prop}
theorem eX1_isFreeFrom (C : ctB p s0 m args c cX1_isFreeFrom 3 RX1 wsX1_isFreeFrom) (K : ctK s0 D A H0 cy) {o : Nat} {ad ln : Nat → Nat} {Q : Int32 → Prop} (s : St) (hQ : ∀ (v : Int32), narrow .boolean (.int v) = .int v → Q v → ∀ pc, decode cX1_isFreeFrom pc = .ok (.ireturn, 1) → atG p l e rmX1_isFreeFrom s0 m args below meth c 0 0 Z 3 (iW D A H0 (wX1 cy o ad ln s)) [] [.int v] pc) (x1 : Int32) (x2 : Int32) (h : pX1_isFreeFrom ln s x1 x2 Q) : atG p l e rmX1_isFreeFrom s0 m args below meth c 0 0 Z 3 (iW D A H0 (wX1 cy o ad ln s)) [(0, .ref o), (1, .int x1), (2, .int x2)] [] 0 := by
  delta pX1_isFreeFrom at h
  refine aw_aload_n C dX1_isFreeFrom_0 0 rfl ?_
  refine aw_getX1 C K inX1_isFreeFrom_1 dX1_isFreeFrom_1 4 (by decide) qX1_isFreeFrom_fieldLink_RX1_24 0 (wX1_g ..) rfl ?_
  refine aw_iload_n C dX1_isFreeFrom_4 1 rfl ?_
  obtain ⟨b5, h⟩ := h
  refine aw_zald C K dX1_isFreeFrom_5 1 (wX1_g4 ..) b5 ?_
  refine aw_if_ne (tgt := 28) C dX1_isFreeFrom_6 (by decide) (fun c6 => ?_) (fun c6 => ?_)
  · have h := h.2 c6
    refine aw_iconst (v := 0) C dX1_isFreeFrom_28 (by decide) ?_
    refine aw_lv [] rfl ?_
    exact hQ 0 rfl h 29 dX1_isFreeFrom_29
  have h := h.1 c6
  refine aw_aload_n C dX1_isFreeFrom_9 0 rfl ?_
  refine aw_getX1 C K inX1_isFreeFrom_1 dX1_isFreeFrom_10 8 (by decide) qX1_isFreeFrom_fieldLink_RX1_38 0 (wX1_g ..) rfl ?_
  refine aw_aload_n C dX1_isFreeFrom_13 0 rfl ?_
  refine aw_iload_n C dX1_isFreeFrom_14 1 rfl ?_
  refine aw_iload_n C dX1_isFreeFrom_15 2 rfl ?_
  refine aw_callI (As := [.int x1, .int x2]) (rest := [.ref (ad 8)]) C K (mtX1_link l D cy o ad ln s x1 x2 _ h) (cwV 2 C.2.2.2.2.1 gX1_isFreeFrom_X1_link rfl rfl rfl (by decide +kernel) ⟨Nat.le_of_ble_eq_true rfl, Nat.le_of_ble_eq_true rfl⟩) 0 1 (wX1_g ..) rfl rfl rfl rfl (Nat.le_of_ble_eq_true rfl) ⟨Nat.le_of_ble_eq_true rfl, Nat.le_of_ble_eq_true rfl⟩ dX1_isFreeFrom_16 (fun r16 s16 h => ?_)
  obtain ⟨h, hu16⟩ := h
  rw [hu16]
  obtain ⟨b19, h⟩ := h
  refine aw_iald C K dX1_isFreeFrom_19 5 (wX1_g8 ..) b19 ?_
  refine aw_iconst (v := (-1)) C dX1_isFreeFrom_20 (by decide) ?_
  refine aw_icmp_ne (tgt := 28) C dX1_isFreeFrom_21 (by decide) (fun c21 => ?_) (fun c21 => ?_)
  · have h := h.2 c21
    refine aw_iconst (v := 0) C dX1_isFreeFrom_28 (by decide) ?_
    refine aw_lv [] rfl ?_
    exact hQ 0 rfl h 29 dX1_isFreeFrom_29
  have h := h.1 c21
  refine aw_iconst (v := 1) C dX1_isFreeFrom_24 (by decide) ?_
  refine aw_goto (tgt := 29) C dX1_isFreeFrom_25 (by decide) ?_
  refine aw_lv [] rfl ?_
  exact hQ 1 rfl h 29 dX1_isFreeFrom_29
end SX1_isFreeFrom
theorem mtX1_isFreeFrom (l : Launch) (D : va_G) (cy : Nat → ClassId) (o : Nat) (ad ln : Nat → Nat) (s : St) (x1 : Int32) (x2 : Int32) (Q : Int32 → Prop) (hw : pX1_isFreeFrom ln s x1 x2 Q) : mI l yX1_isFreeFrom wsX1_isFreeFrom rmX1_isFreeFrom D cy [.ref o, .int x1, .int x2] (wX1 cy o ad ln s) (wX1 cy o ad ln) (fun r u => Q r ∧ u = s) :=
  metZ (ty := .boolean) (Wd := wX1 cy o ad ln) ⟨rfl, rfl⟩ (by decide) rfl (Nat.le_of_ble_eq_true rfl) (fun C K hQ => eX1_isFreeFrom C K s (fun v hn hq => hQ v s hn ⟨hq, rfl⟩) x1 x2 hw)
def rmX1_isFreeTo : Room := { frames := 1, cells := 0, slots := 0, locals := 22 }
theorem inX1_isFreeTo_1 : ∀ w ∈ wsX10, w ∈ wsX1_isFreeTo := fun w h => (List.mem_cons_of_mem _ (List.mem_append_right _ h))
theorem qX1_isFreeTo_fieldLink_RX1_24 : Cond.fieldLink RX1 24 "StageSwitch$Net" "dead" "[Z" ∈ wsX1_isFreeTo := (List.mem_cons_of_mem _ (List.mem_append_left _ (List.mem_of_getElem? (i := 0) rfl)))
theorem qX1_isFreeTo_fieldLink_RX1_41 : Cond.fieldLink RX1 41 "StageSwitch$Net" "toLast" "[I" ∈ wsX1_isFreeTo := (List.mem_cons_of_mem _ (List.mem_append_left _ (List.mem_of_getElem? (i := 1) rfl)))
section SX1_isFreeTo
variable {p : Program} {l : Launch} {e : Env} {s0 : State} {m : MethodId} {args : Array Value} {below : List Frame} {meth : Method} {c : Code} {D : va_G} {A : Nat → Prop} {H0 : Heap} {cy : Nat → ClassId} {Z : State → Prop}
theorem eX1_isFreeTo (C : ctB p s0 m args c cX1_isFreeTo 3 RX1 wsX1_isFreeTo) (K : ctK s0 D A H0 cy) {o : Nat} {ad ln : Nat → Nat} {Q : Int32 → Prop} (s : St) (hQ : ∀ (v : Int32), narrow .boolean (.int v) = .int v → Q v → ∀ pc, decode cX1_isFreeTo pc = .ok (.ireturn, 1) → atG p l e rmX1_isFreeTo s0 m args below meth c 0 0 Z 3 (iW D A H0 (wX1 cy o ad ln s)) [] [.int v] pc) (x1 : Int32) (x2 : Int32) (h : pX1_isFreeTo ln s x1 x2 Q) : atG p l e rmX1_isFreeTo s0 m args below meth c 0 0 Z 3 (iW D A H0 (wX1 cy o ad ln s)) [(0, .ref o), (1, .int x1), (2, .int x2)] [] 0 := by
  delta pX1_isFreeTo at h
  refine aw_aload_n C dX1_isFreeTo_0 0 rfl ?_
  refine aw_getX1 C K inX1_isFreeTo_1 dX1_isFreeTo_1 4 (by decide) qX1_isFreeTo_fieldLink_RX1_24 0 (wX1_g ..) rfl ?_
  refine aw_iload_n C dX1_isFreeTo_4 1 rfl ?_
  obtain ⟨b5, h⟩ := h
  refine aw_zald C K dX1_isFreeTo_5 1 (wX1_g4 ..) b5 ?_
  refine aw_if_ne (tgt := 28) C dX1_isFreeTo_6 (by decide) (fun c6 => ?_) (fun c6 => ?_)
  · have h := h.2 c6
    refine aw_iconst (v := 0) C dX1_isFreeTo_28 (by decide) ?_
    refine aw_lv [] rfl ?_
    exact hQ 0 rfl h 29 dX1_isFreeTo_29
  have h := h.1 c6
  refine aw_aload_n C dX1_isFreeTo_9 0 rfl ?_
  refine aw_getX1 C K inX1_isFreeTo_1 dX1_isFreeTo_10 9 (by decide) qX1_isFreeTo_fieldLink_RX1_41 0 (wX1_g ..) rfl ?_
  refine aw_aload_n C dX1_isFreeTo_13 0 rfl ?_
  refine aw_iload_n C dX1_isFreeTo_14 1 rfl ?_
  refine aw_iload_n C dX1_isFreeTo_15 2 rfl ?_
  refine aw_callI (As := [.int x1, .int x2]) (rest := [.ref (ad 9)]) C K (mtX1_link l D cy o ad ln s x1 x2 _ h) (cwV 2 C.2.2.2.2.1 gX1_isFreeTo_X1_link rfl rfl rfl (by decide +kernel) ⟨Nat.le_of_ble_eq_true rfl, Nat.le_of_ble_eq_true rfl⟩) 0 1 (wX1_g ..) rfl rfl rfl rfl (Nat.le_of_ble_eq_true rfl) ⟨Nat.le_of_ble_eq_true rfl, Nat.le_of_ble_eq_true rfl⟩ dX1_isFreeTo_16 (fun r16 s16 h => ?_)
  obtain ⟨h, hu16⟩ := h
  rw [hu16]
  obtain ⟨b19, h⟩ := h
  refine aw_iald C K dX1_isFreeTo_19 6 (wX1_g9 ..) b19 ?_
  refine aw_iconst (v := (-1)) C dX1_isFreeTo_20 (by decide) ?_
  refine aw_icmp_ne (tgt := 28) C dX1_isFreeTo_21 (by decide) (fun c21 => ?_) (fun c21 => ?_)
  · have h := h.2 c21
    refine aw_iconst (v := 0) C dX1_isFreeTo_28 (by decide) ?_
    refine aw_lv [] rfl ?_
    exact hQ 0 rfl h 29 dX1_isFreeTo_29
  have h := h.1 c21
  refine aw_iconst (v := 1) C dX1_isFreeTo_24 (by decide) ?_
  refine aw_goto (tgt := 29) C dX1_isFreeTo_25 (by decide) ?_
  refine aw_lv [] rfl ?_
  exact hQ 1 rfl h 29 dX1_isFreeTo_29
end SX1_isFreeTo
theorem mtX1_isFreeTo (l : Launch) (D : va_G) (cy : Nat → ClassId) (o : Nat) (ad ln : Nat → Nat) (s : St) (x1 : Int32) (x2 : Int32) (Q : Int32 → Prop) (hw : pX1_isFreeTo ln s x1 x2 Q) : mI l yX1_isFreeTo wsX1_isFreeTo rmX1_isFreeTo D cy [.ref o, .int x1, .int x2] (wX1 cy o ad ln s) (wX1 cy o ad ln) (fun r u => Q r ∧ u = s) :=
  metZ (ty := .boolean) (Wd := wX1 cy o ad ln) ⟨rfl, rfl⟩ (by decide) rfl (Nat.le_of_ble_eq_true rfl) (fun C K hQ => eX1_isFreeTo C K s (fun v hn hq => hQ v s hn ⟨hq, rfl⟩) x1 x2 hw)
def rmX1_isFree : Room := { frames := 2, cells := 0, slots := 0, locals := 44 }
theorem inX1_isFree_1 : ∀ w ∈ wsX10, w ∈ wsX1_isFree := fun w h => (List.mem_cons_of_mem _ (List.mem_append_right _ h))
section SX1_isFree
variable {p : Program} {l : Launch} {e : Env} {s0 : State} {m : MethodId} {args : Array Value} {below : List Frame} {meth : Method} {c : Code} {D : va_G} {A : Nat → Prop} {H0 : Heap} {cy : Nat → ClassId} {Z : State → Prop}
theorem eX1_isFree (C : ctB p s0 m args c cX1_isFree 4 RX1 wsX1_isFree) (K : ctK s0 D A H0 cy) {o : Nat} {ad ln : Nat → Nat} {Q : Int32 → Prop} (s : St) (hQ : ∀ (v : Int32), narrow .boolean (.int v) = .int v → Q v → ∀ pc, decode cX1_isFree pc = .ok (.ireturn, 1) → atG p l e rmX1_isFree s0 m args below meth c 0 0 Z 4 (iW D A H0 (wX1 cy o ad ln s)) [] [.int v] pc) (x1 : Int32) (x2 : Int32) (x3 : Int32) (h : pX1_isFree ln s x1 x2 x3 Q) : atG p l e rmX1_isFree s0 m args below meth c 0 0 Z 4 (iW D A H0 (wX1 cy o ad ln s)) [(0, .ref o), (1, .int x1), (2, .int x2), (3, .int x3)] [] 0 := by
  delta pX1_isFree at h
  refine aw_aload_n C dX1_isFree_0 0 rfl ?_
  refine aw_iload_n C dX1_isFree_1 1 rfl ?_
  refine aw_iload_n C dX1_isFree_2 2 rfl ?_
  refine aw_callI (As := [.int x1, .int x2]) (rest := []) C K (mtX1_isFreeFrom l D cy o ad ln s x1 x2 _ h) (cwV 2 C.2.2.2.2.1 gX1_isFree_X1_isFreeFrom rfl rfl rfl (by decide +kernel) ⟨Nat.le_of_ble_eq_true rfl, Nat.le_of_ble_eq_true rfl⟩) 0 1 (wX1_g ..) rfl rfl rfl rfl (Nat.le_of_ble_eq_true rfl) ⟨Nat.le_of_ble_eq_true rfl, Nat.le_of_ble_eq_true rfl⟩ dX1_isFree_3 (fun r3 s3 h => ?_)
  obtain ⟨h, hu3⟩ := h
  rw [hu3]
  refine aw_if_eq (tgt := 22) C dX1_isFree_6 (by decide) (fun c6 => ?_) (fun c6 => ?_)
  · have h := h.1 c6
    refine aw_iconst (v := 0) C dX1_isFree_22 (by decide) ?_
    refine aw_lv [] rfl ?_
    exact hQ 0 rfl h 23 dX1_isFree_23
  have h := h.2 c6
  refine aw_aload_n C dX1_isFree_9 0 rfl ?_
  refine aw_iload_n C dX1_isFree_10 1 rfl ?_
  refine aw_iload_n C dX1_isFree_11 3 rfl ?_
  refine aw_callI (As := [.int x1, .int x3]) (rest := []) C K (mtX1_isFreeTo l D cy o ad ln s x1 x3 _ h) (cwV 2 C.2.2.2.2.1 gX1_isFree_X1_isFreeTo rfl rfl rfl (by decide +kernel) ⟨Nat.le_of_ble_eq_true rfl, Nat.le_of_ble_eq_true rfl⟩) 0 1 (wX1_g ..) rfl rfl rfl rfl (Nat.le_of_ble_eq_true rfl) ⟨Nat.le_of_ble_eq_true rfl, Nat.le_of_ble_eq_true rfl⟩ dX1_isFree_12 (fun r12 s12 h => ?_)
  obtain ⟨h, hu12⟩ := h
  rw [hu12]
  refine aw_if_eq (tgt := 22) C dX1_isFree_15 (by decide) (fun c15 => ?_) (fun c15 => ?_)
  · have h := h.1 c15
    refine aw_iconst (v := 0) C dX1_isFree_22 (by decide) ?_
    refine aw_lv [] rfl ?_
    exact hQ 0 rfl h 23 dX1_isFree_23
  have h := h.2 c15
  refine aw_iconst (v := 1) C dX1_isFree_18 (by decide) ?_
  refine aw_goto (tgt := 23) C dX1_isFree_19 (by decide) ?_
  refine aw_lv [] rfl ?_
  exact hQ 1 rfl h 23 dX1_isFree_23
end SX1_isFree
theorem mtX1_isFree (l : Launch) (D : va_G) (cy : Nat → ClassId) (o : Nat) (ad ln : Nat → Nat) (s : St) (x1 : Int32) (x2 : Int32) (x3 : Int32) (Q : Int32 → Prop) (hw : pX1_isFree ln s x1 x2 x3 Q) : mI l yX1_isFree wsX1_isFree rmX1_isFree D cy [.ref o, .int x1, .int x2, .int x3] (wX1 cy o ad ln s) (wX1 cy o ad ln) (fun r u => Q r ∧ u = s) :=
  metZ (ty := .boolean) (Wd := wX1 cy o ad ln) ⟨rfl, rfl⟩ (by decide) rfl (Nat.le_of_ble_eq_true rfl) (fun C K hQ => eX1_isFree C K s (fun v hn hq => hQ v s hn ⟨hq, rfl⟩) x1 x2 x3 hw)
def rmX1_howManyFree : Room := { frames := 3, cells := 0, slots := 0, locals := 67 }
theorem inX1_howManyFree_1 : ∀ w ∈ wsX10, w ∈ wsX1_howManyFree := fun w h => (List.mem_cons_of_mem _ (List.mem_append_right _ h))
theorem qX1_howManyFree_fieldLink_RX1_9 : Cond.fieldLink RX1 9 "StageSwitch$Net" "middles" "I" ∈ wsX1_howManyFree := (List.mem_cons_of_mem _ (List.mem_append_left _ (List.mem_of_getElem? (i := 0) rfl)))
section SX1_howManyFree
variable {p : Program} {l : Launch} {e : Env} {s0 : State} {m : MethodId} {args : Array Value} {below : List Frame} {meth : Method} {c : Code} {D : va_G} {A : Nat → Prop} {H0 : Heap} {cy : Nat → ClassId} {Z : State → Prop}
theorem tbX1_howManyFree_5 (C : ctB p s0 m args c cX1_howManyFree 5 RX1 wsX1_howManyFree) (K : ctK s0 D A H0 cy) {o : Nat} {ad ln : Nat → Nat}  {s : St} {x1 : Int32} {x2 : Int32} {k34 : Int32 → Prop} (hk34 : ∀ (y3 : Int32), k34 y3 → atG p l e rmX1_howManyFree s0 m args below meth c 0 0 Z 5 (iW D A H0 (wX1 cy o ad ln s)) [(0, .ref o), (3, .int y3)] [] 34) {kH : Int32 → Int32 → Prop} (hkH : ∀ (y3 : Int32) (y4 : Int32), kH y3 y4 → atG p l e rmX1_howManyFree s0 m args below meth c 0 0 Z 5 (iW D A H0 (wX1 cy o ad ln s)) [(0, .ref o), (1, .int x1), (2, .int x2), (3, .int y3), (4, .int y4)] [] 5) (x3 : Int32) (x4 : Int32) (h : bX1_howManyFree_5 ln s x1 x2 k34 kH x3 x4) : atG p l e rmX1_howManyFree s0 m args below meth c 0 0 Z 5 (iW D A H0 (wX1 cy o ad ln s)) [(0, .ref o), (1, .int x1), (2, .int x2), (3, .int x3), (4, .int x4)] [] 5 := by
  delta bX1_howManyFree_5 at h
  refine aw_iload C dX1_howManyFree_5 4 rfl ?_
  refine aw_aload_n C dX1_howManyFree_7 0 rfl ?_
  refine aw_getX1 C K inX1_howManyFree_1 dX1_howManyFree_8 0 (by decide) qX1_howManyFree_fieldLink_RX1_9 0 (wX1_g ..) rfl ?_
  refine aw_icmp_ge (tgt := 34) C dX1_howManyFree_11 (by decide) (fun c11 => ?_) (fun c11 => ?_)
  · have h := h.1 c11
    refine aw_lv [0, 3] rfl ?_
    exact hk34 x3 h
  have h := h.2 c11
  refine aw_aload_n C dX1_howManyFree_14 0 rfl ?_
  refine aw_iload C dX1_howManyFree_15 4 rfl ?_
  refine aw_iload_n C dX1_howManyFree_17 1 rfl ?_
  refine aw_iload_n C dX1_howManyFree_18 2 rfl ?_
  refine aw_callI (As := [.int x4, .int x1, .int x2]) (rest := []) C K (mtX1_isFree l D cy o ad ln s x4 x1 x2 _ h) (cwV 3 C.2.2.2.2.1 gX1_howManyFree_X1_isFree rfl rfl rfl (by decide +kernel) ⟨Nat.le_of_ble_eq_true rfl, Nat.le_of_ble_eq_true rfl⟩) 0 1 (wX1_g ..) rfl rfl rfl rfl (Nat.le_of_ble_eq_true rfl) ⟨Nat.le_of_ble_eq_true rfl, Nat.le_of_ble_eq_true rfl⟩ dX1_howManyFree_19 (fun r19 s19 h => ?_)
  obtain ⟨h, hu19⟩ := h
  rw [hu19]
  refine aw_if_eq (tgt := 28) C dX1_howManyFree_22 (by decide) (fun c22 => ?_) (fun c22 => ?_)
  · have h := h.1 c22
    obtain ⟨x4_28, ex4_28⟩ : ∃ y : Int32, y = x4 + 1 := ⟨_, rfl⟩
    have h := h x4_28 ex4_28
    refine aw_iinc (v := x4_28) (lv' := [(4, .int x4_28), (0, .ref o), (1, .int x1), (2, .int x2), (3, .int x3)]) C dX1_howManyFree_28 4 rfl (by rw [ex4_28]; rfl) (by decide) rfl ?_
    refine aw_goto (tgt := 5) C dX1_howManyFree_31 (by decide) ?_
    refine aw_lv [1, 2, 3, 4, 0] rfl ?_
    exact hkH x3 x4_28 h
  have h := h.2 c22
  obtain ⟨x3_25, ex3_25⟩ : ∃ y : Int32, y = x3 + 1 := ⟨_, rfl⟩
  have h := h x3_25 ex3_25
  refine aw_iinc (v := x3_25) (lv' := [(3, .int x3_25), (0, .ref o), (1, .int x1), (2, .int x2), (4, .int x4)]) C dX1_howManyFree_25 3 rfl (by rw [ex3_25]; rfl) (by decide) rfl ?_
  obtain ⟨x4_28, ex4_28⟩ : ∃ y : Int32, y = x4 + 1 := ⟨_, rfl⟩
  have h := h x4_28 ex4_28
  refine aw_iinc (v := x4_28) (lv' := [(4, .int x4_28), (3, .int x3_25), (0, .ref o), (1, .int x1), (2, .int x2)]) C dX1_howManyFree_28 4 rfl (by rw [ex4_28]; rfl) (by decide) rfl ?_
  refine aw_goto (tgt := 5) C dX1_howManyFree_31 (by decide) ?_
  refine aw_lv [2, 3, 4, 1, 0] rfl ?_
  exact hkH x3_25 x4_28 h
theorem tlX1_howManyFree_5 (C : ctB p s0 m args c cX1_howManyFree 5 RX1 wsX1_howManyFree) (K : ctK s0 D A H0 cy) {o : Nat} {ad ln : Nat → Nat}  {s : St} {x1 : Int32} {x2 : Int32} {k34 : Int32 → Prop} (hk34 : ∀ (y3 : Int32), k34 y3 → atG p l e rmX1_howManyFree s0 m args below meth c 0 0 Z 5 (iW D A H0 (wX1 cy o ad ln s)) [(0, .ref o), (3, .int y3)] [] 34) (x3 : Int32) (x4 : Int32) (h : lX1_howManyFree_5 ln s x1 x2 k34 x3 x4) : atG p l e rmX1_howManyFree s0 m args below meth c 0 0 Z 5 (iW D A H0 (wX1 cy o ad ln s)) [(0, .ref o), (1, .int x1), (2, .int x2), (3, .int x3), (4, .int x4)] [] 5 :=
  lp_W (σ := Int32 × Int32) (P := fun q => atG p l e rmX1_howManyFree s0 m args below meth c 0 0 Z 5 (iW D A H0 (wX1 cy o ad ln s)) [(0, .ref o), (1, .int x1), (2, .int x2), (3, .int q.1), (4, .int q.2)] [] 5) (fun K2 hK2 q hb => tbX1_howManyFree_5 C K hk34 (fun x3 x4 hk => hK2 (x3, x4) hk) q.1 q.2 hb) (x3, x4) h
theorem eX1_howManyFree (C : ctB p s0 m args c cX1_howManyFree 5 RX1 wsX1_howManyFree) (K : ctK s0 D A H0 cy) {o : Nat} {ad ln : Nat → Nat} {Q : Int32 → Prop} (s : St) (hQ : ∀ (v : Int32), Q v → ∀ pc, decode cX1_howManyFree pc = .ok (.ireturn, 1) → atG p l e rmX1_howManyFree s0 m args below meth c 0 0 Z 5 (iW D A H0 (wX1 cy o ad ln s)) [] [.int v] pc) (x1 : Int32) (x2 : Int32) (h : pX1_howManyFree ln s x1 x2 Q) : atG p l e rmX1_howManyFree s0 m args below meth c 0 0 Z 5 (iW D A H0 (wX1 cy o ad ln s)) [(0, .ref o), (1, .int x1), (2, .int x2)] [] 0 := by
  delta pX1_howManyFree at h
  refine aw_iconst (v := 0) C dX1_howManyFree_0 (by decide) ?_
  refine aw_istore_n (lv' := [(3, .int 0), (0, .ref o), (1, .int x1), (2, .int x2)]) C dX1_howManyFree_1 (by decide) rfl ?_
  refine aw_iconst (v := 0) C dX1_howManyFree_2 (by decide) ?_
  refine aw_istore (lv' := [(4, .int 0), (3, .int 0), (0, .ref o), (1, .int x1), (2, .int x2)]) C dX1_howManyFree_3 (by decide) rfl ?_
  refine aw_lv [2, 3, 4, 1, 0] rfl ?_
  refine tlX1_howManyFree_5 C K ?_ 0 0 h
  intro z34_3 h
  refine aw_iload_n C dX1_howManyFree_34 1 rfl ?_
  refine aw_lv [] rfl ?_
  exact hQ z34_3 h 35 dX1_howManyFree_35
end SX1_howManyFree
theorem mtX1_howManyFree (l : Launch) (D : va_G) (cy : Nat → ClassId) (o : Nat) (ad ln : Nat → Nat) (s : St) (x1 : Int32) (x2 : Int32) (Q : Int32 → Prop) (hw : pX1_howManyFree ln s x1 x2 Q) : mI l yX1_howManyFree wsX1_howManyFree rmX1_howManyFree D cy [.ref o, .int x1, .int x2] (wX1 cy o ad ln s) (wX1 cy o ad ln) (fun r u => Q r ∧ u = s) :=
  metI (Wd := wX1 cy o ad ln) ⟨rfl, rfl⟩ (by decide) rfl (Nat.le_of_ble_eq_true rfl) (fun C K hQ => eX1_howManyFree C K s (fun v hq => hQ v s ⟨hq, rfl⟩) x1 x2 hw)
def rmX1_walkChain : Room := { frames := 1, cells := 0, slots := 0, locals := 22 }
theorem inX1_walkChain_1 : ∀ w ∈ wsX10, w ∈ wsX1_walkChain := fun w h => (List.mem_cons_of_mem _ (List.mem_append_right _ h))
theorem qX1_walkChain_fieldLink_RX1_41 : Cond.fieldLink RX1 41 "StageSwitch$Net" "toLast" "[I" ∈ wsX1_walkChain := (List.mem_cons_of_mem _ (List.mem_append_left _ (List.mem_of_getElem? (i := 0) rfl)))
theorem qX1_walkChain_fieldLink_RX1_21 : Cond.fieldLink RX1 21 "StageSwitch$Net" "lines" "I" ∈ wsX1_walkChain := (List.mem_cons_of_mem _ (List.mem_append_left _ (List.mem_of_getElem? (i := 1) rfl)))
theorem qX1_walkChain_fieldLink_RX1_44 : Cond.fieldLink RX1 44 "StageSwitch$Net" "chain" "[I" ∈ wsX1_walkChain := (List.mem_cons_of_mem _ (List.mem_append_left _ (List.mem_of_getElem? (i := 2) rfl)))
theorem qX1_walkChain_fieldLink_RX1_28 : Cond.fieldLink RX1 28 "StageSwitch$Net" "outOf" "[I" ∈ wsX1_walkChain := (List.mem_cons_of_mem _ (List.mem_append_left _ (List.mem_of_getElem? (i := 4) rfl)))
theorem qX1_walkChain_fieldLink_RX1_38 : Cond.fieldLink RX1 38 "StageSwitch$Net" "fromFirst" "[I" ∈ wsX1_walkChain := (List.mem_cons_of_mem _ (List.mem_append_left _ (List.mem_of_getElem? (i := 3) rfl)))
section SX1_walkChain
variable {p : Program} {l : Launch} {e : Env} {s0 : State} {m : MethodId} {args : Array Value} {below : List Frame} {meth : Method} {c : Code} {D : va_G} {A : Nat → Prop} {H0 : Heap} {cy : Nat → ClassId} {Z : State → Prop}
theorem tbX1_walkChain_16 (C : ctB p s0 m args c cX1_walkChain 7 RX1 wsX1_walkChain) (K : ctK s0 D A H0 cy) {o : Nat} {ad ln : Nat → Nat}  {x1 : Int32} {x2 : Int32} {k100 : St → Int32 → Prop} (hk100 : ∀ (s : St) (y4 : Int32), k100 s y4 → atG p l e rmX1_walkChain s0 m args below meth c 0 0 Z 7 (iW D A H0 (wX1 cy o ad ln s)) [(0, .ref o), (4, .int y4)] [] 100) {kH : St → Int32 → Int32 → Prop} (hkH : ∀ (s : St) (y4 : Int32) (y5 : Int32), kH s y4 y5 → atG p l e rmX1_walkChain s0 m args below meth c 0 0 Z 7 (iW D A H0 (wX1 cy o ad ln s)) [(0, .ref o), (1, .int x1), (2, .int x2), (4, .int y4), (5, .int y5)] [] 16) (s : St) (x4 : Int32) (x5 : Int32) (h : bX1_walkChain_16 ln x1 x2 k100 kH s x4 x5) : atG p l e rmX1_walkChain s0 m args below meth c 0 0 Z 7 (iW D A H0 (wX1 cy o ad ln s)) [(0, .ref o), (1, .int x1), (2, .int x2), (4, .int x4), (5, .int x5)] [] 16 := by
  delta bX1_walkChain_16 at h
  refine aw_iload C dX1_walkChain_16 4 rfl ?_
  refine aw_iconst (v := (-1)) C dX1_walkChain_18 (by decide) ?_
  refine aw_icmp_eq (tgt := 100) C dX1_walkChain_19 (by decide) (fun c19 => ?_) (fun c19 => ?_)
  · have h := h.1 c19
    refine aw_lv [0, 3] rfl ?_
    exact hk100 s x4 h
  have h := h.2 c19
  refine aw_iload C dX1_walkChain_22 3 rfl ?_
  refine aw_aload_n C dX1_walkChain_24 0 rfl ?_
  refine aw_getX1 C K inX1_walkChain_1 dX1_walkChain_25 3 (by decide) qX1_walkChain_fieldLink_RX1_21 0 (wX1_g ..) rfl ?_
  refine aw_icmp_ge (tgt := 100) C dX1_walkChain_28 (by decide) (fun c28 => ?_) (fun c28 => ?_)
  · have h := h.1 c28
    refine aw_lv [0, 3] rfl ?_
    exact hk100 s x4 h
  have h := h.2 c28
  refine aw_aload_n C dX1_walkChain_31 0 rfl ?_
  refine aw_getX1 C K inX1_walkChain_1 dX1_walkChain_32 10 (by decide) qX1_walkChain_fieldLink_RX1_44 0 (wX1_g ..) rfl ?_
  refine aw_iload C dX1_walkChain_35 3 rfl ?_
  refine aw_iload C dX1_walkChain_37 4 rfl ?_
  obtain ⟨b39, h⟩ := h
  refine aw_iast C K dX1_walkChain_39 7 (wX1_g10 ..) (wX1_s10 ..) b39 ?_
  obtain ⟨s39, es39⟩ : ∃ z, z = (uA s 10 (upd (sA s 10) x4.toNatClampNeg x5)) := ⟨_, rfl⟩
  rw [← es39]
  have h := h s39 es39
  obtain ⟨x4_40, ex4_40⟩ : ∃ y : Int32, y = x4 + 1 := ⟨_, rfl⟩
  have h := h x4_40 ex4_40
  refine aw_iinc (v := x4_40) (lv' := [(4, .int x4_40), (0, .ref o), (1, .int x1), (2, .int x2), (5, .int x5)]) C dX1_walkChain_40 3 rfl (by rw [ex4_40]; rfl) (by decide) rfl ?_
  refine aw_iload C dX1_walkChain_43 0 rfl ?_
  refine aw_iconst (v := 2) C dX1_walkChain_45 (by decide) ?_
  refine aw_irem C dX1_walkChain_46 (by decide) ?_
  refine aw_iconst (v := 1) C dX1_walkChain_47 (by decide) ?_
  refine aw_icmp_ne (tgt := 55) C dX1_walkChain_48 (by decide) (fun c48 => ?_) (fun c48 => ?_)
  · have h := h.2 c48
    refine aw_iconst (v := 0) C dX1_walkChain_55 (by decide) ?_
    refine aw_istore (lv' := [(6, .int 0), (4, .int x4_40), (0, .ref o), (1, .int x1), (2, .int x2), (5, .int x5)]) C dX1_walkChain_56 (by decide) rfl ?_
    refine aw_iload C dX1_walkChain_58 0 rfl ?_
    refine aw_if_eq (tgt := 78) C dX1_walkChain_60 (by decide) (fun _ => ?_) (fun q => absurd (by decide) q)
    refine aw_aload_n C dX1_walkChain_78 2 rfl ?_
    refine aw_getX1 C K inX1_walkChain_1 dX1_walkChain_79 9 (by decide) qX1_walkChain_fieldLink_RX1_41 0 (wX1_g ..) rfl ?_
    refine aw_aload_n C dX1_walkChain_82 2 rfl ?_
    refine aw_iload_n C dX1_walkChain_83 3 rfl ?_
    refine aw_aload_n C dX1_walkChain_84 2 rfl ?_
    refine aw_getX1 C K inX1_walkChain_1 dX1_walkChain_85 5 (by decide) qX1_walkChain_fieldLink_RX1_28 0 (wX1_g ..) rfl ?_
    refine aw_iload C dX1_walkChain_88 5 rfl ?_
    obtain ⟨b90, h⟩ := h
    refine aw_iald C K dX1_walkChain_90 2 (wX1_g5 ..) b90 ?_
    refine aw_callI (As := [.int x1, .int (sA s39 5 x5.toNatClampNeg)]) (rest := [.ref (ad 9)]) C K (mtX1_link l D cy o ad ln s39 x1 (sA s39 5 x5.toNatClampNeg) _ h) (cwV 2 C.2.2.2.2.1 gX1_walkChain_X1_link rfl rfl rfl (by decide +kernel) ⟨Nat.le_of_ble_eq_true rfl, Nat.le_of_ble_eq_true rfl⟩) 0 1 (wX1_g ..) rfl rfl rfl rfl (Nat.le_of_ble_eq_true rfl) ⟨Nat.le_of_ble_eq_true rfl, Nat.le_of_ble_eq_true rfl⟩ dX1_walkChain_91 (fun r91 s91 h => ?_)
    obtain ⟨h, hu91⟩ := h
    rw [hu91]
    obtain ⟨b94, h⟩ := h
    refine aw_iald C K dX1_walkChain_94 6 (wX1_g9 ..) b94 ?_
    refine aw_name (fun x5_95 ex5_95 => ?_)
    have h := h x5_95 ex5_95
    refine aw_istore (lv' := [(5, .int x5_95), (6, .int 0), (4, .int x4_40), (0, .ref o), (1, .int x1), (2, .int x2)]) C dX1_walkChain_95 (by decide) rfl ?_
    refine aw_goto (tgt := 16) C dX1_walkChain_97 (by decide) ?_
    refine aw_lv [3, 4, 5, 2, 0] rfl ?_
    exact hkH s39 x4_40 x5_95 h
  have h := h.1 c48
  refine aw_iconst (v := 1) C dX1_walkChain_51 (by decide) ?_
  refine aw_goto (tgt := 56) C dX1_walkChain_52 (by decide) ?_
  refine aw_istore (lv' := [(6, .int 1), (4, .int x4_40), (0, .ref o), (1, .int x1), (2, .int x2), (5, .int x5)]) C dX1_walkChain_56 (by decide) rfl ?_
  refine aw_iload C dX1_walkChain_58 0 rfl ?_
  refine aw_if_eq (tgt := 78) C dX1_walkChain_60 (by decide) (fun q => absurd q (by decide)) (fun _ => ?_)
  refine aw_aload_n C dX1_walkChain_63 2 rfl ?_
  refine aw_getX1 C K inX1_walkChain_1 dX1_walkChain_64 8 (by decide) qX1_walkChain_fieldLink_RX1_38 0 (wX1_g ..) rfl ?_
  refine aw_aload_n C dX1_walkChain_67 2 rfl ?_
  refine aw_iload_n C dX1_walkChain_68 4 rfl ?_
  refine aw_iload C dX1_walkChain_69 5 rfl ?_
  refine aw_callI (As := [.int x2, .int x5]) (rest := [.ref (ad 8)]) C K (mtX1_link l D cy o ad ln s39 x2 x5 _ h) (cwV 2 C.2.2.2.2.1 gX1_walkChain_X1_link rfl rfl rfl (by decide +kernel) ⟨Nat.le_of_ble_eq_true rfl, Nat.le_of_ble_eq_true rfl⟩) 0 1 (wX1_g ..) rfl rfl rfl rfl (Nat.le_of_ble_eq_true rfl) ⟨Nat.le_of_ble_eq_true rfl, Nat.le_of_ble_eq_true rfl⟩ dX1_walkChain_71 (fun r71 s71 h => ?_)
  obtain ⟨h, hu71⟩ := h
  rw [hu71]
  obtain ⟨b74, h⟩ := h
  refine aw_iald C K dX1_walkChain_74 5 (wX1_g8 ..) b74 ?_
  refine aw_goto (tgt := 95) C dX1_walkChain_75 (by decide) ?_
  refine aw_name (fun x5_95 ex5_95 => ?_)
  have h := h x5_95 ex5_95
  refine aw_istore (lv' := [(5, .int x5_95), (6, .int 1), (4, .int x4_40), (0, .ref o), (1, .int x1), (2, .int x2)]) C dX1_walkChain_95 (by decide) rfl ?_
  refine aw_goto (tgt := 16) C dX1_walkChain_97 (by decide) ?_
  refine aw_lv [3, 4, 5, 2, 0] rfl ?_
  exact hkH s39 x4_40 x5_95 h
theorem tlX1_walkChain_16 (C : ctB p s0 m args c cX1_walkChain 7 RX1 wsX1_walkChain) (K : ctK s0 D A H0 cy) {o : Nat} {ad ln : Nat → Nat}  {x1 : Int32} {x2 : Int32} {k100 : St → Int32 → Prop} (hk100 : ∀ (s : St) (y4 : Int32), k100 s y4 → atG p l e rmX1_walkChain s0 m args below meth c 0 0 Z 7 (iW D A H0 (wX1 cy o ad ln s)) [(0, .ref o), (4, .int y4)] [] 100) (s : St) (x4 : Int32) (x5 : Int32) (h : lX1_walkChain_16 ln x1 x2 k100 s x4 x5) : atG p l e rmX1_walkChain s0 m args below meth c 0 0 Z 7 (iW D A H0 (wX1 cy o ad ln s)) [(0, .ref o), (1, .int x1), (2, .int x2), (4, .int x4), (5, .int x5)] [] 16 :=
  lp_W (σ := St × Int32 × Int32) (P := fun q => atG p l e rmX1_walkChain s0 m args below meth c 0 0 Z 7 (iW D A H0 (wX1 cy o ad ln q.1)) [(0, .ref o), (1, .int x1), (2, .int x2), (4, .int q.2.1), (5, .int q.2.2)] [] 16) (fun K2 hK2 q hb => tbX1_walkChain_16 C K hk100 (fun s x4 x5 hk => hK2 (s, x4, x5) hk) q.1 q.2.1 q.2.2 hb) (s, x4, x5) h
theorem eX1_walkChain (C : ctB p s0 m args c cX1_walkChain 7 RX1 wsX1_walkChain) (K : ctK s0 D A H0 cy) {o : Nat} {ad ln : Nat → Nat} {Q : Int32 → St → Prop} (hQ : ∀ (v : Int32) (u : St), Q v u → ∀ pc, decode cX1_walkChain pc = .ok (.ireturn, 1) → atG p l e rmX1_walkChain s0 m args below meth c 0 0 Z 7 (iW D A H0 (wX1 cy o ad ln u)) [] [.int v] pc) (s : St) (x1 : Int32) (x2 : Int32) (x3 : Int32) (h : pX1_walkChain ln s x1 x2 x3 Q) : atG p l e rmX1_walkChain s0 m args below meth c 0 0 Z 7 (iW D A H0 (wX1 cy o ad ln s)) [(0, .ref o), (1, .int x1), (2, .int x2), (3, .int x3)] [] 0 := by
  delta pX1_walkChain at h
  refine aw_iconst (v := 0) C dX1_walkChain_0 (by decide) ?_
  refine aw_istore (lv' := [(4, .int 0), (0, .ref o), (1, .int x1), (2, .int x2), (3, .int x3)]) C dX1_walkChain_1 (by decide) rfl ?_
  refine aw_aload_n C dX1_walkChain_3 1 rfl ?_
  refine aw_getX1 C K inX1_walkChain_1 dX1_walkChain_4 9 (by decide) qX1_walkChain_fieldLink_RX1_41 0 (wX1_g ..) rfl ?_
  refine aw_aload_n C dX1_walkChain_7 1 rfl ?_
  refine aw_iload_n C dX1_walkChain_8 2 rfl ?_
  refine aw_iload_n C dX1_walkChain_9 4 rfl ?_
  refine aw_callI (As := [.int x1, .int x3]) (rest := [.ref (ad 9)]) C K (mtX1_link l D cy o ad ln s x1 x3 _ h) (cwV 2 C.2.2.2.2.1 gX1_walkChain_X1_link rfl rfl rfl (by decide +kernel) ⟨Nat.le_of_ble_eq_true rfl, Nat.le_of_ble_eq_true rfl⟩) 0 1 (wX1_g ..) rfl rfl rfl rfl (Nat.le_of_ble_eq_true rfl) ⟨Nat.le_of_ble_eq_true rfl, Nat.le_of_ble_eq_true rfl⟩ dX1_walkChain_10 (fun r10 s10 h => ?_)
  obtain ⟨h, hu10⟩ := h
  rw [hu10]
  obtain ⟨b13, h⟩ := h
  refine aw_iald C K dX1_walkChain_13 6 (wX1_g9 ..) b13 ?_
  refine aw_name (fun x5_14 ex5_14 => ?_)
  have h := h x5_14 ex5_14
  refine aw_istore (lv' := [(5, .int x5_14), (4, .int 0), (0, .ref o), (1, .int x1), (2, .int x2), (3, .int x3)]) C dX1_walkChain_14 (by decide) rfl ?_
  refine aw_lv [2, 3, 4, 1, 0] rfl ?_
  refine tlX1_walkChain_16 C K ?_ s 0 x5_14 h
  intro s_100 z100_4 h
  refine aw_iload C dX1_walkChain_100 1 rfl ?_
  refine aw_lv [] rfl ?_
  exact hQ z100_4 s_100 h 102 dX1_walkChain_102
end SX1_walkChain
theorem mtX1_walkChain (l : Launch) (D : va_G) (cy : Nat → ClassId) (o : Nat) (ad ln : Nat → Nat) (s : St) (x1 : Int32) (x2 : Int32) (x3 : Int32) (Q : Int32 → St → Prop) (hw : pX1_walkChain ln s x1 x2 x3 Q) : mI l yX1_walkChain wsX1_walkChain rmX1_walkChain D cy [.ref o, .int x1, .int x2, .int x3] (wX1 cy o ad ln s) (wX1 cy o ad ln) Q :=
  metI (Wd := wX1 cy o ad ln) ⟨rfl, rfl⟩ (by decide) rfl (Nat.le_of_ble_eq_true rfl) (fun C K hQ => eX1_walkChain C K hQ s x1 x2 x3 hw)
def rmX1_planMoves : Room := { frames := 2, cells := 0, slots := 0, locals := 48 }
theorem inX1_planMoves_1 : ∀ w ∈ wsX10, w ∈ wsX1_planMoves := fun w h => (List.mem_cons_of_mem _ (List.mem_append_right _ h))
theorem qX1_planMoves_constant_RX1_65_1000000 : Cond.constant RX1 65 (-1000000) ∈ wsX1_planMoves := (List.mem_cons_of_mem _ (List.mem_append_left _ (List.mem_append_left _ (List.mem_of_getElem? (i := 0) rfl))))
theorem qX1_planMoves_fieldLink_RX1_9 : Cond.fieldLink RX1 9 "StageSwitch$Net" "middles" "I" ∈ wsX1_planMoves := (List.mem_cons_of_mem _ (List.mem_append_left _ (List.mem_append_left _ (List.mem_of_getElem? (i := 1) rfl))))
theorem qX1_planMoves_fieldLink_RX1_59 : Cond.fieldLink RX1 59 "StageSwitch$Net" "plannedX" "I" ∈ wsX1_planMoves := (List.mem_cons_of_mem _ (List.mem_append_left _ (List.mem_append_left _ (List.mem_of_getElem? (i := 2) rfl))))
theorem qX1_planMoves_fieldLink_RX1_62 : Cond.fieldLink RX1 62 "StageSwitch$Net" "plannedY" "I" ∈ wsX1_planMoves := (List.mem_cons_of_mem _ (List.mem_append_left _ (List.mem_append_left _ (List.mem_of_getElem? (i := 3) rfl))))
section SX1_planMoves
variable {p : Program} {l : Launch} {e : Env} {s0 : State} {m : MethodId} {args : Array Value} {below : List Frame} {meth : Method} {c : Code} {D : va_G} {A : Nat → Prop} {H0 : Heap} {cy : Nat → ClassId} {Z : State → Prop}
theorem tbX1_planMoves_31 (C : ctB p s0 m args c cX1_planMoves 7 RX1 wsX1_planMoves) (K : ctK s0 D A H0 cy) {o : Nat} {ad ln : Nat → Nat}  {x1 : Int32} {x2 : Int32} {x4 : Int32} {k97 : St → Int32 → Prop} (hk97 : ∀ (s : St) (y3 : Int32), k97 s y3 → atG p l e rmX1_planMoves s0 m args below meth c 0 0 Z 7 (iW D A H0 (wX1 cy o ad ln s)) [(0, .ref o), (1, .int x1), (2, .int x2), (3, .int y3), (4, .int x4)] [] 97) {kH : St → Int32 → Int32 → Prop} (hkH : ∀ (s : St) (y3 : Int32) (y5 : Int32), kH s y3 y5 → atG p l e rmX1_planMoves s0 m args below meth c 0 0 Z 7 (iW D A H0 (wX1 cy o ad ln s)) [(0, .ref o), (1, .int x1), (2, .int x2), (3, .int y3), (4, .int x4), (5, .int y5)] [] 31) (s : St) (x3 : Int32) (x5 : Int32) (h : bX1_planMoves_31 ln x1 x2 x4 k97 kH s x3 x5) : atG p l e rmX1_planMoves s0 m args below meth c 0 0 Z 7 (iW D A H0 (wX1 cy o ad ln s)) [(0, .ref o), (1, .int x1), (2, .int x2), (3, .int x3), (4, .int x4), (5, .int x5)] [] 31 := by
  delta bX1_planMoves_31 at h
  refine aw_iload C dX1_planMoves_31 5 rfl ?_
  refine aw_aload_n C dX1_planMoves_33 0 rfl ?_
  refine aw_getX1 C K inX1_planMoves_1 dX1_planMoves_34 0 (by decide) qX1_planMoves_fieldLink_RX1_9 0 (wX1_g ..) rfl ?_
  refine aw_icmp_ge (tgt := 97) C dX1_planMoves_37 (by decide) (fun c37 => ?_) (fun c37 => ?_)
  · have h := h.1 c37
    refine aw_lv [0, 1, 2, 3, 4] rfl ?_
    exact hk97 s x3 h
  have h := h.2 c37
  refine aw_aload_n C dX1_planMoves_40 0 rfl ?_
  refine aw_iload C dX1_planMoves_41 5 rfl ?_
  refine aw_iload_n C dX1_planMoves_43 2 rfl ?_
  refine aw_callI (As := [.int x5, .int x2]) (rest := []) C K (mtX1_isFreeTo l D cy o ad ln s x5 x2 _ h) (cwV 2 C.2.2.2.2.1 gX1_planMoves_X1_isFreeTo rfl rfl rfl (by decide +kernel) ⟨Nat.le_of_ble_eq_true rfl, Nat.le_of_ble_eq_true rfl⟩) 0 1 (wX1_g ..) rfl rfl rfl rfl (Nat.le_of_ble_eq_true rfl) ⟨Nat.le_of_ble_eq_true rfl, Nat.le_of_ble_eq_true rfl⟩ dX1_planMoves_44 (fun r44 s44 h => ?_)
  obtain ⟨h, hu44⟩ := h
  rw [hu44]
  refine aw_if_ne (tgt := 53) C dX1_planMoves_47 (by decide) (fun c47 => ?_) (fun c47 => ?_)
  · have h := h.2 c47
    refine aw_aload_n C dX1_planMoves_53 0 rfl ?_
    refine aw_iload C dX1_planMoves_54 4 rfl ?_
    refine aw_iload C dX1_planMoves_56 5 rfl ?_
    refine aw_iload_n C dX1_planMoves_58 2 rfl ?_
    refine aw_callI (As := [.int x4, .int x5, .int x2]) (rest := []) C K (mtX1_walkChain l D cy o ad ln s x4 x5 x2 _ h) (cwV 3 C.2.2.2.2.1 gX1_planMoves_X1_walkChain rfl rfl rfl (by decide +kernel) ⟨Nat.le_of_ble_eq_true rfl, Nat.le_of_ble_eq_true rfl⟩) 0 1 (wX1_g ..) rfl rfl rfl rfl (Nat.le_of_ble_eq_true rfl) ⟨Nat.le_of_ble_eq_true rfl, Nat.le_of_ble_eq_true rfl⟩ dX1_planMoves_59 (fun r59 s59 h => ?_)
    refine aw_istore (lv' := [(6, .int r59), (0, .ref o), (1, .int x1), (2, .int x2), (3, .int x3), (4, .int x4), (5, .int x5)]) C dX1_planMoves_62 (by decide) rfl ?_
    refine aw_iload_n C dX1_planMoves_64 4 rfl ?_
    refine aw_ldc (v := (-1000000)) C dX1_planMoves_65 qX1_planMoves_constant_RX1_65_1000000 ?_
    refine aw_icmp_eq (tgt := 76) C dX1_planMoves_67 (by decide) (fun c67 => ?_) (fun c67 => ?_)
    · have h := h.1 c67
      refine aw_iload C dX1_planMoves_76 0 rfl ?_
      refine aw_istore_n (lv' := [(3, .int r59), (6, .int r59), (0, .ref o), (1, .int x1), (2, .int x2), (4, .int x4), (5, .int x5)]) C dX1_planMoves_78 (by decide) rfl ?_
      refine aw_aload_n C dX1_planMoves_79 2 rfl ?_
      refine aw_iload C dX1_planMoves_80 5 rfl ?_
      refine aw_putX1 (ty := .int) C K inX1_planMoves_1 dX1_planMoves_82 15 (by decide) qX1_planMoves_fieldLink_RX1_59 0 (wX1_g ..) rfl (by decide +kernel) rfl rfl (Nat.le_of_ble_eq_true rfl) (wX1_p15 ..) ?_
      obtain ⟨s82, es82⟩ : ∃ z, z = (uF s59 15 x4) := ⟨_, rfl⟩
      rw [← es82]
      have h := h s82 es82
      refine aw_aload_n C dX1_planMoves_85 2 rfl ?_
      refine aw_iload C dX1_planMoves_86 6 rfl ?_
      refine aw_putX1 (ty := .int) C K inX1_planMoves_1 dX1_planMoves_88 16 (by decide) qX1_planMoves_fieldLink_RX1_62 0 (wX1_g ..) rfl (by decide +kernel) rfl rfl (Nat.le_of_ble_eq_true rfl) (wX1_p16 ..) ?_
      obtain ⟨s88, es88⟩ : ∃ z, z = (uF s82 16 x5) := ⟨_, rfl⟩
      rw [← es88]
      have h := h s88 es88
      obtain ⟨x5_91, ex5_91⟩ : ∃ y : Int32, y = x5 + 1 := ⟨_, rfl⟩
      have h := h x5_91 ex5_91
      refine aw_iinc (v := x5_91) (lv' := [(5, .int x5_91), (3, .int r59), (6, .int r59), (0, .ref o), (1, .int x1), (2, .int x2), (4, .int x4)]) C dX1_planMoves_91 6 rfl (by rw [ex5_91]; rfl) (by decide) rfl ?_
      refine aw_goto (tgt := 31) C dX1_planMoves_94 (by decide) ?_
      refine aw_lv [3, 4, 5, 1, 6, 0] rfl ?_
      exact hkH s88 r59 x5_91 h
    have h := h.2 c67
    refine aw_iload C dX1_planMoves_70 0 rfl ?_
    refine aw_iload_n C dX1_planMoves_72 4 rfl ?_
    refine aw_icmp_ge (tgt := 91) C dX1_planMoves_73 (by decide) (fun c73 => ?_) (fun c73 => ?_)
    · have h := h.1 c73
      obtain ⟨x5_91, ex5_91⟩ : ∃ y : Int32, y = x5 + 1 := ⟨_, rfl⟩
      have h := h x5_91 ex5_91
      refine aw_iinc (v := x5_91) (lv' := [(5, .int x5_91), (6, .int r59), (0, .ref o), (1, .int x1), (2, .int x2), (3, .int x3), (4, .int x4)]) C dX1_planMoves_91 6 rfl (by rw [ex5_91]; rfl) (by decide) rfl ?_
      refine aw_goto (tgt := 31) C dX1_planMoves_94 (by decide) ?_
      refine aw_lv [2, 3, 4, 5, 6, 0] rfl ?_
      exact hkH s59 x3 x5_91 h
    have h := h.2 c73
    refine aw_iload C dX1_planMoves_76 0 rfl ?_
    refine aw_istore_n (lv' := [(3, .int r59), (6, .int r59), (0, .ref o), (1, .int x1), (2, .int x2), (4, .int x4), (5, .int x5)]) C dX1_planMoves_78 (by decide) rfl ?_
    refine aw_aload_n C dX1_planMoves_79 2 rfl ?_
    refine aw_iload C dX1_planMoves_80 5 rfl ?_
    refine aw_putX1 (ty := .int) C K inX1_planMoves_1 dX1_planMoves_82 15 (by decide) qX1_planMoves_fieldLink_RX1_59 0 (wX1_g ..) rfl (by decide +kernel) rfl rfl (Nat.le_of_ble_eq_true rfl) (wX1_p15 ..) ?_
    obtain ⟨s82, es82⟩ : ∃ z, z = (uF s59 15 x4) := ⟨_, rfl⟩
    rw [← es82]
    have h := h s82 es82
    refine aw_aload_n C dX1_planMoves_85 2 rfl ?_
    refine aw_iload C dX1_planMoves_86 6 rfl ?_
    refine aw_putX1 (ty := .int) C K inX1_planMoves_1 dX1_planMoves_88 16 (by decide) qX1_planMoves_fieldLink_RX1_62 0 (wX1_g ..) rfl (by decide +kernel) rfl rfl (Nat.le_of_ble_eq_true rfl) (wX1_p16 ..) ?_
    obtain ⟨s88, es88⟩ : ∃ z, z = (uF s82 16 x5) := ⟨_, rfl⟩
    rw [← es88]
    have h := h s88 es88
    obtain ⟨x5_91, ex5_91⟩ : ∃ y : Int32, y = x5 + 1 := ⟨_, rfl⟩
    have h := h x5_91 ex5_91
    refine aw_iinc (v := x5_91) (lv' := [(5, .int x5_91), (3, .int r59), (6, .int r59), (0, .ref o), (1, .int x1), (2, .int x2), (4, .int x4)]) C dX1_planMoves_91 6 rfl (by rw [ex5_91]; rfl) (by decide) rfl ?_
    refine aw_goto (tgt := 31) C dX1_planMoves_94 (by decide) ?_
    refine aw_lv [3, 4, 5, 1, 6, 0] rfl ?_
    exact hkH s88 r59 x5_91 h
  have h := h.1 c47
  refine aw_goto (tgt := 91) C dX1_planMoves_50 (by decide) ?_
  obtain ⟨x5_91, ex5_91⟩ : ∃ y : Int32, y = x5 + 1 := ⟨_, rfl⟩
  have h := h x5_91 ex5_91
  refine aw_iinc (v := x5_91) (lv' := [(5, .int x5_91), (0, .ref o), (1, .int x1), (2, .int x2), (3, .int x3), (4, .int x4)]) C dX1_planMoves_91 5 rfl (by rw [ex5_91]; rfl) (by decide) rfl ?_
  refine aw_goto (tgt := 31) C dX1_planMoves_94 (by decide) ?_
  refine aw_lv [1, 2, 3, 4, 5, 0] rfl ?_
  exact hkH s x3 x5_91 h
theorem tlX1_planMoves_31 (C : ctB p s0 m args c cX1_planMoves 7 RX1 wsX1_planMoves) (K : ctK s0 D A H0 cy) {o : Nat} {ad ln : Nat → Nat}  {x1 : Int32} {x2 : Int32} {x4 : Int32} {k97 : St → Int32 → Prop} (hk97 : ∀ (s : St) (y3 : Int32), k97 s y3 → atG p l e rmX1_planMoves s0 m args below meth c 0 0 Z 7 (iW D A H0 (wX1 cy o ad ln s)) [(0, .ref o), (1, .int x1), (2, .int x2), (3, .int y3), (4, .int x4)] [] 97) (s : St) (x3 : Int32) (x5 : Int32) (h : lX1_planMoves_31 ln x1 x2 x4 k97 s x3 x5) : atG p l e rmX1_planMoves s0 m args below meth c 0 0 Z 7 (iW D A H0 (wX1 cy o ad ln s)) [(0, .ref o), (1, .int x1), (2, .int x2), (3, .int x3), (4, .int x4), (5, .int x5)] [] 31 :=
  lp_W (σ := St × Int32 × Int32) (P := fun q => atG p l e rmX1_planMoves s0 m args below meth c 0 0 Z 7 (iW D A H0 (wX1 cy o ad ln q.1)) [(0, .ref o), (1, .int x1), (2, .int x2), (3, .int q.2.1), (4, .int x4), (5, .int q.2.2)] [] 31) (fun K2 hK2 q hb => tbX1_planMoves_31 C K hk97 (fun s x3 x5 hk => hK2 (s, x3, x5) hk) q.1 q.2.1 q.2.2 hb) (s, x3, x5) h
theorem tbX1_planMoves_6 (C : ctB p s0 m args c cX1_planMoves 7 RX1 wsX1_planMoves) (K : ctK s0 D A H0 cy) {o : Nat} {ad ln : Nat → Nat}  {x1 : Int32} {x2 : Int32} {k103 : St → Int32 → Prop} (hk103 : ∀ (s : St) (y3 : Int32), k103 s y3 → atG p l e rmX1_planMoves s0 m args below meth c 0 0 Z 7 (iW D A H0 (wX1 cy o ad ln s)) [(0, .ref o), (3, .int y3)] [] 103) {kH : St → Int32 → Int32 → Prop} (hkH : ∀ (s : St) (y3 : Int32) (y4 : Int32), kH s y3 y4 → atG p l e rmX1_planMoves s0 m args below meth c 0 0 Z 7 (iW D A H0 (wX1 cy o ad ln s)) [(0, .ref o), (1, .int x1), (2, .int x2), (3, .int y3), (4, .int y4)] [] 6) (s : St) (x3 : Int32) (x4 : Int32) (h : bX1_planMoves_6 ln x1 x2 k103 kH s x3 x4) : atG p l e rmX1_planMoves s0 m args below meth c 0 0 Z 7 (iW D A H0 (wX1 cy o ad ln s)) [(0, .ref o), (1, .int x1), (2, .int x2), (3, .int x3), (4, .int x4)] [] 6 := by
  delta bX1_planMoves_6 at h
  refine aw_iload C dX1_planMoves_6 4 rfl ?_
  refine aw_aload_n C dX1_planMoves_8 0 rfl ?_
  refine aw_getX1 C K inX1_planMoves_1 dX1_planMoves_9 0 (by decide) qX1_planMoves_fieldLink_RX1_9 0 (wX1_g ..) rfl ?_
  refine aw_icmp_ge (tgt := 103) C dX1_planMoves_12 (by decide) (fun c12 => ?_) (fun c12 => ?_)
  · have h := h.1 c12
    refine aw_lv [0, 3] rfl ?_
    exact hk103 s x3 h
  have h := h.2 c12
  refine aw_aload_n C dX1_planMoves_15 0 rfl ?_
  refine aw_iload C dX1_planMoves_16 4 rfl ?_
  refine aw_iload_n C dX1_planMoves_18 1 rfl ?_
  refine aw_callI (As := [.int x4, .int x1]) (rest := []) C K (mtX1_isFreeFrom l D cy o ad ln s x4 x1 _ h) (cwV 2 C.2.2.2.2.1 gX1_planMoves_X1_isFreeFrom rfl rfl rfl (by decide +kernel) ⟨Nat.le_of_ble_eq_true rfl, Nat.le_of_ble_eq_true rfl⟩) 0 1 (wX1_g ..) rfl rfl rfl rfl (Nat.le_of_ble_eq_true rfl) ⟨Nat.le_of_ble_eq_true rfl, Nat.le_of_ble_eq_true rfl⟩ dX1_planMoves_19 (fun r19 s19 h => ?_)
  obtain ⟨h, hu19⟩ := h
  rw [hu19]
  refine aw_if_ne (tgt := 28) C dX1_planMoves_22 (by decide) (fun c22 => ?_) (fun c22 => ?_)
  · have h := h.2 c22
    refine aw_iconst (v := 0) C dX1_planMoves_28 (by decide) ?_
    refine aw_istore (lv' := [(5, .int 0), (0, .ref o), (1, .int x1), (2, .int x2), (3, .int x3), (4, .int x4)]) C dX1_planMoves_29 (by decide) rfl ?_
    refine aw_lv [1, 2, 3, 4, 5, 0] rfl ?_
    refine tlX1_planMoves_31 C K ?_ s x3 0 h
    intro s_97 z97_3 h
    obtain ⟨x4_97, ex4_97⟩ : ∃ y : Int32, y = x4 + 1 := ⟨_, rfl⟩
    have h := h x4_97 ex4_97
    refine aw_iinc (v := x4_97) (lv' := [(4, .int x4_97), (0, .ref o), (1, .int x1), (2, .int x2), (3, .int z97_3)]) C dX1_planMoves_97 4 rfl (by rw [ex4_97]; rfl) (by decide) rfl ?_
    refine aw_goto (tgt := 6) C dX1_planMoves_100 (by decide) ?_
    refine aw_lv [1, 2, 3, 4, 0] rfl ?_
    exact hkH s_97 z97_3 x4_97 h
  have h := h.1 c22
  refine aw_goto (tgt := 97) C dX1_planMoves_25 (by decide) ?_
  obtain ⟨x4_97, ex4_97⟩ : ∃ y : Int32, y = x4 + 1 := ⟨_, rfl⟩
  have h := h x4_97 ex4_97
  refine aw_iinc (v := x4_97) (lv' := [(4, .int x4_97), (0, .ref o), (1, .int x1), (2, .int x2), (3, .int x3)]) C dX1_planMoves_97 4 rfl (by rw [ex4_97]; rfl) (by decide) rfl ?_
  refine aw_goto (tgt := 6) C dX1_planMoves_100 (by decide) ?_
  refine aw_lv [1, 2, 3, 4, 0] rfl ?_
  exact hkH s x3 x4_97 h
theorem tlX1_planMoves_6 (C : ctB p s0 m args c cX1_planMoves 7 RX1 wsX1_planMoves) (K : ctK s0 D A H0 cy) {o : Nat} {ad ln : Nat → Nat}  {x1 : Int32} {x2 : Int32} {k103 : St → Int32 → Prop} (hk103 : ∀ (s : St) (y3 : Int32), k103 s y3 → atG p l e rmX1_planMoves s0 m args below meth c 0 0 Z 7 (iW D A H0 (wX1 cy o ad ln s)) [(0, .ref o), (3, .int y3)] [] 103) (s : St) (x3 : Int32) (x4 : Int32) (h : lX1_planMoves_6 ln x1 x2 k103 s x3 x4) : atG p l e rmX1_planMoves s0 m args below meth c 0 0 Z 7 (iW D A H0 (wX1 cy o ad ln s)) [(0, .ref o), (1, .int x1), (2, .int x2), (3, .int x3), (4, .int x4)] [] 6 :=
  lp_W (σ := St × Int32 × Int32) (P := fun q => atG p l e rmX1_planMoves s0 m args below meth c 0 0 Z 7 (iW D A H0 (wX1 cy o ad ln q.1)) [(0, .ref o), (1, .int x1), (2, .int x2), (3, .int q.2.1), (4, .int q.2.2)] [] 6) (fun K2 hK2 q hb => tbX1_planMoves_6 C K hk103 (fun s x3 x4 hk => hK2 (s, x3, x4) hk) q.1 q.2.1 q.2.2 hb) (s, x3, x4) h
theorem eX1_planMoves (C : ctB p s0 m args c cX1_planMoves 7 RX1 wsX1_planMoves) (K : ctK s0 D A H0 cy) {o : Nat} {ad ln : Nat → Nat} {Q : Int32 → St → Prop} (hQ : ∀ (v : Int32) (u : St), Q v u → ∀ pc, decode cX1_planMoves pc = .ok (.ireturn, 1) → atG p l e rmX1_planMoves s0 m args below meth c 0 0 Z 7 (iW D A H0 (wX1 cy o ad ln u)) [] [.int v] pc) (s : St) (x1 : Int32) (x2 : Int32) (h : pX1_planMoves ln s x1 x2 Q) : atG p l e rmX1_planMoves s0 m args below meth c 0 0 Z 7 (iW D A H0 (wX1 cy o ad ln s)) [(0, .ref o), (1, .int x1), (2, .int x2)] [] 0 := by
  delta pX1_planMoves at h
  refine aw_ldc (v := (-1000000)) C dX1_planMoves_0 qX1_planMoves_constant_RX1_65_1000000 ?_
  refine aw_istore_n (lv' := [(3, .int (-1000000)), (0, .ref o), (1, .int x1), (2, .int x2)]) C dX1_planMoves_2 (by decide) rfl ?_
  refine aw_iconst (v := 0) C dX1_planMoves_3 (by decide) ?_
  refine aw_istore (lv' := [(4, .int 0), (3, .int (-1000000)), (0, .ref o), (1, .int x1), (2, .int x2)]) C dX1_planMoves_4 (by decide) rfl ?_
  refine aw_lv [2, 3, 4, 1, 0] rfl ?_
  refine tlX1_planMoves_6 C K ?_ s (-1000000) 0 h
  intro s_103 z103_3 h
  refine aw_iload_n C dX1_planMoves_103 1 rfl ?_
  refine aw_lv [] rfl ?_
  exact hQ z103_3 s_103 h 104 dX1_planMoves_104
end SX1_planMoves
theorem mtX1_planMoves (l : Launch) (D : va_G) (cy : Nat → ClassId) (o : Nat) (ad ln : Nat → Nat) (s : St) (x1 : Int32) (x2 : Int32) (Q : Int32 → St → Prop) (hw : pX1_planMoves ln s x1 x2 Q) : mI l yX1_planMoves wsX1_planMoves rmX1_planMoves D cy [.ref o, .int x1, .int x2] (wX1 cy o ad ln s) (wX1 cy o ad ln) Q :=
  metI (Wd := wX1 cy o ad ln) ⟨rfl, rfl⟩ (by decide) rfl (Nat.le_of_ble_eq_true rfl) (fun C K hQ => eX1_planMoves C K hQ s x1 x2 hw)
def rmX1_plan : Room := { frames := 3, cells := 0, slots := 0, locals := 74 }
theorem inX1_plan_1 : ∀ w ∈ wsX10, w ∈ wsX1_plan := fun w h => (List.mem_cons_of_mem _ (List.mem_append_right _ h))
theorem qX1_plan_fieldLink_RX1_9 : Cond.fieldLink RX1 9 "StageSwitch$Net" "middles" "I" ∈ wsX1_plan := (List.mem_cons_of_mem _ (List.mem_append_left _ (List.mem_append_left _ (List.mem_of_getElem? (i := 0) rfl))))
theorem qX1_plan_fieldLink_RX1_59 : Cond.fieldLink RX1 59 "StageSwitch$Net" "plannedX" "I" ∈ wsX1_plan := (List.mem_cons_of_mem _ (List.mem_append_left _ (List.mem_append_left _ (List.mem_of_getElem? (i := 1) rfl))))
theorem qX1_plan_constant_RX1_65_1000000 : Cond.constant RX1 65 (-1000000) ∈ wsX1_plan := (List.mem_cons_of_mem _ (List.mem_append_left _ (List.mem_append_left _ (List.mem_of_getElem? (i := 2) rfl))))
section SX1_plan
variable {p : Program} {l : Launch} {e : Env} {s0 : State} {m : MethodId} {args : Array Value} {below : List Frame} {meth : Method} {c : Code} {D : va_G} {A : Nat → Prop} {H0 : Heap} {cy : Nat → ClassId} {Z : State → Prop}
theorem tbX1_plan_3 (C : ctB p s0 m args c cX1_plan 5 RX1 wsX1_plan) (K : ctK s0 D A H0 cy) {o : Nat} {ad ln : Nat → Nat}  {s : St} {x1 : Int32} {x2 : Int32} {x3 : Int32} {k23 : Int32 → Prop} {k37 : Prop} (hk23 : ∀ (y4 : Int32), k23 y4 → atG p l e rmX1_plan s0 m args below meth c 0 0 Z 5 (iW D A H0 (wX1 cy o ad ln s)) [(0, .ref o), (4, .int y4)] [] 23) (hk37 : k37 → atG p l e rmX1_plan s0 m args below meth c 0 0 Z 5 (iW D A H0 (wX1 cy o ad ln s)) [(0, .ref o), (1, .int x1), (2, .int x2), (3, .int x3)] [] 37) {kH : Int32 → Prop} (hkH : ∀ (y4 : Int32), kH y4 → atG p l e rmX1_plan s0 m args below meth c 0 0 Z 5 (iW D A H0 (wX1 cy o ad ln s)) [(0, .ref o), (1, .int x1), (2, .int x2), (3, .int x3), (4, .int y4)] [] 3) (x4 : Int32) (h : bX1_plan_3 ln s x1 x2 x3 k23 k37 kH x4) : atG p l e rmX1_plan s0 m args below meth c 0 0 Z 5 (iW D A H0 (wX1 cy o ad ln s)) [(0, .ref o), (1, .int x1), (2, .int x2), (3, .int x3), (4, .int x4)] [] 3 := by
  delta bX1_plan_3 at h
  refine aw_iload C dX1_plan_3 4 rfl ?_
  refine aw_aload_n C dX1_plan_5 0 rfl ?_
  refine aw_getX1 C K inX1_plan_1 dX1_plan_6 0 (by decide) qX1_plan_fieldLink_RX1_9 0 (wX1_g ..) rfl ?_
  refine aw_icmp_ge (tgt := 37) C dX1_plan_9 (by decide) (fun c9 => ?_) (fun c9 => ?_)
  · have h := h.1 c9
    refine aw_lv [0, 1, 2, 3] rfl ?_
    exact hk37 h
  have h := h.2 c9
  refine aw_aload_n C dX1_plan_12 0 rfl ?_
  refine aw_iload C dX1_plan_13 4 rfl ?_
  refine aw_iload_n C dX1_plan_15 1 rfl ?_
  refine aw_iload_n C dX1_plan_16 2 rfl ?_
  refine aw_callI (As := [.int x4, .int x1, .int x2]) (rest := []) C K (mtX1_isFree l D cy o ad ln s x4 x1 x2 _ h) (cwV 3 C.2.2.2.2.1 gX1_plan_X1_isFree rfl rfl rfl (by decide +kernel) ⟨Nat.le_of_ble_eq_true rfl, Nat.le_of_ble_eq_true rfl⟩) 0 1 (wX1_g ..) rfl rfl rfl rfl (Nat.le_of_ble_eq_true rfl) ⟨Nat.le_of_ble_eq_true rfl, Nat.le_of_ble_eq_true rfl⟩ dX1_plan_17 (fun r17 s17 h => ?_)
  obtain ⟨h, hu17⟩ := h
  rw [hu17]
  refine aw_if_eq (tgt := 31) C dX1_plan_20 (by decide) (fun c20 => ?_) (fun c20 => ?_)
  · have h := h.1 c20
    obtain ⟨x4_31, ex4_31⟩ : ∃ y : Int32, y = x4 + 1 := ⟨_, rfl⟩
    have h := h x4_31 ex4_31
    refine aw_iinc (v := x4_31) (lv' := [(4, .int x4_31), (0, .ref o), (1, .int x1), (2, .int x2), (3, .int x3)]) C dX1_plan_31 4 rfl (by rw [ex4_31]; rfl) (by decide) rfl ?_
    refine aw_goto (tgt := 3) C dX1_plan_34 (by decide) ?_
    refine aw_lv [1, 2, 3, 4, 0] rfl ?_
    exact hkH x4_31 h
  have h := h.2 c20
  refine aw_lv [0, 4] rfl ?_
  exact hk23 x4 h
theorem tlX1_plan_3 (C : ctB p s0 m args c cX1_plan 5 RX1 wsX1_plan) (K : ctK s0 D A H0 cy) {o : Nat} {ad ln : Nat → Nat}  {s : St} {x1 : Int32} {x2 : Int32} {x3 : Int32} {k23 : Int32 → Prop} {k37 : Prop} (hk23 : ∀ (y4 : Int32), k23 y4 → atG p l e rmX1_plan s0 m args below meth c 0 0 Z 5 (iW D A H0 (wX1 cy o ad ln s)) [(0, .ref o), (4, .int y4)] [] 23) (hk37 : k37 → atG p l e rmX1_plan s0 m args below meth c 0 0 Z 5 (iW D A H0 (wX1 cy o ad ln s)) [(0, .ref o), (1, .int x1), (2, .int x2), (3, .int x3)] [] 37) (x4 : Int32) (h : lX1_plan_3 ln s x1 x2 x3 k23 k37 x4) : atG p l e rmX1_plan s0 m args below meth c 0 0 Z 5 (iW D A H0 (wX1 cy o ad ln s)) [(0, .ref o), (1, .int x1), (2, .int x2), (3, .int x3), (4, .int x4)] [] 3 :=
  lp_W (σ := Int32) (P := fun q => atG p l e rmX1_plan s0 m args below meth c 0 0 Z 5 (iW D A H0 (wX1 cy o ad ln s)) [(0, .ref o), (1, .int x1), (2, .int x2), (3, .int x3), (4, .int q)] [] 3) (fun K2 hK2 q hb => tbX1_plan_3 C K hk23 hk37 (fun x4 hk => hK2 x4 hk) q hb) x4 h
theorem eX1_plan (C : ctB p s0 m args c cX1_plan 5 RX1 wsX1_plan) (K : ctK s0 D A H0 cy) {o : Nat} {ad ln : Nat → Nat} {Q : Int32 → St → Prop} (hQ : ∀ (v : Int32) (u : St), Q v u → ∀ pc, decode cX1_plan pc = .ok (.ireturn, 1) → atG p l e rmX1_plan s0 m args below meth c 0 0 Z 5 (iW D A H0 (wX1 cy o ad ln u)) [] [.int v] pc) (s : St) (x1 : Int32) (x2 : Int32) (x3 : Int32) (h : pX1_plan ln s x1 x2 x3 Q) : atG p l e rmX1_plan s0 m args below meth c 0 0 Z 5 (iW D A H0 (wX1 cy o ad ln s)) [(0, .ref o), (1, .int x1), (2, .int x2), (3, .int x3)] [] 0 := by
  delta pX1_plan at h
  refine aw_iconst (v := 0) C dX1_plan_0 (by decide) ?_
  refine aw_istore (lv' := [(4, .int 0), (0, .ref o), (1, .int x1), (2, .int x2), (3, .int x3)]) C dX1_plan_1 (by decide) rfl ?_
  refine aw_lv [1, 2, 3, 4, 0] rfl ?_
  refine tlX1_plan_3 C K ?_ ?_ 0 h
  · intro z23_4 h
    refine aw_aload_n C dX1_plan_23 0 rfl ?_
    refine aw_iload C dX1_plan_24 1 rfl ?_
    refine aw_putX1 (ty := .int) C K inX1_plan_1 dX1_plan_26 15 (by decide) qX1_plan_fieldLink_RX1_59 0 (wX1_g ..) rfl (by decide +kernel) rfl rfl (Nat.le_of_ble_eq_true rfl) (wX1_p15 ..) ?_
    obtain ⟨s26, es26⟩ : ∃ z, z = (uF s 15 z23_4) := ⟨_, rfl⟩
    rw [← es26]
    have h := h s26 es26
    refine aw_iconst (v := 0) C dX1_plan_29 (by decide) ?_
    refine aw_lv [] rfl ?_
    exact hQ 0 s26 h 30 dX1_plan_30
  intro h
  refine aw_iload_n C dX1_plan_37 3 rfl ?_
  refine aw_if_eq (tgt := 50) C dX1_plan_38 (by decide) (fun c38 => ?_) (fun c38 => ?_)
  · have h := h.1 c38
    refine aw_ldc (v := (-1000000)) C dX1_plan_50 qX1_plan_constant_RX1_65_1000000 ?_
    refine aw_lv [] rfl ?_
    exact hQ (-1000000) s h 52 dX1_plan_52
  have h := h.2 c38
  refine aw_aload_n C dX1_plan_41 0 rfl ?_
  refine aw_iload_n C dX1_plan_42 1 rfl ?_
  refine aw_iload_n C dX1_plan_43 2 rfl ?_
  refine aw_callI (As := [.int x1, .int x2]) (rest := []) C K (mtX1_planMoves l D cy o ad ln s x1 x2 _ h) (cwV 2 C.2.2.2.2.1 gX1_plan_X1_planMoves rfl rfl rfl (by decide +kernel) ⟨Nat.le_of_ble_eq_true rfl, Nat.le_of_ble_eq_true rfl⟩) 0 1 (wX1_g ..) rfl rfl rfl rfl (Nat.le_of_ble_eq_true rfl) ⟨Nat.le_of_ble_eq_true rfl, Nat.le_of_ble_eq_true rfl⟩ dX1_plan_44 (fun r44 s44 h => ?_)
  refine aw_goto (tgt := 52) C dX1_plan_47 (by decide) ?_
  refine aw_lv [] rfl ?_
  exact hQ r44 s44 h 52 dX1_plan_52
end SX1_plan
theorem mtX1_plan (l : Launch) (D : va_G) (cy : Nat → ClassId) (o : Nat) (ad ln : Nat → Nat) (s : St) (x1 : Int32) (x2 : Int32) (x3 : Int32) (Q : Int32 → St → Prop) (hw : pX1_plan ln s x1 x2 x3 Q) : mI l yX1_plan wsX1_plan rmX1_plan D cy [.ref o, .int x1, .int x2, .int x3] (wX1 cy o ad ln s) (wX1 cy o ad ln) Q :=
  metI (Wd := wX1 cy o ad ln) ⟨rfl, rfl⟩ (by decide) rfl (Nat.le_of_ble_eq_true rfl) (fun C K hQ => eX1_plan C K hQ s x1 x2 x3 hw)
def rmX1_leaveLinks : Room := { frames := 1, cells := 0, slots := 0, locals := 22 }
theorem inX1_leaveLinks_1 : ∀ w ∈ wsX10, w ∈ wsX1_leaveLinks := fun w h => (List.mem_cons_of_mem _ (List.mem_append_right _ h))
theorem qX1_leaveLinks_fieldLink_RX1_38 : Cond.fieldLink RX1 38 "StageSwitch$Net" "fromFirst" "[I" ∈ wsX1_leaveLinks := (List.mem_cons_of_mem _ (List.mem_append_left _ (List.mem_of_getElem? (i := 0) rfl)))
theorem qX1_leaveLinks_fieldLink_RX1_32 : Cond.fieldLink RX1 32 "StageSwitch$Net" "middleOf" "[I" ∈ wsX1_leaveLinks := (List.mem_cons_of_mem _ (List.mem_append_left _ (List.mem_of_getElem? (i := 1) rfl)))
theorem qX1_leaveLinks_fieldLink_RX1_41 : Cond.fieldLink RX1 41 "StageSwitch$Net" "toLast" "[I" ∈ wsX1_leaveLinks := (List.mem_cons_of_mem _ (List.mem_append_left _ (List.mem_of_getElem? (i := 2) rfl)))
theorem qX1_leaveLinks_fieldLink_RX1_28 : Cond.fieldLink RX1 28 "StageSwitch$Net" "outOf" "[I" ∈ wsX1_leaveLinks := (List.mem_cons_of_mem _ (List.mem_append_left _ (List.mem_of_getElem? (i := 3) rfl)))
theorem qX1_leaveLinks_constant_RX1_65_1000000 : Cond.constant RX1 65 (-1000000) ∈ wsX1_leaveLinks := (List.mem_cons_of_mem _ (List.mem_append_left _ (List.mem_of_getElem? (i := 4) rfl)))
section SX1_leaveLinks
variable {p : Program} {l : Launch} {e : Env} {s0 : State} {m : MethodId} {args : Array Value} {below : List Frame} {meth : Method} {c : Code} {D : va_G} {A : Nat → Prop} {H0 : Heap} {cy : Nat → ClassId} {Z : State → Prop}
theorem eX1_leaveLinks (C : ctB p s0 m args c cX1_leaveLinks 2 RX1 wsX1_leaveLinks) (K : ctK s0 D A H0 cy) {o : Nat} {ad ln : Nat → Nat} {Q : St → Prop} (hQ : ∀ (u : St), Q u → ∀ pc, decode cX1_leaveLinks pc = .ok (.return_, 1) → atG p l e rmX1_leaveLinks s0 m args below meth c 0 0 Z 2 (iW D A H0 (wX1 cy o ad ln u)) [] [] pc) (s : St) (x1 : Int32) (h : pX1_leaveLinks ln s x1 Q) : atG p l e rmX1_leaveLinks s0 m args below meth c 0 0 Z 2 (iW D A H0 (wX1 cy o ad ln s)) [(0, .ref o), (1, .int x1)] [] 0 := by
  delta pX1_leaveLinks at h
  refine aw_aload_n C dX1_leaveLinks_0 0 rfl ?_
  refine aw_getX1 C K inX1_leaveLinks_1 dX1_leaveLinks_1 8 (by decide) qX1_leaveLinks_fieldLink_RX1_38 0 (wX1_g ..) rfl ?_
  refine aw_aload_n C dX1_leaveLinks_4 0 rfl ?_
  refine aw_aload_n C dX1_leaveLinks_5 0 rfl ?_
  refine aw_getX1 C K inX1_leaveLinks_1 dX1_leaveLinks_6 6 (by decide) qX1_leaveLinks_fieldLink_RX1_32 0 (wX1_g ..) rfl ?_
  refine aw_iload_n C dX1_leaveLinks_9 1 rfl ?_
  obtain ⟨b10, h⟩ := h
  refine aw_iald C K dX1_leaveLinks_10 3 (wX1_g6 ..) b10 ?_
  refine aw_iload_n C dX1_leaveLinks_11 1 rfl ?_
  refine aw_callI (As := [.int (sA s 6 x1.toNatClampNeg), .int x1]) (rest := [.ref (ad 8)]) C K (mtX1_link l D cy o ad ln s (sA s 6 x1.toNatClampNeg) x1 _ h) (cwV 2 C.2.2.2.2.1 gX1_leaveLinks_X1_link rfl rfl rfl (by decide +kernel) ⟨Nat.le_of_ble_eq_true rfl, Nat.le_of_ble_eq_true rfl⟩) 0 1 (wX1_g ..) rfl rfl rfl rfl (Nat.le_of_ble_eq_true rfl) ⟨Nat.le_of_ble_eq_true rfl, Nat.le_of_ble_eq_true rfl⟩ dX1_leaveLinks_12 (fun r12 s12 h => ?_)
  obtain ⟨h, hu12⟩ := h
  rw [hu12]
  refine aw_iconst (v := (-1)) C dX1_leaveLinks_15 (by decide) ?_
  obtain ⟨b16, h⟩ := h
  refine aw_iast C K dX1_leaveLinks_16 5 (wX1_g8 ..) (wX1_s8 ..) b16 ?_
  obtain ⟨s16, es16⟩ : ∃ z, z = (uA s 8 (upd (sA s 8) r12.toNatClampNeg (-1))) := ⟨_, rfl⟩
  rw [← es16]
  have h := h s16 es16
  refine aw_aload_n C dX1_leaveLinks_17 0 rfl ?_
  refine aw_getX1 C K inX1_leaveLinks_1 dX1_leaveLinks_18 9 (by decide) qX1_leaveLinks_fieldLink_RX1_41 0 (wX1_g ..) rfl ?_
  refine aw_aload_n C dX1_leaveLinks_21 0 rfl ?_
  refine aw_aload_n C dX1_leaveLinks_22 0 rfl ?_
  refine aw_getX1 C K inX1_leaveLinks_1 dX1_leaveLinks_23 6 (by decide) qX1_leaveLinks_fieldLink_RX1_32 0 (wX1_g ..) rfl ?_
  refine aw_iload_n C dX1_leaveLinks_26 1 rfl ?_
  obtain ⟨b27, h⟩ := h
  refine aw_iald C K dX1_leaveLinks_27 3 (wX1_g6 ..) b27 ?_
  refine aw_aload_n C dX1_leaveLinks_28 0 rfl ?_
  refine aw_getX1 C K inX1_leaveLinks_1 dX1_leaveLinks_29 5 (by decide) qX1_leaveLinks_fieldLink_RX1_28 0 (wX1_g ..) rfl ?_
  refine aw_iload_n C dX1_leaveLinks_32 1 rfl ?_
  obtain ⟨b33, h⟩ := h
  refine aw_iald C K dX1_leaveLinks_33 2 (wX1_g5 ..) b33 ?_
  refine aw_callI (As := [.int (sA s16 6 x1.toNatClampNeg), .int (sA s16 5 x1.toNatClampNeg)]) (rest := [.ref (ad 9)]) C K (mtX1_link l D cy o ad ln s16 (sA s16 6 x1.toNatClampNeg) (sA s16 5 x1.toNatClampNeg) _ h) (cwV 2 C.2.2.2.2.1 gX1_leaveLinks_X1_link rfl rfl rfl (by decide +kernel) ⟨Nat.le_of_ble_eq_true rfl, Nat.le_of_ble_eq_true rfl⟩) 0 1 (wX1_g ..) rfl rfl rfl rfl (Nat.le_of_ble_eq_true rfl) ⟨Nat.le_of_ble_eq_true rfl, Nat.le_of_ble_eq_true rfl⟩ dX1_leaveLinks_34 (fun r34 s34 h => ?_)
  obtain ⟨h, hu34⟩ := h
  rw [hu34]
  refine aw_iconst (v := (-1)) C dX1_leaveLinks_37 (by decide) ?_
  obtain ⟨b38, h⟩ := h
  refine aw_iast C K dX1_leaveLinks_38 6 (wX1_g9 ..) (wX1_s9 ..) b38 ?_
  obtain ⟨s38, es38⟩ : ∃ z, z = (uA s16 9 (upd (sA s16 9) r34.toNatClampNeg (-1))) := ⟨_, rfl⟩
  rw [← es38]
  have h := h s38 es38
  refine aw_aload_n C dX1_leaveLinks_39 0 rfl ?_
  refine aw_getX1 C K inX1_leaveLinks_1 dX1_leaveLinks_40 6 (by decide) qX1_leaveLinks_fieldLink_RX1_32 0 (wX1_g ..) rfl ?_
  refine aw_iload_n C dX1_leaveLinks_43 1 rfl ?_
  refine aw_ldc (v := (-1000000)) C dX1_leaveLinks_44 qX1_leaveLinks_constant_RX1_65_1000000 ?_
  obtain ⟨b46, h⟩ := h
  refine aw_iast C K dX1_leaveLinks_46 3 (wX1_g6 ..) (wX1_s6 ..) b46 ?_
  obtain ⟨s46, es46⟩ : ∃ z, z = (uA s38 6 (upd (sA s38 6) x1.toNatClampNeg (-1000000))) := ⟨_, rfl⟩
  rw [← es46]
  have h := h s46 es46
  refine aw_lv [] rfl ?_
  exact hQ s46 h 47 dX1_leaveLinks_47
end SX1_leaveLinks
theorem mtX1_leaveLinks (l : Launch) (D : va_G) (cy : Nat → ClassId) (o : Nat) (ad ln : Nat → Nat) (s : St) (x1 : Int32) (Q : St → Prop) (hw : pX1_leaveLinks ln s x1 Q) : mV l yX1_leaveLinks wsX1_leaveLinks rmX1_leaveLinks D cy [.ref o, .int x1] (wX1 cy o ad ln s) (wX1 cy o ad ln) Q :=
  metV (Wd := wX1 cy o ad ln) ⟨rfl, rfl⟩ (by decide) rfl (Nat.le_of_ble_eq_true rfl) (fun C K hQ => eX1_leaveLinks C K hQ s x1 hw)
def rmX1_takeLinks : Room := { frames := 1, cells := 0, slots := 0, locals := 22 }
theorem inX1_takeLinks_1 : ∀ w ∈ wsX10, w ∈ wsX1_takeLinks := fun w h => (List.mem_cons_of_mem _ (List.mem_append_right _ h))
theorem qX1_takeLinks_fieldLink_RX1_32 : Cond.fieldLink RX1 32 "StageSwitch$Net" "middleOf" "[I" ∈ wsX1_takeLinks := (List.mem_cons_of_mem _ (List.mem_append_left _ (List.mem_of_getElem? (i := 0) rfl)))
theorem qX1_takeLinks_fieldLink_RX1_38 : Cond.fieldLink RX1 38 "StageSwitch$Net" "fromFirst" "[I" ∈ wsX1_takeLinks := (List.mem_cons_of_mem _ (List.mem_append_left _ (List.mem_of_getElem? (i := 1) rfl)))
theorem qX1_takeLinks_fieldLink_RX1_41 : Cond.fieldLink RX1 41 "StageSwitch$Net" "toLast" "[I" ∈ wsX1_takeLinks := (List.mem_cons_of_mem _ (List.mem_append_left _ (List.mem_of_getElem? (i := 2) rfl)))
theorem qX1_takeLinks_fieldLink_RX1_28 : Cond.fieldLink RX1 28 "StageSwitch$Net" "outOf" "[I" ∈ wsX1_takeLinks := (List.mem_cons_of_mem _ (List.mem_append_left _ (List.mem_of_getElem? (i := 3) rfl)))
section SX1_takeLinks
variable {p : Program} {l : Launch} {e : Env} {s0 : State} {m : MethodId} {args : Array Value} {below : List Frame} {meth : Method} {c : Code} {D : va_G} {A : Nat → Prop} {H0 : Heap} {cy : Nat → ClassId} {Z : State → Prop}
theorem eX1_takeLinks (C : ctB p s0 m args c cX1_takeLinks 3 RX1 wsX1_takeLinks) (K : ctK s0 D A H0 cy) {o : Nat} {ad ln : Nat → Nat} {Q : St → Prop} (hQ : ∀ (u : St), Q u → ∀ pc, decode cX1_takeLinks pc = .ok (.return_, 1) → atG p l e rmX1_takeLinks s0 m args below meth c 0 0 Z 3 (iW D A H0 (wX1 cy o ad ln u)) [] [] pc) (s : St) (x1 : Int32) (x2 : Int32) (h : pX1_takeLinks ln s x1 x2 Q) : atG p l e rmX1_takeLinks s0 m args below meth c 0 0 Z 3 (iW D A H0 (wX1 cy o ad ln s)) [(0, .ref o), (1, .int x1), (2, .int x2)] [] 0 := by
  delta pX1_takeLinks at h
  refine aw_aload_n C dX1_takeLinks_0 0 rfl ?_
  refine aw_getX1 C K inX1_takeLinks_1 dX1_takeLinks_1 6 (by decide) qX1_takeLinks_fieldLink_RX1_32 0 (wX1_g ..) rfl ?_
  refine aw_iload_n C dX1_takeLinks_4 1 rfl ?_
  refine aw_iload_n C dX1_takeLinks_5 2 rfl ?_
  obtain ⟨b6, h⟩ := h
  refine aw_iast C K dX1_takeLinks_6 3 (wX1_g6 ..) (wX1_s6 ..) b6 ?_
  obtain ⟨s6, es6⟩ : ∃ z, z = (uA s 6 (upd (sA s 6) x1.toNatClampNeg x2)) := ⟨_, rfl⟩
  rw [← es6]
  have h := h s6 es6
  refine aw_aload_n C dX1_takeLinks_7 0 rfl ?_
  refine aw_getX1 C K inX1_takeLinks_1 dX1_takeLinks_8 8 (by decide) qX1_takeLinks_fieldLink_RX1_38 0 (wX1_g ..) rfl ?_
  refine aw_aload_n C dX1_takeLinks_11 0 rfl ?_
  refine aw_iload_n C dX1_takeLinks_12 2 rfl ?_
  refine aw_iload_n C dX1_takeLinks_13 1 rfl ?_
  refine aw_callI (As := [.int x2, .int x1]) (rest := [.ref (ad 8)]) C K (mtX1_link l D cy o ad ln s6 x2 x1 _ h) (cwV 2 C.2.2.2.2.1 gX1_takeLinks_X1_link rfl rfl rfl (by decide +kernel) ⟨Nat.le_of_ble_eq_true rfl, Nat.le_of_ble_eq_true rfl⟩) 0 1 (wX1_g ..) rfl rfl rfl rfl (Nat.le_of_ble_eq_true rfl) ⟨Nat.le_of_ble_eq_true rfl, Nat.le_of_ble_eq_true rfl⟩ dX1_takeLinks_14 (fun r14 s14 h => ?_)
  obtain ⟨h, hu14⟩ := h
  rw [hu14]
  refine aw_iload_n C dX1_takeLinks_17 1 rfl ?_
  obtain ⟨b18, h⟩ := h
  refine aw_iast C K dX1_takeLinks_18 5 (wX1_g8 ..) (wX1_s8 ..) b18 ?_
  obtain ⟨s18, es18⟩ : ∃ z, z = (uA s6 8 (upd (sA s6 8) r14.toNatClampNeg x1)) := ⟨_, rfl⟩
  rw [← es18]
  have h := h s18 es18
  refine aw_aload_n C dX1_takeLinks_19 0 rfl ?_
  refine aw_getX1 C K inX1_takeLinks_1 dX1_takeLinks_20 9 (by decide) qX1_takeLinks_fieldLink_RX1_41 0 (wX1_g ..) rfl ?_
  refine aw_aload_n C dX1_takeLinks_23 0 rfl ?_
  refine aw_iload_n C dX1_takeLinks_24 2 rfl ?_
  refine aw_aload_n C dX1_takeLinks_25 0 rfl ?_
  refine aw_getX1 C K inX1_takeLinks_1 dX1_takeLinks_26 5 (by decide) qX1_takeLinks_fieldLink_RX1_28 0 (wX1_g ..) rfl ?_
  refine aw_iload_n C dX1_takeLinks_29 1 rfl ?_
  obtain ⟨b30, h⟩ := h
  refine aw_iald C K dX1_takeLinks_30 2 (wX1_g5 ..) b30 ?_
  refine aw_callI (As := [.int x2, .int (sA s18 5 x1.toNatClampNeg)]) (rest := [.ref (ad 9)]) C K (mtX1_link l D cy o ad ln s18 x2 (sA s18 5 x1.toNatClampNeg) _ h) (cwV 2 C.2.2.2.2.1 gX1_takeLinks_X1_link rfl rfl rfl (by decide +kernel) ⟨Nat.le_of_ble_eq_true rfl, Nat.le_of_ble_eq_true rfl⟩) 0 1 (wX1_g ..) rfl rfl rfl rfl (Nat.le_of_ble_eq_true rfl) ⟨Nat.le_of_ble_eq_true rfl, Nat.le_of_ble_eq_true rfl⟩ dX1_takeLinks_31 (fun r31 s31 h => ?_)
  obtain ⟨h, hu31⟩ := h
  rw [hu31]
  refine aw_iload_n C dX1_takeLinks_34 1 rfl ?_
  obtain ⟨b35, h⟩ := h
  refine aw_iast C K dX1_takeLinks_35 6 (wX1_g9 ..) (wX1_s9 ..) b35 ?_
  obtain ⟨s35, es35⟩ : ∃ z, z = (uA s18 9 (upd (sA s18 9) r31.toNatClampNeg x1)) := ⟨_, rfl⟩
  rw [← es35]
  have h := h s35 es35
  refine aw_lv [] rfl ?_
  exact hQ s35 h 36 dX1_takeLinks_36
end SX1_takeLinks
theorem mtX1_takeLinks (l : Launch) (D : va_G) (cy : Nat → ClassId) (o : Nat) (ad ln : Nat → Nat) (s : St) (x1 : Int32) (x2 : Int32) (Q : St → Prop) (hw : pX1_takeLinks ln s x1 x2 Q) : mV l yX1_takeLinks wsX1_takeLinks rmX1_takeLinks D cy [.ref o, .int x1, .int x2] (wX1 cy o ad ln s) (wX1 cy o ad ln) Q :=
  metV (Wd := wX1 cy o ad ln) ⟨rfl, rfl⟩ (by decide) rfl (Nat.le_of_ble_eq_true rfl) (fun C K hQ => eX1_takeLinks C K hQ s x1 x2 hw)
def rmX1_swapChain : Room := { frames := 2, cells := 0, slots := 0, locals := 48 }
theorem inX1_swapChain_1 : ∀ w ∈ wsX10, w ∈ wsX1_swapChain := fun w h => (List.mem_cons_of_mem _ (List.mem_append_right _ h))
theorem qX1_swapChain_fieldLink_RX1_44 : Cond.fieldLink RX1 44 "StageSwitch$Net" "chain" "[I" ∈ wsX1_swapChain := (List.mem_cons_of_mem _ (List.mem_append_left _ (List.mem_append_left _ (List.mem_of_getElem? (i := 0) rfl))))
section SX1_swapChain
variable {p : Program} {l : Launch} {e : Env} {s0 : State} {m : MethodId} {args : Array Value} {below : List Frame} {meth : Method} {c : Code} {D : va_G} {A : Nat → Prop} {H0 : Heap} {cy : Nat → ClassId} {Z : State → Prop}
theorem tbX1_swapChain_12 (C : ctB p s0 m args c cX1_swapChain 6 RX1 wsX1_swapChain) (K : ctK s0 D A H0 cy) {o : Nat} {ad ln : Nat → Nat}  {x1 : Int32} {x2 : Int32} {x4 : Int32} {k36 : St → Prop} (hk36 : ∀ (s : St), k36 s → atG p l e rmX1_swapChain s0 m args below meth c 0 0 Z 6 (iW D A H0 (wX1 cy o ad ln s)) [(0, .ref o), (1, .int x1), (2, .int x2), (4, .int x4)] [] 36) {kH : St → Int32 → Prop} (hkH : ∀ (s : St) (y5 : Int32), kH s y5 → atG p l e rmX1_swapChain s0 m args below meth c 0 0 Z 6 (iW D A H0 (wX1 cy o ad ln s)) [(0, .ref o), (1, .int x1), (2, .int x2), (4, .int x4), (5, .int y5)] [] 12) (s : St) (x5 : Int32) (h : bX1_swapChain_12 ln x1 x2 x4 k36 kH s x5) : atG p l e rmX1_swapChain s0 m args below meth c 0 0 Z 6 (iW D A H0 (wX1 cy o ad ln s)) [(0, .ref o), (1, .int x1), (2, .int x2), (4, .int x4), (5, .int x5)] [] 12 := by
  delta bX1_swapChain_12 at h
  refine aw_iload C dX1_swapChain_12 4 rfl ?_
  refine aw_iload C dX1_swapChain_14 3 rfl ?_
  refine aw_icmp_ge (tgt := 36) C dX1_swapChain_16 (by decide) (fun c16 => ?_) (fun c16 => ?_)
  · have h := h.1 c16
    refine aw_lv [0, 1, 2, 3] rfl ?_
    exact hk36 s h
  have h := h.2 c16
  refine aw_aload_n C dX1_swapChain_19 0 rfl ?_
  refine aw_aload_n C dX1_swapChain_20 0 rfl ?_
  refine aw_getX1 C K inX1_swapChain_1 dX1_swapChain_21 10 (by decide) qX1_swapChain_fieldLink_RX1_44 0 (wX1_g ..) rfl ?_
  refine aw_iload C dX1_swapChain_24 4 rfl ?_
  obtain ⟨b26, h⟩ := h
  refine aw_iald C K dX1_swapChain_26 7 (wX1_g10 ..) b26 ?_
  refine aw_callV (As := [.int (sA s 10 x5.toNatClampNeg)]) (rest := []) C K (mtX1_leaveLinks l D cy o ad ln s (sA s 10 x5.toNatClampNeg) _ h) (cwV 1 C.2.2.2.2.1 gX1_swapChain_X1_leaveLinks rfl rfl rfl (by decide +kernel) ⟨Nat.le_of_ble_eq_true rfl, Nat.le_of_ble_eq_true rfl⟩) 0 1 (wX1_g ..) rfl rfl rfl rfl (Nat.le_of_ble_eq_true rfl) ⟨Nat.le_of_ble_eq_true rfl, Nat.le_of_ble_eq_true rfl⟩ dX1_swapChain_27 (fun s27 h => ?_)
  obtain ⟨x5_30, ex5_30⟩ : ∃ y : Int32, y = x5 + 1 := ⟨_, rfl⟩
  have h := h x5_30 ex5_30
  refine aw_iinc (v := x5_30) (lv' := [(5, .int x5_30), (0, .ref o), (1, .int x1), (2, .int x2), (4, .int x4)]) C dX1_swapChain_30 4 rfl (by rw [ex5_30]; rfl) (by decide) rfl ?_
  refine aw_goto (tgt := 12) C dX1_swapChain_33 (by decide) ?_
  refine aw_lv [1, 2, 3, 4, 0] rfl ?_
  exact hkH s27 x5_30 h
theorem tlX1_swapChain_12 (C : ctB p s0 m args c cX1_swapChain 6 RX1 wsX1_swapChain) (K : ctK s0 D A H0 cy) {o : Nat} {ad ln : Nat → Nat}  {x1 : Int32} {x2 : Int32} {x4 : Int32} {k36 : St → Prop} (hk36 : ∀ (s : St), k36 s → atG p l e rmX1_swapChain s0 m args below meth c 0 0 Z 6 (iW D A H0 (wX1 cy o ad ln s)) [(0, .ref o), (1, .int x1), (2, .int x2), (4, .int x4)] [] 36) (s : St) (x5 : Int32) (h : lX1_swapChain_12 ln x1 x2 x4 k36 s x5) : atG p l e rmX1_swapChain s0 m args below meth c 0 0 Z 6 (iW D A H0 (wX1 cy o ad ln s)) [(0, .ref o), (1, .int x1), (2, .int x2), (4, .int x4), (5, .int x5)] [] 12 :=
  lp_W (σ := St × Int32) (P := fun q => atG p l e rmX1_swapChain s0 m args below meth c 0 0 Z 6 (iW D A H0 (wX1 cy o ad ln q.1)) [(0, .ref o), (1, .int x1), (2, .int x2), (4, .int x4), (5, .int q.2)] [] 12) (fun K2 hK2 q hb => tbX1_swapChain_12 C K hk36 (fun s x5 hk => hK2 (s, x5) hk) q.1 q.2 hb) (s, x5) h
theorem tbX1_swapChain_39 (C : ctB p s0 m args c cX1_swapChain 6 RX1 wsX1_swapChain) (K : ctK s0 D A H0 cy) {o : Nat} {ad ln : Nat → Nat}  {x1 : Int32} {x2 : Int32} {x4 : Int32} {k75 : St → Prop} (hk75 : ∀ (s : St), k75 s → atG p l e rmX1_swapChain s0 m args below meth c 0 0 Z 6 (iW D A H0 (wX1 cy o ad ln s)) [(0, .ref o)] [] 75) {kH : St → Int32 → Prop} (hkH : ∀ (s : St) (y5 : Int32), kH s y5 → atG p l e rmX1_swapChain s0 m args below meth c 0 0 Z 6 (iW D A H0 (wX1 cy o ad ln s)) [(0, .ref o), (1, .int x1), (2, .int x2), (4, .int x4), (5, .int y5)] [] 39) (s : St) (x5 : Int32) (h : bX1_swapChain_39 ln x1 x2 x4 k75 kH s x5) : atG p l e rmX1_swapChain s0 m args below meth c 0 0 Z 6 (iW D A H0 (wX1 cy o ad ln s)) [(0, .ref o), (1, .int x1), (2, .int x2), (4, .int x4), (5, .int x5)] [] 39 := by
  delta bX1_swapChain_39 at h
  refine aw_iload C dX1_swapChain_39 4 rfl ?_
  refine aw_iload C dX1_swapChain_41 3 rfl ?_
  refine aw_icmp_ge (tgt := 75) C dX1_swapChain_43 (by decide) (fun c43 => ?_) (fun c43 => ?_)
  · have h := h.1 c43
    refine aw_lv [0] rfl ?_
    exact hk75 s h
  have h := h.2 c43
  refine aw_aload_n C dX1_swapChain_46 0 rfl ?_
  refine aw_aload_n C dX1_swapChain_47 0 rfl ?_
  refine aw_getX1 C K inX1_swapChain_1 dX1_swapChain_48 10 (by decide) qX1_swapChain_fieldLink_RX1_44 0 (wX1_g ..) rfl ?_
  refine aw_iload C dX1_swapChain_51 4 rfl ?_
  obtain ⟨b53, h⟩ := h
  refine aw_iald C K dX1_swapChain_53 7 (wX1_g10 ..) b53 ?_
  refine aw_iload C dX1_swapChain_54 4 rfl ?_
  refine aw_iconst (v := 2) C dX1_swapChain_56 (by decide) ?_
  refine aw_irem C dX1_swapChain_57 (by decide) ?_
  refine aw_if_ne (tgt := 65) C dX1_swapChain_58 (by decide) (fun c58 => ?_) (fun c58 => ?_)
  · have h := h.2 c58
    refine aw_iload_n C dX1_swapChain_65 1 rfl ?_
    refine aw_callV (As := [.int (sA s 10 x5.toNatClampNeg), .int x1]) (rest := []) C K (mtX1_takeLinks l D cy o ad ln s (sA s 10 x5.toNatClampNeg) x1 _ h) (cwV 2 C.2.2.2.2.1 gX1_swapChain_X1_takeLinks rfl rfl rfl (by decide +kernel) ⟨Nat.le_of_ble_eq_true rfl, Nat.le_of_ble_eq_true rfl⟩) 0 1 (wX1_g ..) rfl rfl rfl rfl (Nat.le_of_ble_eq_true rfl) ⟨Nat.le_of_ble_eq_true rfl, Nat.le_of_ble_eq_true rfl⟩ dX1_swapChain_66 (fun s66 h => ?_)
    obtain ⟨x5_69, ex5_69⟩ : ∃ y : Int32, y = x5 + 1 := ⟨_, rfl⟩
    have h := h x5_69 ex5_69
    refine aw_iinc (v := x5_69) (lv' := [(5, .int x5_69), (0, .ref o), (1, .int x1), (2, .int x2), (4, .int x4)]) C dX1_swapChain_69 4 rfl (by rw [ex5_69]; rfl) (by decide) rfl ?_
    refine aw_goto (tgt := 39) C dX1_swapChain_72 (by decide) ?_
    refine aw_lv [1, 2, 3, 4, 0] rfl ?_
    exact hkH s66 x5_69 h
  have h := h.1 c58
  refine aw_iload_n C dX1_swapChain_61 2 rfl ?_
  refine aw_goto (tgt := 66) C dX1_swapChain_62 (by decide) ?_
  refine aw_callV (As := [.int (sA s 10 x5.toNatClampNeg), .int x2]) (rest := []) C K (mtX1_takeLinks l D cy o ad ln s (sA s 10 x5.toNatClampNeg) x2 _ h) (cwV 2 C.2.2.2.2.1 gX1_swapChain_X1_takeLinks rfl rfl rfl (by decide +kernel) ⟨Nat.le_of_ble_eq_true rfl, Nat.le_of_ble_eq_true rfl⟩) 0 1 (wX1_g ..) rfl rfl rfl rfl (Nat.le_of_ble_eq_true rfl) ⟨Nat.le_of_ble_eq_true rfl, Nat.le_of_ble_eq_true rfl⟩ dX1_swapChain_66 (fun s66 h => ?_)
  obtain ⟨x5_69, ex5_69⟩ : ∃ y : Int32, y = x5 + 1 := ⟨_, rfl⟩
  have h := h x5_69 ex5_69
  refine aw_iinc (v := x5_69) (lv' := [(5, .int x5_69), (0, .ref o), (1, .int x1), (2, .int x2), (4, .int x4)]) C dX1_swapChain_69 4 rfl (by rw [ex5_69]; rfl) (by decide) rfl ?_
  refine aw_goto (tgt := 39) C dX1_swapChain_72 (by decide) ?_
  refine aw_lv [1, 2, 3, 4, 0] rfl ?_
  exact hkH s66 x5_69 h
theorem tlX1_swapChain_39 (C : ctB p s0 m args c cX1_swapChain 6 RX1 wsX1_swapChain) (K : ctK s0 D A H0 cy) {o : Nat} {ad ln : Nat → Nat}  {x1 : Int32} {x2 : Int32} {x4 : Int32} {k75 : St → Prop} (hk75 : ∀ (s : St), k75 s → atG p l e rmX1_swapChain s0 m args below meth c 0 0 Z 6 (iW D A H0 (wX1 cy o ad ln s)) [(0, .ref o)] [] 75) (s : St) (x5 : Int32) (h : lX1_swapChain_39 ln x1 x2 x4 k75 s x5) : atG p l e rmX1_swapChain s0 m args below meth c 0 0 Z 6 (iW D A H0 (wX1 cy o ad ln s)) [(0, .ref o), (1, .int x1), (2, .int x2), (4, .int x4), (5, .int x5)] [] 39 :=
  lp_W (σ := St × Int32) (P := fun q => atG p l e rmX1_swapChain s0 m args below meth c 0 0 Z 6 (iW D A H0 (wX1 cy o ad ln q.1)) [(0, .ref o), (1, .int x1), (2, .int x2), (4, .int x4), (5, .int q.2)] [] 39) (fun K2 hK2 q hb => tbX1_swapChain_39 C K hk75 (fun s x5 hk => hK2 (s, x5) hk) q.1 q.2 hb) (s, x5) h
theorem eX1_swapChain (C : ctB p s0 m args c cX1_swapChain 6 RX1 wsX1_swapChain) (K : ctK s0 D A H0 cy) {o : Nat} {ad ln : Nat → Nat} {Q : St → Prop} (hQ : ∀ (u : St), Q u → ∀ pc, decode cX1_swapChain pc = .ok (.return_, 1) → atG p l e rmX1_swapChain s0 m args below meth c 0 0 Z 6 (iW D A H0 (wX1 cy o ad ln u)) [] [] pc) (s : St) (x1 : Int32) (x2 : Int32) (x3 : Int32) (h : pX1_swapChain ln s x1 x2 x3 Q) : atG p l e rmX1_swapChain s0 m args below meth c 0 0 Z 6 (iW D A H0 (wX1 cy o ad ln s)) [(0, .ref o), (1, .int x1), (2, .int x2), (3, .int x3)] [] 0 := by
  delta pX1_swapChain at h
  refine aw_aload_n C dX1_swapChain_0 0 rfl ?_
  refine aw_iload_n C dX1_swapChain_1 1 rfl ?_
  refine aw_iload_n C dX1_swapChain_2 2 rfl ?_
  refine aw_iload_n C dX1_swapChain_3 3 rfl ?_
  refine aw_callI (As := [.int x1, .int x2, .int x3]) (rest := []) C K (mtX1_walkChain l D cy o ad ln s x1 x2 x3 _ h) (cwV 3 C.2.2.2.2.1 gX1_swapChain_X1_walkChain rfl rfl rfl (by decide +kernel) ⟨Nat.le_of_ble_eq_true rfl, Nat.le_of_ble_eq_true rfl⟩) 0 1 (wX1_g ..) rfl rfl rfl rfl (Nat.le_of_ble_eq_true rfl) ⟨Nat.le_of_ble_eq_true rfl, Nat.le_of_ble_eq_true rfl⟩ dX1_swapChain_4 (fun r4 s4 h => ?_)
  refine aw_istore (lv' := [(4, .int r4), (0, .ref o), (1, .int x1), (2, .int x2), (3, .int x3)]) C dX1_swapChain_7 (by decide) rfl ?_
  refine aw_iconst (v := 0) C dX1_swapChain_9 (by decide) ?_
  refine aw_istore (lv' := [(5, .int 0), (4, .int r4), (0, .ref o), (1, .int x1), (2, .int x2), (3, .int x3)]) C dX1_swapChain_10 (by decide) rfl ?_
  refine aw_lv [2, 3, 4, 1, 0] rfl ?_
  refine tlX1_swapChain_12 C K ?_ s4 0 h
  intro s_36 h
  refine aw_iconst (v := 0) C dX1_swapChain_36 (by decide) ?_
  refine aw_istore (lv' := [(5, .int 0), (0, .ref o), (1, .int x1), (2, .int x2), (4, .int r4)]) C dX1_swapChain_37 (by decide) rfl ?_
  refine aw_lv [1, 2, 3, 4, 0] rfl ?_
  refine tlX1_swapChain_39 C K ?_ s_36 0 h
  intro s_75 h
  refine aw_lv [] rfl ?_
  exact hQ s_75 h 75 dX1_swapChain_75
end SX1_swapChain
theorem mtX1_swapChain (l : Launch) (D : va_G) (cy : Nat → ClassId) (o : Nat) (ad ln : Nat → Nat) (s : St) (x1 : Int32) (x2 : Int32) (x3 : Int32) (Q : St → Prop) (hw : pX1_swapChain ln s x1 x2 x3 Q) : mV l yX1_swapChain wsX1_swapChain rmX1_swapChain D cy [.ref o, .int x1, .int x2, .int x3] (wX1 cy o ad ln s) (wX1 cy o ad ln) Q :=
  metV (Wd := wX1 cy o ad ln) ⟨rfl, rfl⟩ (by decide) rfl (Nat.le_of_ble_eq_true rfl) (fun C K hQ => eX1_swapChain C K hQ s x1 x2 x3 hw)
def rmX1_setUp : Room := { frames := 4, cells := 0, slots := 0, locals := 98 }
theorem inX1_setUp_1 : ∀ w ∈ wsX10, w ∈ wsX1_setUp := fun w h => (List.mem_cons_of_mem _ (List.mem_append_right _ h))
theorem qX1_setUp_constant_RX1_65_1000000 : Cond.constant RX1 65 (-1000000) ∈ wsX1_setUp := (List.mem_cons_of_mem _ (List.mem_append_left _ (List.mem_append_left _ (List.mem_of_getElem? (i := 0) rfl))))
theorem qX1_setUp_fieldLink_RX1_28 : Cond.fieldLink RX1 28 "StageSwitch$Net" "outOf" "[I" ∈ wsX1_setUp := (List.mem_cons_of_mem _ (List.mem_append_left _ (List.mem_append_left _ (List.mem_of_getElem? (i := 3) rfl))))
theorem qX1_setUp_fieldLink_RX1_35 : Cond.fieldLink RX1 35 "StageSwitch$Net" "outTaken" "[Z" ∈ wsX1_setUp := (List.mem_cons_of_mem _ (List.mem_append_left _ (List.mem_append_left _ (List.mem_of_getElem? (i := 4) rfl))))
theorem qX1_setUp_fieldLink_RX1_56 : Cond.fieldLink RX1 56 "StageSwitch$Net" "calls" "I" ∈ wsX1_setUp := (List.mem_cons_of_mem _ (List.mem_append_left _ (List.mem_append_left _ (List.mem_of_getElem? (i := 5) rfl))))
theorem qX1_setUp_fieldLink_RX1_59 : Cond.fieldLink RX1 59 "StageSwitch$Net" "plannedX" "I" ∈ wsX1_setUp := (List.mem_cons_of_mem _ (List.mem_append_left _ (List.mem_append_left _ (List.mem_of_getElem? (i := 1) rfl))))
theorem qX1_setUp_fieldLink_RX1_62 : Cond.fieldLink RX1 62 "StageSwitch$Net" "plannedY" "I" ∈ wsX1_setUp := (List.mem_cons_of_mem _ (List.mem_append_left _ (List.mem_append_left _ (List.mem_of_getElem? (i := 2) rfl))))
section SX1_setUp
variable {p : Program} {l : Launch} {e : Env} {s0 : State} {m : MethodId} {args : Array Value} {below : List Frame} {meth : Method} {c : Code} {D : va_G} {A : Nat → Prop} {H0 : Heap} {cy : Nat → ClassId} {Z : State → Prop}
theorem eX1_setUp (C : ctB p s0 m args c cX1_setUp 5 RX1 wsX1_setUp) (K : ctK s0 D A H0 cy) {o : Nat} {ad ln : Nat → Nat} {Q : Int32 → St → Prop} (hQ : ∀ (v : Int32) (u : St), Q v u → ∀ pc, decode cX1_setUp pc = .ok (.ireturn, 1) → atG p l e rmX1_setUp s0 m args below meth c 0 0 Z 5 (iW D A H0 (wX1 cy o ad ln u)) [] [.int v] pc) (s : St) (x1 : Int32) (x2 : Int32) (x3 : Int32) (h : pX1_setUp ln s x1 x2 x3 Q) : atG p l e rmX1_setUp s0 m args below meth c 0 0 Z 5 (iW D A H0 (wX1 cy o ad ln s)) [(0, .ref o), (1, .int x1), (2, .int x2), (3, .int x3)] [] 0 := by
  delta pX1_setUp at h
  refine aw_aload_n C dX1_setUp_0 0 rfl ?_
  refine aw_iload_n C dX1_setUp_1 1 rfl ?_
  refine aw_iload_n C dX1_setUp_2 2 rfl ?_
  refine aw_iload_n C dX1_setUp_3 3 rfl ?_
  refine aw_callI (As := [.int x1, .int x2, .int x3]) (rest := []) C K (mtX1_plan l D cy o ad ln s x1 x2 x3 _ h) (cwV 3 C.2.2.2.2.1 gX1_setUp_X1_plan rfl rfl rfl (by decide +kernel) ⟨Nat.le_of_ble_eq_true rfl, Nat.le_of_ble_eq_true rfl⟩) 0 1 (wX1_g ..) rfl rfl rfl rfl (Nat.le_of_ble_eq_true rfl) ⟨Nat.le_of_ble_eq_true rfl, Nat.le_of_ble_eq_true rfl⟩ dX1_setUp_4 (fun r4 s4 h => ?_)
  refine aw_istore (lv' := [(4, .int r4), (0, .ref o), (1, .int x1), (2, .int x2), (3, .int x3)]) C dX1_setUp_7 (by decide) rfl ?_
  refine aw_iload C dX1_setUp_9 0 rfl ?_
  refine aw_ldc (v := (-1000000)) C dX1_setUp_11 qX1_setUp_constant_RX1_65_1000000 ?_
  refine aw_icmp_ne (tgt := 19) C dX1_setUp_13 (by decide) (fun c13 => ?_) (fun c13 => ?_)
  · have h := h.2 c13
    refine aw_iload C dX1_setUp_19 0 rfl ?_
    refine aw_if_le (tgt := 37) C dX1_setUp_21 (by decide) (fun c21 => ?_) (fun c21 => ?_)
    · have h := h.1 c21
      refine aw_aload_n C dX1_setUp_37 1 rfl ?_
      refine aw_getX1 C K inX1_setUp_1 dX1_setUp_38 5 (by decide) qX1_setUp_fieldLink_RX1_28 0 (wX1_g ..) rfl ?_
      refine aw_iload_n C dX1_setUp_41 2 rfl ?_
      refine aw_iload_n C dX1_setUp_42 3 rfl ?_
      obtain ⟨b43, h⟩ := h
      refine aw_iast C K dX1_setUp_43 2 (wX1_g5 ..) (wX1_s5 ..) b43 ?_
      obtain ⟨s43, es43⟩ : ∃ z, z = (uA s4 5 (upd (sA s4 5) x1.toNatClampNeg x2)) := ⟨_, rfl⟩
      rw [← es43]
      have h := h s43 es43
      refine aw_aload_n C dX1_setUp_44 1 rfl ?_
      refine aw_getX1 C K inX1_setUp_1 dX1_setUp_45 7 (by decide) qX1_setUp_fieldLink_RX1_35 0 (wX1_g ..) rfl ?_
      refine aw_iload_n C dX1_setUp_48 3 rfl ?_
      refine aw_iconst (v := 1) C dX1_setUp_49 (by decide) ?_
      obtain ⟨b50, h⟩ := h
      refine aw_zast C K dX1_setUp_50 4 (wX1_g7 ..) (wX1_s7 ..) b50 ?_
      obtain ⟨s50, es50⟩ : ∃ z, z = (uA s43 7 (upd (sA s43 7) x2.toNatClampNeg (vp_nar .boolean 1))) := ⟨_, rfl⟩
      rw [← es50]
      have h := h s50 es50
      refine aw_aload_n C dX1_setUp_51 1 rfl ?_
      refine aw_dup C dX1_setUp_52 rfl ?_
      refine aw_getX1 C K inX1_setUp_1 dX1_setUp_53 14 (by decide) qX1_setUp_fieldLink_RX1_56 0 (wX1_g ..) rfl ?_
      refine aw_iconst (v := 1) C dX1_setUp_56 (by decide) ?_
      refine aw_iadd C dX1_setUp_57 ?_
      refine aw_putX1 (ty := .int) C K inX1_setUp_1 dX1_setUp_58 14 (by decide) qX1_setUp_fieldLink_RX1_56 0 (wX1_g ..) rfl (by decide +kernel) rfl rfl (Nat.le_of_ble_eq_true rfl) (wX1_p14 ..) ?_
      obtain ⟨s58, es58⟩ : ∃ z, z = (uF s50 14 ((sF s50 14) + 1)) := ⟨_, rfl⟩
      rw [← es58]
      have h := h s58 es58
      refine aw_aload_n C dX1_setUp_61 1 rfl ?_
      refine aw_iload_n C dX1_setUp_62 2 rfl ?_
      refine aw_aload_n C dX1_setUp_63 1 rfl ?_
      refine aw_getX1 C K inX1_setUp_1 dX1_setUp_64 15 (by decide) qX1_setUp_fieldLink_RX1_59 0 (wX1_g ..) rfl ?_
      refine aw_callV (As := [.int x1, .int (sF s58 15)]) (rest := []) C K (mtX1_takeLinks l D cy o ad ln s58 x1 (sF s58 15) _ h) (cwV 2 C.2.2.2.2.1 gX1_setUp_X1_takeLinks rfl rfl rfl (by decide +kernel) ⟨Nat.le_of_ble_eq_true rfl, Nat.le_of_ble_eq_true rfl⟩) 0 1 (wX1_g ..) rfl rfl rfl rfl (Nat.le_of_ble_eq_true rfl) ⟨Nat.le_of_ble_eq_true rfl, Nat.le_of_ble_eq_true rfl⟩ dX1_setUp_67 (fun s67 h => ?_)
      refine aw_iload C dX1_setUp_70 0 rfl ?_
      refine aw_lv [] rfl ?_
      exact hQ r4 s67 h 72 dX1_setUp_72
    have h := h.2 c21
    refine aw_aload_n C dX1_setUp_24 1 rfl ?_
    refine aw_aload_n C dX1_setUp_25 1 rfl ?_
    refine aw_getX1 C K inX1_setUp_1 dX1_setUp_26 15 (by decide) qX1_setUp_fieldLink_RX1_59 0 (wX1_g ..) rfl ?_
    refine aw_aload_n C dX1_setUp_29 1 rfl ?_
    refine aw_getX1 C K inX1_setUp_1 dX1_setUp_30 16 (by decide) qX1_setUp_fieldLink_RX1_62 0 (wX1_g ..) rfl ?_
    refine aw_iload_n C dX1_setUp_33 3 rfl ?_
    refine aw_callV (As := [.int (sF s4 15), .int (sF s4 16), .int x2]) (rest := []) C K (mtX1_swapChain l D cy o ad ln s4 (sF s4 15) (sF s4 16) x2 _ h) (cwV 3 C.2.2.2.2.1 gX1_setUp_X1_swapChain rfl rfl rfl (by decide +kernel) ⟨Nat.le_of_ble_eq_true rfl, Nat.le_of_ble_eq_true rfl⟩) 0 1 (wX1_g ..) rfl rfl rfl rfl (Nat.le_of_ble_eq_true rfl) ⟨Nat.le_of_ble_eq_true rfl, Nat.le_of_ble_eq_true rfl⟩ dX1_setUp_34 (fun s34 h => ?_)
    refine aw_aload_n C dX1_setUp_37 1 rfl ?_
    refine aw_getX1 C K inX1_setUp_1 dX1_setUp_38 5 (by decide) qX1_setUp_fieldLink_RX1_28 0 (wX1_g ..) rfl ?_
    refine aw_iload_n C dX1_setUp_41 2 rfl ?_
    refine aw_iload_n C dX1_setUp_42 3 rfl ?_
    obtain ⟨b43, h⟩ := h
    refine aw_iast C K dX1_setUp_43 2 (wX1_g5 ..) (wX1_s5 ..) b43 ?_
    obtain ⟨s43, es43⟩ : ∃ z, z = (uA s34 5 (upd (sA s34 5) x1.toNatClampNeg x2)) := ⟨_, rfl⟩
    rw [← es43]
    have h := h s43 es43
    refine aw_aload_n C dX1_setUp_44 1 rfl ?_
    refine aw_getX1 C K inX1_setUp_1 dX1_setUp_45 7 (by decide) qX1_setUp_fieldLink_RX1_35 0 (wX1_g ..) rfl ?_
    refine aw_iload_n C dX1_setUp_48 3 rfl ?_
    refine aw_iconst (v := 1) C dX1_setUp_49 (by decide) ?_
    obtain ⟨b50, h⟩ := h
    refine aw_zast C K dX1_setUp_50 4 (wX1_g7 ..) (wX1_s7 ..) b50 ?_
    obtain ⟨s50, es50⟩ : ∃ z, z = (uA s43 7 (upd (sA s43 7) x2.toNatClampNeg (vp_nar .boolean 1))) := ⟨_, rfl⟩
    rw [← es50]
    have h := h s50 es50
    refine aw_aload_n C dX1_setUp_51 1 rfl ?_
    refine aw_dup C dX1_setUp_52 rfl ?_
    refine aw_getX1 C K inX1_setUp_1 dX1_setUp_53 14 (by decide) qX1_setUp_fieldLink_RX1_56 0 (wX1_g ..) rfl ?_
    refine aw_iconst (v := 1) C dX1_setUp_56 (by decide) ?_
    refine aw_iadd C dX1_setUp_57 ?_
    refine aw_putX1 (ty := .int) C K inX1_setUp_1 dX1_setUp_58 14 (by decide) qX1_setUp_fieldLink_RX1_56 0 (wX1_g ..) rfl (by decide +kernel) rfl rfl (Nat.le_of_ble_eq_true rfl) (wX1_p14 ..) ?_
    obtain ⟨s58, es58⟩ : ∃ z, z = (uF s50 14 ((sF s50 14) + 1)) := ⟨_, rfl⟩
    rw [← es58]
    have h := h s58 es58
    refine aw_aload_n C dX1_setUp_61 1 rfl ?_
    refine aw_iload_n C dX1_setUp_62 2 rfl ?_
    refine aw_aload_n C dX1_setUp_63 1 rfl ?_
    refine aw_getX1 C K inX1_setUp_1 dX1_setUp_64 15 (by decide) qX1_setUp_fieldLink_RX1_59 0 (wX1_g ..) rfl ?_
    refine aw_callV (As := [.int x1, .int (sF s58 15)]) (rest := []) C K (mtX1_takeLinks l D cy o ad ln s58 x1 (sF s58 15) _ h) (cwV 2 C.2.2.2.2.1 gX1_setUp_X1_takeLinks rfl rfl rfl (by decide +kernel) ⟨Nat.le_of_ble_eq_true rfl, Nat.le_of_ble_eq_true rfl⟩) 0 1 (wX1_g ..) rfl rfl rfl rfl (Nat.le_of_ble_eq_true rfl) ⟨Nat.le_of_ble_eq_true rfl, Nat.le_of_ble_eq_true rfl⟩ dX1_setUp_67 (fun s67 h => ?_)
    refine aw_iload C dX1_setUp_70 0 rfl ?_
    refine aw_lv [] rfl ?_
    exact hQ r4 s67 h 72 dX1_setUp_72
  have h := h.1 c13
  refine aw_ldc (v := (-1000000)) C dX1_setUp_16 qX1_setUp_constant_RX1_65_1000000 ?_
  refine aw_lv [] rfl ?_
  exact hQ (-1000000) s4 h 18 dX1_setUp_18
end SX1_setUp
theorem mtX1_setUp (l : Launch) (D : va_G) (cy : Nat → ClassId) (o : Nat) (ad ln : Nat → Nat) (s : St) (x1 : Int32) (x2 : Int32) (x3 : Int32) (Q : Int32 → St → Prop) (hw : pX1_setUp ln s x1 x2 x3 Q) : mI l yX1_setUp wsX1_setUp rmX1_setUp D cy [.ref o, .int x1, .int x2, .int x3] (wX1 cy o ad ln s) (wX1 cy o ad ln) Q :=
  metI (Wd := wX1 cy o ad ln) ⟨rfl, rfl⟩ (by decide) rfl (Nat.le_of_ble_eq_true rfl) (fun C K hQ => eX1_setUp C K hQ s x1 x2 x3 hw)
def rmX1_takeOff : Room := { frames := 2, cells := 0, slots := 0, locals := 43 }
theorem inX1_takeOff_1 : ∀ w ∈ wsX10, w ∈ wsX1_takeOff := fun w h => (List.mem_cons_of_mem _ (List.mem_append_right _ h))
theorem qX1_takeOff_fieldLink_RX1_28 : Cond.fieldLink RX1 28 "StageSwitch$Net" "outOf" "[I" ∈ wsX1_takeOff := (List.mem_cons_of_mem _ (List.mem_append_left _ (List.mem_of_getElem? (i := 0) rfl)))
theorem qX1_takeOff_constant_RX1_65_1000000 : Cond.constant RX1 65 (-1000000) ∈ wsX1_takeOff := (List.mem_cons_of_mem _ (List.mem_append_left _ (List.mem_of_getElem? (i := 1) rfl)))
theorem qX1_takeOff_fieldLink_RX1_35 : Cond.fieldLink RX1 35 "StageSwitch$Net" "outTaken" "[Z" ∈ wsX1_takeOff := (List.mem_cons_of_mem _ (List.mem_append_left _ (List.mem_of_getElem? (i := 2) rfl)))
theorem qX1_takeOff_fieldLink_RX1_56 : Cond.fieldLink RX1 56 "StageSwitch$Net" "calls" "I" ∈ wsX1_takeOff := (List.mem_cons_of_mem _ (List.mem_append_left _ (List.mem_of_getElem? (i := 3) rfl)))
section SX1_takeOff
variable {p : Program} {l : Launch} {e : Env} {s0 : State} {m : MethodId} {args : Array Value} {below : List Frame} {meth : Method} {c : Code} {D : va_G} {A : Nat → Prop} {H0 : Heap} {cy : Nat → ClassId} {Z : State → Prop}
theorem eX1_takeOff (C : ctB p s0 m args c cX1_takeOff 3 RX1 wsX1_takeOff) (K : ctK s0 D A H0 cy) {o : Nat} {ad ln : Nat → Nat} {Q : St → Prop} (hQ : ∀ (u : St), Q u → ∀ pc, decode cX1_takeOff pc = .ok (.return_, 1) → atG p l e rmX1_takeOff s0 m args below meth c 0 0 Z 3 (iW D A H0 (wX1 cy o ad ln u)) [] [] pc) (s : St) (x1 : Int32) (h : pX1_takeOff ln s x1 Q) : atG p l e rmX1_takeOff s0 m args below meth c 0 0 Z 3 (iW D A H0 (wX1 cy o ad ln s)) [(0, .ref o), (1, .int x1)] [] 0 := by
  delta pX1_takeOff at h
  refine aw_aload_n C dX1_takeOff_0 0 rfl ?_
  refine aw_getX1 C K inX1_takeOff_1 dX1_takeOff_1 5 (by decide) qX1_takeOff_fieldLink_RX1_28 0 (wX1_g ..) rfl ?_
  refine aw_iload_n C dX1_takeOff_4 1 rfl ?_
  obtain ⟨b5, h⟩ := h
  refine aw_iald C K dX1_takeOff_5 2 (wX1_g5 ..) b5 ?_
  refine aw_name (fun x2_6 ex2_6 => ?_)
  have h := h x2_6 ex2_6
  refine aw_istore_n (lv' := [(2, .int x2_6), (0, .ref o), (1, .int x1)]) C dX1_takeOff_6 (by decide) rfl ?_
  refine aw_iload_n C dX1_takeOff_7 0 rfl ?_
  refine aw_ldc (v := (-1000000)) C dX1_takeOff_8 qX1_takeOff_constant_RX1_65_1000000 ?_
  refine aw_icmp_ne (tgt := 14) C dX1_takeOff_10 (by decide) (fun c10 => ?_) (fun c10 => ?_)
  · have h := h.2 c10
    refine aw_aload_n C dX1_takeOff_14 1 rfl ?_
    refine aw_iload_n C dX1_takeOff_15 2 rfl ?_
    refine aw_callV (As := [.int x1]) (rest := []) C K (mtX1_leaveLinks l D cy o ad ln s x1 _ h) (cwV 1 C.2.2.2.2.1 gX1_takeOff_X1_leaveLinks rfl rfl rfl (by decide +kernel) ⟨Nat.le_of_ble_eq_true rfl, Nat.le_of_ble_eq_true rfl⟩) 0 1 (wX1_g ..) rfl rfl rfl rfl (Nat.le_of_ble_eq_true rfl) ⟨Nat.le_of_ble_eq_true rfl, Nat.le_of_ble_eq_true rfl⟩ dX1_takeOff_16 (fun s16 h => ?_)
    refine aw_aload_n C dX1_takeOff_19 1 rfl ?_
    refine aw_getX1 C K inX1_takeOff_1 dX1_takeOff_20 5 (by decide) qX1_takeOff_fieldLink_RX1_28 0 (wX1_g ..) rfl ?_
    refine aw_iload_n C dX1_takeOff_23 2 rfl ?_
    refine aw_ldc (v := (-1000000)) C dX1_takeOff_24 qX1_takeOff_constant_RX1_65_1000000 ?_
    obtain ⟨b26, h⟩ := h
    refine aw_iast C K dX1_takeOff_26 2 (wX1_g5 ..) (wX1_s5 ..) b26 ?_
    obtain ⟨s26, es26⟩ : ∃ z, z = (uA s16 5 (upd (sA s16 5) x1.toNatClampNeg (-1000000))) := ⟨_, rfl⟩
    rw [← es26]
    have h := h s26 es26
    refine aw_aload_n C dX1_takeOff_27 1 rfl ?_
    refine aw_getX1 C K inX1_takeOff_1 dX1_takeOff_28 7 (by decide) qX1_takeOff_fieldLink_RX1_35 0 (wX1_g ..) rfl ?_
    refine aw_iload_n C dX1_takeOff_31 0 rfl ?_
    refine aw_iconst (v := 0) C dX1_takeOff_32 (by decide) ?_
    obtain ⟨b33, h⟩ := h
    refine aw_zast C K dX1_takeOff_33 4 (wX1_g7 ..) (wX1_s7 ..) b33 ?_
    obtain ⟨s33, es33⟩ : ∃ z, z = (uA s26 7 (upd (sA s26 7) x2_6.toNatClampNeg (vp_nar .boolean 0))) := ⟨_, rfl⟩
    rw [← es33]
    have h := h s33 es33
    refine aw_aload_n C dX1_takeOff_34 1 rfl ?_
    refine aw_dup C dX1_takeOff_35 rfl ?_
    refine aw_getX1 C K inX1_takeOff_1 dX1_takeOff_36 14 (by decide) qX1_takeOff_fieldLink_RX1_56 0 (wX1_g ..) rfl ?_
    refine aw_iconst (v := 1) C dX1_takeOff_39 (by decide) ?_
    refine aw_isub C dX1_takeOff_40 ?_
    refine aw_putX1 (ty := .int) C K inX1_takeOff_1 dX1_takeOff_41 14 (by decide) qX1_takeOff_fieldLink_RX1_56 0 (wX1_g ..) rfl (by decide +kernel) rfl rfl (Nat.le_of_ble_eq_true rfl) (wX1_p14 ..) ?_
    obtain ⟨s41, es41⟩ : ∃ z, z = (uF s33 14 ((sF s33 14) - 1)) := ⟨_, rfl⟩
    rw [← es41]
    have h := h s41 es41
    refine aw_lv [] rfl ?_
    exact hQ s41 h 44 dX1_takeOff_44
  have h := h.1 c10
  refine aw_lv [] rfl ?_
  exact hQ s h 13 dX1_takeOff_13
end SX1_takeOff
theorem mtX1_takeOff (l : Launch) (D : va_G) (cy : Nat → ClassId) (o : Nat) (ad ln : Nat → Nat) (s : St) (x1 : Int32) (Q : St → Prop) (hw : pX1_takeOff ln s x1 Q) : mV l yX1_takeOff wsX1_takeOff rmX1_takeOff D cy [.ref o, .int x1] (wX1 cy o ad ln s) (wX1 cy o ad ln) Q :=
  metV (Wd := wX1 cy o ad ln) ⟨rfl, rfl⟩ (by decide) rfl (Nat.le_of_ble_eq_true rfl) (fun C K hQ => eX1_takeOff C K hQ s x1 hw)
def rmX1_killMiddle : Room := { frames := 5, cells := 0, slots := 0, locals := 122 }
theorem inX1_killMiddle_1 : ∀ w ∈ wsX10, w ∈ wsX1_killMiddle := fun w h => (List.mem_cons_of_mem _ (List.mem_append_right _ h))
theorem qX1_killMiddle_fieldLink_RX1_21 : Cond.fieldLink RX1 21 "StageSwitch$Net" "lines" "I" ∈ wsX1_killMiddle := (List.mem_cons_of_mem _ (List.mem_append_left _ (List.mem_append_left _ (List.mem_of_getElem? (i := 0) rfl))))
theorem qX1_killMiddle_fieldLink_RX1_32 : Cond.fieldLink RX1 32 "StageSwitch$Net" "middleOf" "[I" ∈ wsX1_killMiddle := (List.mem_cons_of_mem _ (List.mem_append_left _ (List.mem_append_left _ (List.mem_of_getElem? (i := 1) rfl))))
theorem qX1_killMiddle_fieldLink_RX1_47 : Cond.fieldLink RX1 47 "StageSwitch$Net" "shedIn" "[I" ∈ wsX1_killMiddle := (List.mem_cons_of_mem _ (List.mem_append_left _ (List.mem_append_left _ (List.mem_of_getElem? (i := 2) rfl))))
theorem qX1_killMiddle_fieldLink_RX1_50 : Cond.fieldLink RX1 50 "StageSwitch$Net" "shedOut" "[I" ∈ wsX1_killMiddle := (List.mem_cons_of_mem _ (List.mem_append_left _ (List.mem_append_left _ (List.mem_of_getElem? (i := 3) rfl))))
theorem qX1_killMiddle_fieldLink_RX1_28 : Cond.fieldLink RX1 28 "StageSwitch$Net" "outOf" "[I" ∈ wsX1_killMiddle := (List.mem_cons_of_mem _ (List.mem_append_left _ (List.mem_append_left _ (List.mem_of_getElem? (i := 4) rfl))))
theorem qX1_killMiddle_fieldLink_RX1_24 : Cond.fieldLink RX1 24 "StageSwitch$Net" "dead" "[Z" ∈ wsX1_killMiddle := (List.mem_cons_of_mem _ (List.mem_append_left _ (List.mem_append_left _ (List.mem_of_getElem? (i := 5) rfl))))
theorem qX1_killMiddle_fieldLink_RX1_53 : Cond.fieldLink RX1 53 "StageSwitch$Net" "alive" "I" ∈ wsX1_killMiddle := (List.mem_cons_of_mem _ (List.mem_append_left _ (List.mem_append_left _ (List.mem_of_getElem? (i := 6) rfl))))
theorem qX1_killMiddle_constant_RX1_65_1000000 : Cond.constant RX1 65 (-1000000) ∈ wsX1_killMiddle := (List.mem_cons_of_mem _ (List.mem_append_left _ (List.mem_append_left _ (List.mem_of_getElem? (i := 7) rfl))))
section SX1_killMiddle
variable {p : Program} {l : Launch} {e : Env} {s0 : State} {m : MethodId} {args : Array Value} {below : List Frame} {meth : Method} {c : Code} {D : va_G} {A : Nat → Prop} {H0 : Heap} {cy : Nat → ClassId} {Z : State → Prop}
theorem tbX1_killMiddle_4 (C : ctB p s0 m args c cX1_killMiddle 5 RX1 wsX1_killMiddle) (K : ctK s0 D A H0 cy) {o : Nat} {ad ln : Nat → Nat}  {x1 : Int32} {k55 : St → Int32 → Prop} (hk55 : ∀ (s : St) (y2 : Int32), k55 s y2 → atG p l e rmX1_killMiddle s0 m args below meth c 0 0 Z 5 (iW D A H0 (wX1 cy o ad ln s)) [(0, .ref o), (1, .int x1), (2, .int y2)] [] 55) {kH : St → Int32 → Int32 → Prop} (hkH : ∀ (s : St) (y2 : Int32) (y3 : Int32), kH s y2 y3 → atG p l e rmX1_killMiddle s0 m args below meth c 0 0 Z 5 (iW D A H0 (wX1 cy o ad ln s)) [(0, .ref o), (1, .int x1), (2, .int y2), (3, .int y3)] [] 4) (s : St) (x2 : Int32) (x3 : Int32) (h : bX1_killMiddle_4 ln x1 k55 kH s x2 x3) : atG p l e rmX1_killMiddle s0 m args below meth c 0 0 Z 5 (iW D A H0 (wX1 cy o ad ln s)) [(0, .ref o), (1, .int x1), (2, .int x2), (3, .int x3)] [] 4 := by
  delta bX1_killMiddle_4 at h
  refine aw_iload_n C dX1_killMiddle_4 3 rfl ?_
  refine aw_aload_n C dX1_killMiddle_5 0 rfl ?_
  refine aw_getX1 C K inX1_killMiddle_1 dX1_killMiddle_6 3 (by decide) qX1_killMiddle_fieldLink_RX1_21 0 (wX1_g ..) rfl ?_
  refine aw_icmp_ge (tgt := 55) C dX1_killMiddle_9 (by decide) (fun c9 => ?_) (fun c9 => ?_)
  · have h := h.1 c9
    refine aw_lv [0, 1, 2] rfl ?_
    exact hk55 s x2 h
  have h := h.2 c9
  refine aw_aload_n C dX1_killMiddle_12 0 rfl ?_
  refine aw_getX1 C K inX1_killMiddle_1 dX1_killMiddle_13 6 (by decide) qX1_killMiddle_fieldLink_RX1_32 0 (wX1_g ..) rfl ?_
  refine aw_iload_n C dX1_killMiddle_16 3 rfl ?_
  obtain ⟨b17, h⟩ := h
  refine aw_iald C K dX1_killMiddle_17 3 (wX1_g6 ..) b17 ?_
  refine aw_iload_n C dX1_killMiddle_18 1 rfl ?_
  refine aw_icmp_ne (tgt := 49) C dX1_killMiddle_19 (by decide) (fun c19 => ?_) (fun c19 => ?_)
  · have h := h.2 c19
    obtain ⟨x3_49, ex3_49⟩ : ∃ y : Int32, y = x3 + 1 := ⟨_, rfl⟩
    have h := h x3_49 ex3_49
    refine aw_iinc (v := x3_49) (lv' := [(3, .int x3_49), (0, .ref o), (1, .int x1), (2, .int x2)]) C dX1_killMiddle_49 3 rfl (by rw [ex3_49]; rfl) (by decide) rfl ?_
    refine aw_goto (tgt := 4) C dX1_killMiddle_52 (by decide) ?_
    refine aw_lv [1, 2, 3, 0] rfl ?_
    exact hkH s x2 x3_49 h
  have h := h.1 c19
  refine aw_aload_n C dX1_killMiddle_22 0 rfl ?_
  refine aw_getX1 C K inX1_killMiddle_1 dX1_killMiddle_23 11 (by decide) qX1_killMiddle_fieldLink_RX1_47 0 (wX1_g ..) rfl ?_
  refine aw_iload_n C dX1_killMiddle_26 2 rfl ?_
  refine aw_iload_n C dX1_killMiddle_27 3 rfl ?_
  obtain ⟨b28, h⟩ := h
  refine aw_iast C K dX1_killMiddle_28 8 (wX1_g11 ..) (wX1_s11 ..) b28 ?_
  obtain ⟨s28, es28⟩ : ∃ z, z = (uA s 11 (upd (sA s 11) x2.toNatClampNeg x3)) := ⟨_, rfl⟩
  rw [← es28]
  have h := h s28 es28
  refine aw_aload_n C dX1_killMiddle_29 0 rfl ?_
  refine aw_getX1 C K inX1_killMiddle_1 dX1_killMiddle_30 12 (by decide) qX1_killMiddle_fieldLink_RX1_50 0 (wX1_g ..) rfl ?_
  refine aw_iload_n C dX1_killMiddle_33 2 rfl ?_
  refine aw_aload_n C dX1_killMiddle_34 0 rfl ?_
  refine aw_getX1 C K inX1_killMiddle_1 dX1_killMiddle_35 5 (by decide) qX1_killMiddle_fieldLink_RX1_28 0 (wX1_g ..) rfl ?_
  refine aw_iload_n C dX1_killMiddle_38 3 rfl ?_
  obtain ⟨b39, h⟩ := h
  refine aw_iald C K dX1_killMiddle_39 2 (wX1_g5 ..) b39 ?_
  obtain ⟨b40, h⟩ := h
  refine aw_iast C K dX1_killMiddle_40 9 (wX1_g12 ..) (wX1_s12 ..) b40 ?_
  obtain ⟨s40, es40⟩ : ∃ z, z = (uA s28 12 (upd (sA s28 12) x2.toNatClampNeg (sA s28 5 x3.toNatClampNeg))) := ⟨_, rfl⟩
  rw [← es40]
  have h := h s40 es40
  refine aw_aload_n C dX1_killMiddle_41 0 rfl ?_
  refine aw_iload_n C dX1_killMiddle_42 3 rfl ?_
  refine aw_callV (As := [.int x3]) (rest := []) C K (mtX1_takeOff l D cy o ad ln s40 x3 _ h) (cwV 1 C.2.2.2.2.1 gX1_killMiddle_X1_takeOff rfl rfl rfl (by decide +kernel) ⟨Nat.le_of_ble_eq_true rfl, Nat.le_of_ble_eq_true rfl⟩) 0 1 (wX1_g ..) rfl rfl rfl rfl (Nat.le_of_ble_eq_true rfl) ⟨Nat.le_of_ble_eq_true rfl, Nat.le_of_ble_eq_true rfl⟩ dX1_killMiddle_43 (fun s43 h => ?_)
  obtain ⟨x2_46, ex2_46⟩ : ∃ y : Int32, y = x2 + 1 := ⟨_, rfl⟩
  have h := h x2_46 ex2_46
  refine aw_iinc (v := x2_46) (lv' := [(2, .int x2_46), (0, .ref o), (1, .int x1), (3, .int x3)]) C dX1_killMiddle_46 2 rfl (by rw [ex2_46]; rfl) (by decide) rfl ?_
  obtain ⟨x3_49, ex3_49⟩ : ∃ y : Int32, y = x3 + 1 := ⟨_, rfl⟩
  have h := h x3_49 ex3_49
  refine aw_iinc (v := x3_49) (lv' := [(3, .int x3_49), (2, .int x2_46), (0, .ref o), (1, .int x1)]) C dX1_killMiddle_49 3 rfl (by rw [ex3_49]; rfl) (by decide) rfl ?_
  refine aw_goto (tgt := 4) C dX1_killMiddle_52 (by decide) ?_
  refine aw_lv [2, 3, 1, 0] rfl ?_
  exact hkH s43 x2_46 x3_49 h
theorem tlX1_killMiddle_4 (C : ctB p s0 m args c cX1_killMiddle 5 RX1 wsX1_killMiddle) (K : ctK s0 D A H0 cy) {o : Nat} {ad ln : Nat → Nat}  {x1 : Int32} {k55 : St → Int32 → Prop} (hk55 : ∀ (s : St) (y2 : Int32), k55 s y2 → atG p l e rmX1_killMiddle s0 m args below meth c 0 0 Z 5 (iW D A H0 (wX1 cy o ad ln s)) [(0, .ref o), (1, .int x1), (2, .int y2)] [] 55) (s : St) (x2 : Int32) (x3 : Int32) (h : lX1_killMiddle_4 ln x1 k55 s x2 x3) : atG p l e rmX1_killMiddle s0 m args below meth c 0 0 Z 5 (iW D A H0 (wX1 cy o ad ln s)) [(0, .ref o), (1, .int x1), (2, .int x2), (3, .int x3)] [] 4 :=
  lp_W (σ := St × Int32 × Int32) (P := fun q => atG p l e rmX1_killMiddle s0 m args below meth c 0 0 Z 5 (iW D A H0 (wX1 cy o ad ln q.1)) [(0, .ref o), (1, .int x1), (2, .int q.2.1), (3, .int q.2.2)] [] 4) (fun K2 hK2 q hb => tbX1_killMiddle_4 C K hk55 (fun s x2 x3 hk => hK2 (s, x2, x3) hk) q.1 q.2.1 q.2.2 hb) (s, x2, x3) h
theorem tbX1_killMiddle_77 (C : ctB p s0 m args c cX1_killMiddle 5 RX1 wsX1_killMiddle) (K : ctK s0 D A H0 cy) {o : Nat} {ad ln : Nat → Nat}  {x2 : Int32} {k116 : St → Int32 → Prop} (hk116 : ∀ (s : St) (y3 : Int32), k116 s y3 → atG p l e rmX1_killMiddle s0 m args below meth c 0 0 Z 5 (iW D A H0 (wX1 cy o ad ln s)) [(0, .ref o), (3, .int y3)] [] 116) {kH : St → Int32 → Int32 → Prop} (hkH : ∀ (s : St) (y3 : Int32) (y4 : Int32), kH s y3 y4 → atG p l e rmX1_killMiddle s0 m args below meth c 0 0 Z 5 (iW D A H0 (wX1 cy o ad ln s)) [(0, .ref o), (2, .int x2), (3, .int y3), (4, .int y4)] [] 77) (s : St) (x3 : Int32) (x4 : Int32) (h : bX1_killMiddle_77 ln x2 k116 kH s x3 x4) : atG p l e rmX1_killMiddle s0 m args below meth c 0 0 Z 5 (iW D A H0 (wX1 cy o ad ln s)) [(0, .ref o), (2, .int x2), (3, .int x3), (4, .int x4)] [] 77 := by
  delta bX1_killMiddle_77 at h
  refine aw_iload C dX1_killMiddle_77 3 rfl ?_
  refine aw_iload_n C dX1_killMiddle_79 1 rfl ?_
  refine aw_icmp_ge (tgt := 116) C dX1_killMiddle_80 (by decide) (fun c80 => ?_) (fun c80 => ?_)
  · have h := h.1 c80
    refine aw_lv [0, 2] rfl ?_
    exact hk116 s x3 h
  have h := h.2 c80
  refine aw_aload_n C dX1_killMiddle_83 0 rfl ?_
  refine aw_aload_n C dX1_killMiddle_84 0 rfl ?_
  refine aw_getX1 C K inX1_killMiddle_1 dX1_killMiddle_85 11 (by decide) qX1_killMiddle_fieldLink_RX1_47 0 (wX1_g ..) rfl ?_
  refine aw_iload C dX1_killMiddle_88 3 rfl ?_
  obtain ⟨b90, h⟩ := h
  refine aw_iald C K dX1_killMiddle_90 8 (wX1_g11 ..) b90 ?_
  refine aw_aload_n C dX1_killMiddle_91 0 rfl ?_
  refine aw_getX1 C K inX1_killMiddle_1 dX1_killMiddle_92 12 (by decide) qX1_killMiddle_fieldLink_RX1_50 0 (wX1_g ..) rfl ?_
  refine aw_iload C dX1_killMiddle_95 3 rfl ?_
  obtain ⟨b97, h⟩ := h
  refine aw_iald C K dX1_killMiddle_97 9 (wX1_g12 ..) b97 ?_
  refine aw_iconst (v := 1) C dX1_killMiddle_98 (by decide) ?_
  refine aw_callI (As := [.int (sA s 11 x4.toNatClampNeg), .int (sA s 12 x4.toNatClampNeg), .int 1]) (rest := []) C K (mtX1_setUp l D cy o ad ln s (sA s 11 x4.toNatClampNeg) (sA s 12 x4.toNatClampNeg) 1 _ h) (cwV 3 C.2.2.2.2.1 gX1_killMiddle_X1_setUp rfl rfl rfl (by decide +kernel) ⟨Nat.le_of_ble_eq_true rfl, Nat.le_of_ble_eq_true rfl⟩) 0 1 (wX1_g ..) rfl rfl rfl rfl (Nat.le_of_ble_eq_true rfl) ⟨Nat.le_of_ble_eq_true rfl, Nat.le_of_ble_eq_true rfl⟩ dX1_killMiddle_99 (fun r99 s99 h => ?_)
  refine aw_ldc (v := (-1000000)) C dX1_killMiddle_102 qX1_killMiddle_constant_RX1_65_1000000 ?_
  refine aw_icmp_ne (tgt := 110) C dX1_killMiddle_104 (by decide) (fun c104 => ?_) (fun c104 => ?_)
  · have h := h.2 c104
    obtain ⟨x4_110, ex4_110⟩ : ∃ y : Int32, y = x4 + 1 := ⟨_, rfl⟩
    have h := h x4_110 ex4_110
    refine aw_iinc (v := x4_110) (lv' := [(4, .int x4_110), (0, .ref o), (2, .int x2), (3, .int x3)]) C dX1_killMiddle_110 3 rfl (by rw [ex4_110]; rfl) (by decide) rfl ?_
    refine aw_goto (tgt := 77) C dX1_killMiddle_113 (by decide) ?_
    refine aw_lv [1, 2, 3, 0] rfl ?_
    exact hkH s99 x3 x4_110 h
  have h := h.1 c104
  obtain ⟨x3_107, ex3_107⟩ : ∃ y : Int32, y = x3 + 1 := ⟨_, rfl⟩
  have h := h x3_107 ex3_107
  refine aw_iinc (v := x3_107) (lv' := [(3, .int x3_107), (0, .ref o), (2, .int x2), (4, .int x4)]) C dX1_killMiddle_107 2 rfl (by rw [ex3_107]; rfl) (by decide) rfl ?_
  obtain ⟨x4_110, ex4_110⟩ : ∃ y : Int32, y = x4 + 1 := ⟨_, rfl⟩
  have h := h x4_110 ex4_110
  refine aw_iinc (v := x4_110) (lv' := [(4, .int x4_110), (3, .int x3_107), (0, .ref o), (2, .int x2)]) C dX1_killMiddle_110 3 rfl (by rw [ex4_110]; rfl) (by decide) rfl ?_
  refine aw_goto (tgt := 77) C dX1_killMiddle_113 (by decide) ?_
  refine aw_lv [2, 3, 1, 0] rfl ?_
  exact hkH s99 x3_107 x4_110 h
theorem tlX1_killMiddle_77 (C : ctB p s0 m args c cX1_killMiddle 5 RX1 wsX1_killMiddle) (K : ctK s0 D A H0 cy) {o : Nat} {ad ln : Nat → Nat}  {x2 : Int32} {k116 : St → Int32 → Prop} (hk116 : ∀ (s : St) (y3 : Int32), k116 s y3 → atG p l e rmX1_killMiddle s0 m args below meth c 0 0 Z 5 (iW D A H0 (wX1 cy o ad ln s)) [(0, .ref o), (3, .int y3)] [] 116) (s : St) (x3 : Int32) (x4 : Int32) (h : lX1_killMiddle_77 ln x2 k116 s x3 x4) : atG p l e rmX1_killMiddle s0 m args below meth c 0 0 Z 5 (iW D A H0 (wX1 cy o ad ln s)) [(0, .ref o), (2, .int x2), (3, .int x3), (4, .int x4)] [] 77 :=
  lp_W (σ := St × Int32 × Int32) (P := fun q => atG p l e rmX1_killMiddle s0 m args below meth c 0 0 Z 5 (iW D A H0 (wX1 cy o ad ln q.1)) [(0, .ref o), (2, .int x2), (3, .int q.2.1), (4, .int q.2.2)] [] 77) (fun K2 hK2 q hb => tbX1_killMiddle_77 C K hk116 (fun s x3 x4 hk => hK2 (s, x3, x4) hk) q.1 q.2.1 q.2.2 hb) (s, x3, x4) h
theorem eX1_killMiddle (C : ctB p s0 m args c cX1_killMiddle 5 RX1 wsX1_killMiddle) (K : ctK s0 D A H0 cy) {o : Nat} {ad ln : Nat → Nat} {Q : Int32 → St → Prop} (hQ : ∀ (v : Int32) (u : St), Q v u → ∀ pc, decode cX1_killMiddle pc = .ok (.ireturn, 1) → atG p l e rmX1_killMiddle s0 m args below meth c 0 0 Z 5 (iW D A H0 (wX1 cy o ad ln u)) [] [.int v] pc) (s : St) (x1 : Int32) (h : pX1_killMiddle ln s x1 Q) : atG p l e rmX1_killMiddle s0 m args below meth c 0 0 Z 5 (iW D A H0 (wX1 cy o ad ln s)) [(0, .ref o), (1, .int x1)] [] 0 := by
  delta pX1_killMiddle at h
  refine aw_iconst (v := 0) C dX1_killMiddle_0 (by decide) ?_
  refine aw_istore_n (lv' := [(2, .int 0), (0, .ref o), (1, .int x1)]) C dX1_killMiddle_1 (by decide) rfl ?_
  refine aw_iconst (v := 0) C dX1_killMiddle_2 (by decide) ?_
  refine aw_istore_n (lv' := [(3, .int 0), (2, .int 0), (0, .ref o), (1, .int x1)]) C dX1_killMiddle_3 (by decide) rfl ?_
  refine aw_lv [2, 3, 1, 0] rfl ?_
  refine tlX1_killMiddle_4 C K ?_ s 0 0 h
  intro s_55 z55_2 h
  refine aw_aload_n C dX1_killMiddle_55 0 rfl ?_
  refine aw_getX1 C K inX1_killMiddle_1 dX1_killMiddle_56 4 (by decide) qX1_killMiddle_fieldLink_RX1_24 0 (wX1_g ..) rfl ?_
  refine aw_iload_n C dX1_killMiddle_59 1 rfl ?_
  refine aw_iconst (v := 1) C dX1_killMiddle_60 (by decide) ?_
  obtain ⟨b61, h⟩ := h
  refine aw_zast C K dX1_killMiddle_61 1 (wX1_g4 ..) (wX1_s4 ..) b61 ?_
  obtain ⟨s61, es61⟩ : ∃ z, z = (uA s_55 4 (upd (sA s_55 4) x1.toNatClampNeg (vp_nar .boolean 1))) := ⟨_, rfl⟩
  rw [← es61]
  have h := h s61 es61
  refine aw_aload_n C dX1_killMiddle_62 0 rfl ?_
  refine aw_dup C dX1_killMiddle_63 rfl ?_
  refine aw_getX1 C K inX1_killMiddle_1 dX1_killMiddle_64 13 (by decide) qX1_killMiddle_fieldLink_RX1_53 0 (wX1_g ..) rfl ?_
  refine aw_iconst (v := 1) C dX1_killMiddle_67 (by decide) ?_
  refine aw_isub C dX1_killMiddle_68 ?_
  refine aw_putX1 (ty := .int) C K inX1_killMiddle_1 dX1_killMiddle_69 13 (by decide) qX1_killMiddle_fieldLink_RX1_53 0 (wX1_g ..) rfl (by decide +kernel) rfl rfl (Nat.le_of_ble_eq_true rfl) (wX1_p13 ..) ?_
  obtain ⟨s69, es69⟩ : ∃ z, z = (uF s61 13 ((sF s61 13) - 1)) := ⟨_, rfl⟩
  rw [← es69]
  have h := h s69 es69
  refine aw_iconst (v := 0) C dX1_killMiddle_72 (by decide) ?_
  refine aw_istore_n (lv' := [(3, .int 0), (0, .ref o), (1, .int x1), (2, .int z55_2)]) C dX1_killMiddle_73 (by decide) rfl ?_
  refine aw_iconst (v := 0) C dX1_killMiddle_74 (by decide) ?_
  refine aw_istore (lv' := [(4, .int 0), (3, .int 0), (0, .ref o), (1, .int x1), (2, .int z55_2)]) C dX1_killMiddle_75 (by decide) rfl ?_
  refine aw_lv [2, 4, 1, 0] rfl ?_
  refine tlX1_killMiddle_77 C K ?_ s69 0 0 h
  intro s_116 z116_3 h
  refine aw_iload_n C dX1_killMiddle_116 1 rfl ?_
  refine aw_lv [] rfl ?_
  exact hQ z116_3 s_116 h 117 dX1_killMiddle_117
end SX1_killMiddle
theorem mtX1_killMiddle (l : Launch) (D : va_G) (cy : Nat → ClassId) (o : Nat) (ad ln : Nat → Nat) (s : St) (x1 : Int32) (Q : Int32 → St → Prop) (hw : pX1_killMiddle ln s x1 Q) : mI l yX1_killMiddle wsX1_killMiddle rmX1_killMiddle D cy [.ref o, .int x1] (wX1 cy o ad ln s) (wX1 cy o ad ln) Q :=
  metI (Wd := wX1 cy o ad ln) ⟨rfl, rfl⟩ (by decide) rfl (Nat.le_of_ble_eq_true rfl) (fun C K hQ => eX1_killMiddle C K hQ s x1 hw)
def rmX1_reviveMiddle : Room := { frames := 0, cells := 0, slots := 0, locals := 0 }
theorem inX1_reviveMiddle_1 : ∀ w ∈ wsX10, w ∈ wsX1_reviveMiddle := fun w h => (List.mem_cons_of_mem _ (List.mem_append_right _ h))
theorem qX1_reviveMiddle_fieldLink_RX1_24 : Cond.fieldLink RX1 24 "StageSwitch$Net" "dead" "[Z" ∈ wsX1_reviveMiddle := (List.mem_cons_of_mem _ (List.mem_append_left _ (List.mem_of_getElem? (i := 0) rfl)))
theorem qX1_reviveMiddle_fieldLink_RX1_53 : Cond.fieldLink RX1 53 "StageSwitch$Net" "alive" "I" ∈ wsX1_reviveMiddle := (List.mem_cons_of_mem _ (List.mem_append_left _ (List.mem_of_getElem? (i := 1) rfl)))
section SX1_reviveMiddle
variable {p : Program} {l : Launch} {e : Env} {s0 : State} {m : MethodId} {args : Array Value} {below : List Frame} {meth : Method} {c : Code} {D : va_G} {A : Nat → Prop} {H0 : Heap} {cy : Nat → ClassId} {Z : State → Prop}
theorem eX1_reviveMiddle (C : ctB p s0 m args c cX1_reviveMiddle 2 RX1 wsX1_reviveMiddle) (K : ctK s0 D A H0 cy) {o : Nat} {ad ln : Nat → Nat} {Q : Int32 → St → Prop} (hQ : ∀ (v : Int32) (u : St), narrow .boolean (.int v) = .int v → Q v u → ∀ pc, decode cX1_reviveMiddle pc = .ok (.ireturn, 1) → atG p l e rmX1_reviveMiddle s0 m args below meth c 0 0 Z 2 (iW D A H0 (wX1 cy o ad ln u)) [] [.int v] pc) (s : St) (x1 : Int32) (h : pX1_reviveMiddle ln s x1 Q) : atG p l e rmX1_reviveMiddle s0 m args below meth c 0 0 Z 2 (iW D A H0 (wX1 cy o ad ln s)) [(0, .ref o), (1, .int x1)] [] 0 := by
  delta pX1_reviveMiddle at h
  refine aw_aload_n C dX1_reviveMiddle_0 0 rfl ?_
  refine aw_getX1 C K inX1_reviveMiddle_1 dX1_reviveMiddle_1 4 (by decide) qX1_reviveMiddle_fieldLink_RX1_24 0 (wX1_g ..) rfl ?_
  refine aw_iload_n C dX1_reviveMiddle_4 1 rfl ?_
  obtain ⟨b5, h⟩ := h
  refine aw_zald C K dX1_reviveMiddle_5 1 (wX1_g4 ..) b5 ?_
  refine aw_if_ne (tgt := 11) C dX1_reviveMiddle_6 (by decide) (fun c6 => ?_) (fun c6 => ?_)
  · have h := h.2 c6
    refine aw_aload_n C dX1_reviveMiddle_11 0 rfl ?_
    refine aw_getX1 C K inX1_reviveMiddle_1 dX1_reviveMiddle_12 4 (by decide) qX1_reviveMiddle_fieldLink_RX1_24 0 (wX1_g ..) rfl ?_
    refine aw_iload_n C dX1_reviveMiddle_15 1 rfl ?_
    refine aw_iconst (v := 0) C dX1_reviveMiddle_16 (by decide) ?_
    obtain ⟨b17, h⟩ := h
    refine aw_zast C K dX1_reviveMiddle_17 1 (wX1_g4 ..) (wX1_s4 ..) b17 ?_
    obtain ⟨s17, es17⟩ : ∃ z, z = (uA s 4 (upd (sA s 4) x1.toNatClampNeg (vp_nar .boolean 0))) := ⟨_, rfl⟩
    rw [← es17]
    have h := h s17 es17
    refine aw_aload_n C dX1_reviveMiddle_18 0 rfl ?_
    refine aw_dup C dX1_reviveMiddle_19 rfl ?_
    refine aw_getX1 C K inX1_reviveMiddle_1 dX1_reviveMiddle_20 13 (by decide) qX1_reviveMiddle_fieldLink_RX1_53 0 (wX1_g ..) rfl ?_
    refine aw_iconst (v := 1) C dX1_reviveMiddle_23 (by decide) ?_
    refine aw_iadd C dX1_reviveMiddle_24 ?_
    refine aw_putX1 (ty := .int) C K inX1_reviveMiddle_1 dX1_reviveMiddle_25 13 (by decide) qX1_reviveMiddle_fieldLink_RX1_53 0 (wX1_g ..) rfl (by decide +kernel) rfl rfl (Nat.le_of_ble_eq_true rfl) (wX1_p13 ..) ?_
    obtain ⟨s25, es25⟩ : ∃ z, z = (uF s17 13 ((sF s17 13) + 1)) := ⟨_, rfl⟩
    rw [← es25]
    have h := h s25 es25
    refine aw_iconst (v := 1) C dX1_reviveMiddle_28 (by decide) ?_
    refine aw_lv [] rfl ?_
    exact hQ 1 s25 rfl h 29 dX1_reviveMiddle_29
  have h := h.1 c6
  refine aw_iconst (v := 0) C dX1_reviveMiddle_9 (by decide) ?_
  refine aw_lv [] rfl ?_
  exact hQ 0 s rfl h 10 dX1_reviveMiddle_10
end SX1_reviveMiddle
theorem mtX1_reviveMiddle (l : Launch) (D : va_G) (cy : Nat → ClassId) (o : Nat) (ad ln : Nat → Nat) (s : St) (x1 : Int32) (Q : Int32 → St → Prop) (hw : pX1_reviveMiddle ln s x1 Q) : mI l yX1_reviveMiddle wsX1_reviveMiddle rmX1_reviveMiddle D cy [.ref o, .int x1] (wX1 cy o ad ln s) (wX1 cy o ad ln) Q :=
  metZ (ty := .boolean) (Wd := wX1 cy o ad ln) ⟨rfl, rfl⟩ (by decide) rfl (Nat.le_of_ble_eq_true rfl) (fun C K hQ => eX1_reviveMiddle C K hQ s x1 hw)
