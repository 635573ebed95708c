def rmX5_sheet : Room := { frames := 2, cells := 2, slots := 66, locals := 52 }
theorem inX5_sheet_4 : ∀ w ∈ wsX40, w ∈ wsX5_sheet := fun w h => (List.mem_cons_of_mem _ (List.mem_append_right _ h))
theorem inX5_sheet_5 : ∀ w ∈ wsX50, w ∈ wsX5_sheet := fun w h => (List.mem_cons_of_mem _ (List.mem_append_left _ (List.mem_append_right _ h)))
theorem qX5_sheet_constant_RX5_54_1000001 : Cond.constant RX5 54 (-1000001) ∈ wsX5_sheet := (List.mem_cons_of_mem _ (List.mem_append_left _ (List.mem_append_left _ (List.mem_append_left _ (List.mem_of_getElem? (i := 0) rfl)))))
theorem qX5_sheet_fieldLink_RX5_11 : Cond.fieldLink RX5 11 "StageSwitch" "sheets" "[LStageSwitch$Sheet;" ∈ wsX5_sheet := (List.mem_cons_of_mem _ (List.mem_append_left _ (List.mem_append_left _ (List.mem_append_left _ (List.mem_of_getElem? (i := 1) rfl)))))
theorem qX5_sheet_classLink_RX5_9_RX4 : Cond.classLink RX5 9 RX4 ∈ wsX5_sheet := (List.mem_cons_of_mem _ (List.mem_append_left _ (List.mem_append_left _ (List.mem_append_left _ (List.mem_of_getElem? (i := 2) rfl)))))
theorem qX5_sheet_instantiable_RX4_2 : Cond.instantiable RX4 2 ∈ wsX5_sheet := (List.mem_cons_of_mem _ (List.mem_append_left _ (List.mem_append_left _ (List.mem_append_left _ (List.mem_of_getElem? (i := 3) rfl)))))
theorem qX5_sheet_initialized_RX4 : Cond.initialized RX4 ∈ wsX5_sheet := (List.mem_cons_of_mem _ (List.mem_append_left _ (List.mem_append_left _ (List.mem_append_left _ (List.mem_of_getElem? (i := 4) rfl)))))
theorem qX5_sheet_methodLink_RX5_59_yX4_init : Cond.methodLink RX5 59 yX4_init ∈ wsX5_sheet := (List.mem_cons_of_mem _ (List.mem_append_left _ (List.mem_append_left _ (List.mem_append_left _ (List.mem_of_getElem? (i := 18) rfl)))))
theorem qX5_sheet_instanceMethod_yX4_init : Cond.instanceMethod yX4_init ∈ wsX5_sheet := (List.mem_cons_of_mem _ (List.mem_append_left _ (List.mem_append_left _ (List.mem_append_left _ (List.mem_of_getElem? (i := 19) rfl)))))
section SX5_sheet
variable {p : Program} {l : Launch} {e : Env} {s0 : State} {m : MethodId} {args : Array Value} {below : List Frame} {meth : Method} {c : Code} {D : va_G} {A : Nat → Prop} {H0 : Heap} {cy : Nat → ClassId} {Z : State → Prop}
theorem eX5_sheet (C : ctB p s0 m args c cX5_sheet 4 RX5 wsX5_sheet) (K : ctK s0 D A H0 cy) {o : Nat} {ad : Nat → Nat} {oa : Nat} {aa : Nat → Nat} {or_ : Nat} {ar : Nat → Nat} {op : Nat} {ap : Nat → Nat} {Q : Int32 → TS → Prop} (hQ : ∀ (v : Int32) (u : TS), Q v u → ∀ pc, decode cX5_sheet pc = .ok (.ireturn, 1) → atG p l e rmX5_sheet s0 m args below meth c 2 66 Z 4 (iW D A H0 (wX5 cy o ad oa aa or_ ar op ap u)) [] [.int v] pc) (s : TS) (x1 : Int32) (x2 : Int32) (x3 : Int32) (h : pX5_sheet  s x1 x2 x3 Q) : atG p l e rmX5_sheet s0 m args below meth c 0 0 Z 4 (iW D A H0 (wX5 cy o ad oa aa or_ ar op ap s)) [(0, .ref o), (1, .int x1), (2, .int x2), (3, .int x3)] [] 0 := by
  delta pX5_sheet at h
  refine aw_iload_n C dX5_sheet_0 1 rfl ?_
  refine aw_callS (As := [.int x1]) (rest := []) C (mtX5_isSheet l x1 _ h) (va_cwS 1 C.2.2.2.2.1 gX5_sheet_X5_isSheet rfl rfl rfl (by decide +kernel) ⟨Nat.le_of_ble_eq_true rfl, Nat.le_of_ble_eq_true rfl⟩) rfl rfl (Nat.le_of_ble_eq_true rfl) ⟨rfl, rfl⟩ ⟨Nat.zero_le _, Nat.zero_le _⟩ dX5_sheet_1 (fun r1 h => ?_)
  refine aw_if_eq (tgt := 22) C dX5_sheet_4 (by decide) (fun c4 => ?_) (fun c4 => ?_)
  · have h := h.1 c4
    refine aw_ldc (v := (-1000001)) C dX5_sheet_22 qX5_sheet_constant_RX5_54_1000001 ?_
    refine aw_widen (cells2 := 2) (slots2 := 66) (Nat.le_of_ble_eq_true rfl) (Nat.le_of_ble_eq_true rfl) ?_
    refine aw_lv [] rfl ?_
    exact hQ (-1000001) s h 24 dX5_sheet_24
  have h := h.2 c4
  refine aw_iload_n C dX5_sheet_7 2 rfl ?_
  refine aw_iconst (v := 0) C dX5_sheet_8 (by decide) ?_
  refine aw_iconst (v := 2) C dX5_sheet_9 (by decide) ?_
  refine aw_callS (As := [.int x2, .int 0, .int 2]) (rest := []) C (mtX5_within l x2 0 2 _ h) (va_cwS 3 C.2.2.2.2.1 gX5_sheet_X5_within rfl rfl rfl (by decide +kernel) ⟨Nat.le_of_ble_eq_true rfl, Nat.le_of_ble_eq_true rfl⟩) rfl rfl (Nat.le_of_ble_eq_true rfl) ⟨rfl, rfl⟩ ⟨Nat.zero_le _, Nat.zero_le _⟩ dX5_sheet_10 (fun r10 h => ?_)
  refine aw_if_eq (tgt := 22) C dX5_sheet_13 (by decide) (fun c13 => ?_) (fun c13 => ?_)
  · have h := h.1 c13
    refine aw_ldc (v := (-1000001)) C dX5_sheet_22 qX5_sheet_constant_RX5_54_1000001 ?_
    refine aw_widen (cells2 := 2) (slots2 := 66) (Nat.le_of_ble_eq_true rfl) (Nat.le_of_ble_eq_true rfl) ?_
    refine aw_lv [] rfl ?_
    exact hQ (-1000001) s h 24 dX5_sheet_24
  have h := h.2 c13
  refine aw_iload_n C dX5_sheet_16 3 rfl ?_
  refine aw_bipush (v := 64) C dX5_sheet_17 (by decide) ?_
  refine aw_icmp_le (tgt := 25) C dX5_sheet_19 (by decide) (fun c19 => ?_) (fun c19 => ?_)
  · have h := h.1 c19
    refine aw_iload_n C dX5_sheet_25 3 rfl ?_
    refine aw_if_ge (tgt := 35) C dX5_sheet_26 (by decide) (fun c26 => ?_) (fun c26 => ?_)
    · have h := h.1 c26
      refine aw_aload_n C dX5_sheet_35 0 rfl ?_
      refine aw_getX5 C K inX5_sheet_5 dX5_sheet_36 0 (by decide) qX5_sheet_fieldLink_RX5_11 0 (g5 ..) rfl ?_
      refine aw_iload_n C dX5_sheet_39 1 rfl ?_
      refine aw_newX4 (fs := [.int 0, .null]) (cells2 := 1) (slots2 := 2) C K inX5_sheet_4 dX5_sheet_40 qX5_sheet_classLink_RX5_9_RX4 qX5_sheet_instantiable_RX4_2 qX5_sheet_initialized_RX4 (fun j hj => match j, hj with | 0, _ => rfl | 1, _ => rfl | j + 2, h => absurd h (by omega)) rfl rfl ⟨Nat.le_of_ble_eq_true rfl, Nat.le_of_ble_eq_true rfl⟩ (fun q40 => ?_)
      refine aw_dup C dX5_sheet_43 rfl ?_
      refine aw_iload_n C dX5_sheet_44 2 rfl ?_
      refine aw_iload_n C dX5_sheet_45 3 rfl ?_
      refine aw_callInit (Wd := iwX4 cy q40) (cells2 := 2) (slots2 := 66) (Wx := fun u => (wX5 cy o ad oa aa or_ ar op ap s) ++ iwX4 cy q40 u) (wr := (wX5 cy o ad oa aa or_ ar op ap s)) (As := [.int x2, .int x3]) (rest := [.ref q40, .int x1, .ref (ad 0)]) C K (mtX4_init l D cy q40 x2 x3 _ h) List.perm_append_comm (fun u => List.perm_append_comm) (cwI 2 C.2.2.2.2.1 gX5_sheet_X4_init rfl rfl rfl (C.2.2.2.2.1 _ qX5_sheet_initialized_RX4) (C.2.2.2.2.1 _ qX5_sheet_methodLink_RX5_59_yX4_init) (C.2.2.2.2.1 _ qX5_sheet_instanceMethod_yX4_init) rfl (by decide +kernel) ⟨Nat.le_of_ble_eq_true rfl, Nat.le_of_ble_eq_true rfl⟩) rfl rfl (Nat.le_of_ble_eq_true rfl) rfl rfl ⟨Nat.le_of_ble_eq_true rfl, Nat.le_of_ble_eq_true rfl⟩ dX5_sheet_46 ?_
      rintro ⟨a46, l46, t46⟩ h
      refine aw_perm (w1 := (wX5 cy o ad oa aa or_ ar op ap s) ++ wSh cy (some (q40, a46, l46, t46))) (List.Perm.refl _) ?_
      have h := h q40 a46
      obtain ⟨b49, h⟩ := h
      obtain ⟨k49, hk49⟩ := List.getElem?_of_mem (show ((q40, .inr (4, fsX4 a46 t46)) : Nat × va_E) ∈ wX5 cy o ad oa aa or_ ar op ap s ++ wSh cy (some (q40, a46, l46, t46)) from List.mem_append_right _ List.mem_cons_self)
      refine aw_aastQ C K dX5_sheet_49 1 4 k49 4 (by rfl) rfl hk49 rfl b49 rfl ?_
      refine aw_perm (w1 := (wX5 cy o ad oa aa or_ ar op ap (uS s x1.toNatClampNeg (some (q40, a46, l46, t46)))) ++ wSh cy (tS s x1.toNatClampNeg)) (stS cy o ad oa aa or_ ar op ap s (vp_in_lt b49) (some (q40, a46, l46, t46))) ?_
      refine aw_left ?_
      obtain ⟨s49, es49⟩ : ∃ z, z = (uS s x1.toNatClampNeg (some (q40, a46, l46, t46))) := ⟨_, rfl⟩
      rw [← es49]
      have h := h s49 es49
      have hzf49 : tS s49 x1.toNatClampNeg = (some (q40, a46, l46, t46)) := by rw [es49]; exact if_pos rfl
      refine aw_aload_n C dX5_sheet_50 0 rfl ?_
      refine aw_iload_n C dX5_sheet_51 3 rfl ?_
      refine aw_callFI (cells2 := 2) (slots2 := 66) (Wx := wX5 cy o ad oa aa or_ ar op ap) (wr := []) (As := [.int x3]) (rest := []) C K (mtX5_fine l D cy o ad oa aa or_ ar op ap s49 x3 _ h) (permNil _) (fun u => permNil _) (cwV 1 C.2.2.2.2.1 gX5_sheet_X5_fine rfl rfl rfl (by decide +kernel) ⟨Nat.le_of_ble_eq_true rfl, Nat.le_of_ble_eq_true rfl⟩) 0 5 (g5 ..) rfl rfl rfl rfl (Nat.le_of_ble_eq_true rfl) rfl rfl ⟨Nat.le_of_ble_eq_true rfl, Nat.le_of_ble_eq_true rfl⟩ dX5_sheet_52 (fun r52 s52 h => ?_)
      refine aw_widen (cells2 := 2) (slots2 := 66) (Nat.le_of_ble_eq_true rfl) (Nat.le_of_ble_eq_true rfl) ?_
      refine aw_lv [] rfl ?_
      exact hQ r52 s52 h 55 dX5_sheet_55
    have h := h.2 c26
    refine aw_aload_n C dX5_sheet_29 0 rfl ?_
    refine aw_iconst (v := 4) C dX5_sheet_30 (by decide) ?_
    refine aw_callFI (cells2 := 0) (slots2 := 0) (Wx := wX5 cy o ad oa aa or_ ar op ap) (wr := []) (As := [.int 4]) (rest := []) C K (mtX5_found l D cy o ad oa aa or_ ar op ap s 4 _ h) (permNil _) (fun u => permNil _) (cwV 1 C.2.2.2.2.1 gX5_sheet_X5_found rfl rfl rfl (by decide +kernel) ⟨Nat.le_of_ble_eq_true rfl, Nat.le_of_ble_eq_true rfl⟩) 0 5 (g5 ..) rfl rfl rfl rfl (Nat.le_of_ble_eq_true rfl) rfl rfl ⟨Nat.le_of_ble_eq_true rfl, Nat.le_of_ble_eq_true rfl⟩ dX5_sheet_31 (fun r31 s31 h => ?_)
    refine aw_widen (cells2 := 2) (slots2 := 66) (Nat.le_of_ble_eq_true rfl) (Nat.le_of_ble_eq_true rfl) ?_
    refine aw_lv [] rfl ?_
    exact hQ r31 s31 h 34 dX5_sheet_34
  have h := h.2 c19
  refine aw_ldc (v := (-1000001)) C dX5_sheet_22 qX5_sheet_constant_RX5_54_1000001 ?_
  refine aw_widen (cells2 := 2) (slots2 := 66) (Nat.le_of_ble_eq_true rfl) (Nat.le_of_ble_eq_true rfl) ?_
  refine aw_lv [] rfl ?_
  exact hQ (-1000001) s h 24 dX5_sheet_24
end SX5_sheet
theorem mtX5_sheet (l : Launch) (D : va_G) (cy : Nat → ClassId) (o : Nat) (ad : Nat → Nat) (oa : Nat) (aa : Nat → Nat) (or_ : Nat) (ar : Nat → Nat) (op : Nat) (ap : Nat → Nat) (s : TS) (x1 : Int32) (x2 : Int32) (x3 : Int32) (Q : Int32 → TS → Prop) (hw : pX5_sheet  s x1 x2 x3 Q) : mI l yX5_sheet wsX5_sheet rmX5_sheet D cy [.ref o, .int x1, .int x2, .int x3] (wX5 cy o ad oa aa or_ ar op ap s) (wX5 cy o ad oa aa or_ ar op ap) Q :=
  metIA (Wd := wX5 cy o ad oa aa or_ ar op ap) (by decide) rfl (Nat.le_of_ble_eq_true rfl) (fun hnm C K hQ => eX5_sheet C K hQ s x1 x2 x3 hw)
def rmX5_net : Room := { frames := 2, cells := 10, slots := 665, locals := 53 }
theorem inX5_net_1 : ∀ w ∈ wsX10, w ∈ wsX5_net := fun w h => (List.mem_cons_of_mem _ (List.mem_append_left _ (List.mem_append_right _ h)))
theorem inX5_net_5 : ∀ w ∈ wsX50, w ∈ wsX5_net := fun w h => (List.mem_cons_of_mem _ (List.mem_append_right _ h))
theorem qX5_net_constant_RX5_54_1000001 : Cond.constant RX5 54 (-1000001) ∈ wsX5_net := (List.mem_cons_of_mem _ (List.mem_append_left _ (List.mem_append_left _ (List.mem_append_left _ (List.mem_of_getElem? (i := 0) rfl)))))
theorem qX5_net_classLink_RX5_15_RX1 : Cond.classLink RX5 15 RX1 ∈ wsX5_net := (List.mem_cons_of_mem _ (List.mem_append_left _ (List.mem_append_left _ (List.mem_append_left _ (List.mem_of_getElem? (i := 1) rfl)))))
theorem qX5_net_instantiable_RX1_17 : Cond.instantiable RX1 17 ∈ wsX5_net := (List.mem_cons_of_mem _ (List.mem_append_left _ (List.mem_append_left _ (List.mem_append_left _ (List.mem_of_getElem? (i := 2) rfl)))))
theorem qX5_net_initialized_RX1 : Cond.initialized RX1 ∈ wsX5_net := (List.mem_cons_of_mem _ (List.mem_append_left _ (List.mem_append_left _ (List.mem_append_left _ (List.mem_of_getElem? (i := 3) rfl)))))
theorem qX5_net_methodLink_RX5_88_yX1_init : Cond.methodLink RX5 88 yX1_init ∈ wsX5_net := (List.mem_cons_of_mem _ (List.mem_append_left _ (List.mem_append_left _ (List.mem_append_left _ (List.mem_of_getElem? (i := 12) rfl)))))
theorem qX5_net_instanceMethod_yX1_init : Cond.instanceMethod yX1_init ∈ wsX5_net := (List.mem_cons_of_mem _ (List.mem_append_left _ (List.mem_append_left _ (List.mem_append_left _ (List.mem_of_getElem? (i := 13) rfl)))))
theorem qX5_net_fieldLink_RX5_17 : Cond.fieldLink RX5 17 "StageSwitch" "shelf" "[LStageSwitch$Net;" ∈ wsX5_net := (List.mem_cons_of_mem _ (List.mem_append_left _ (List.mem_append_left _ (List.mem_append_left _ (List.mem_of_getElem? (i := 4) rfl)))))
section SX5_net
variable {p : Program} {l : Launch} {e : Env} {s0 : State} {m : MethodId} {args : Array Value} {below : List Frame} {meth : Method} {c : Code} {D : va_G} {A : Nat → Prop} {H0 : Heap} {cy : Nat → ClassId} {Z : State → Prop}
theorem eX5_net (C : ctB p s0 m args c cX5_net 6 RX5 wsX5_net) (K : ctK s0 D A H0 cy) {o : Nat} {ad : Nat → Nat} {oa : Nat} {aa : Nat → Nat} {or_ : Nat} {ar : Nat → Nat} {op : Nat} {ap : Nat → Nat} {Q : Int32 → TS → Prop} (hQ : ∀ (v : Int32) (u : TS), Q v u → ∀ pc, decode cX5_net pc = .ok (.ireturn, 1) → atG p l e rmX5_net s0 m args below meth c 10 665 Z 6 (iW D A H0 (wX5 cy o ad oa aa or_ ar op ap u)) [] [.int v] pc) (s : TS) (x1 : Int32) (x2 : Int32) (x3 : Int32) (x4 : Int32) (h : pX5_net  s x1 x2 x3 x4 Q) : atG p l e rmX5_net s0 m args below meth c 0 0 Z 6 (iW D A H0 (wX5 cy o ad oa aa or_ ar op ap s)) [(0, .ref o), (1, .int x1), (2, .int x2), (3, .int x3), (4, .int x4)] [] 0 := by
  delta pX5_net at h
  refine aw_iload_n C dX5_net_0 1 rfl ?_
  refine aw_callS (As := [.int x1]) (rest := []) C (mtX5_isPlace l x1 _ h) (va_cwS 1 C.2.2.2.2.1 gX5_net_X5_isPlace rfl rfl rfl (by decide +kernel) ⟨Nat.le_of_ble_eq_true rfl, Nat.le_of_ble_eq_true rfl⟩) rfl rfl (Nat.le_of_ble_eq_true rfl) ⟨rfl, rfl⟩ ⟨Nat.zero_le _, Nat.zero_le _⟩ dX5_net_1 (fun r1 h => ?_)
  refine aw_if_eq (tgt := 38) C dX5_net_4 (by decide) (fun c4 => ?_) (fun c4 => ?_)
  · have h := h.1 c4
    refine aw_ldc (v := (-1000001)) C dX5_net_38 qX5_net_constant_RX5_54_1000001 ?_
    refine aw_widen (cells2 := 10) (slots2 := 665) (Nat.le_of_ble_eq_true rfl) (Nat.le_of_ble_eq_true rfl) ?_
    refine aw_lv [] rfl ?_
    exact hQ (-1000001) s h 40 dX5_net_40
  have h := h.2 c4
  refine aw_iload_n C dX5_net_7 2 rfl ?_
  refine aw_iconst (v := 1) C dX5_net_8 (by decide) ?_
  refine aw_bipush (v := 12) C dX5_net_9 (by decide) ?_
  refine aw_callS (As := [.int x2, .int 1, .int 12]) (rest := []) C (mtX5_within l x2 1 12 _ h) (va_cwS 3 C.2.2.2.2.1 gX5_net_X5_within rfl rfl rfl (by decide +kernel) ⟨Nat.le_of_ble_eq_true rfl, Nat.le_of_ble_eq_true rfl⟩) rfl rfl (Nat.le_of_ble_eq_true rfl) ⟨rfl, rfl⟩ ⟨Nat.zero_le _, Nat.zero_le _⟩ dX5_net_11 (fun r11 h => ?_)
  refine aw_if_eq (tgt := 38) C dX5_net_14 (by decide) (fun c14 => ?_) (fun c14 => ?_)
  · have h := h.1 c14
    refine aw_ldc (v := (-1000001)) C dX5_net_38 qX5_net_constant_RX5_54_1000001 ?_
    refine aw_widen (cells2 := 10) (slots2 := 665) (Nat.le_of_ble_eq_true rfl) (Nat.le_of_ble_eq_true rfl) ?_
    refine aw_lv [] rfl ?_
    exact hQ (-1000001) s h 40 dX5_net_40
  have h := h.2 c14
  refine aw_iload_n C dX5_net_17 3 rfl ?_
  refine aw_iconst (v := 1) C dX5_net_18 (by decide) ?_
  refine aw_bipush (v := 6) C dX5_net_19 (by decide) ?_
  refine aw_callS (As := [.int x3, .int 1, .int 6]) (rest := []) C (mtX5_within l x3 1 6 _ h) (va_cwS 3 C.2.2.2.2.1 gX5_net_X5_within rfl rfl rfl (by decide +kernel) ⟨Nat.le_of_ble_eq_true rfl, Nat.le_of_ble_eq_true rfl⟩) rfl rfl (Nat.le_of_ble_eq_true rfl) ⟨rfl, rfl⟩ ⟨Nat.zero_le _, Nat.zero_le _⟩ dX5_net_21 (fun r21 h => ?_)
  refine aw_if_eq (tgt := 38) C dX5_net_24 (by decide) (fun c24 => ?_) (fun c24 => ?_)
  · have h := h.1 c24
    refine aw_ldc (v := (-1000001)) C dX5_net_38 qX5_net_constant_RX5_54_1000001 ?_
    refine aw_widen (cells2 := 10) (slots2 := 665) (Nat.le_of_ble_eq_true rfl) (Nat.le_of_ble_eq_true rfl) ?_
    refine aw_lv [] rfl ?_
    exact hQ (-1000001) s h 40 dX5_net_40
  have h := h.2 c24
  refine aw_iload C dX5_net_27 4 rfl ?_
  refine aw_iconst (v := 1) C dX5_net_29 (by decide) ?_
  refine aw_bipush (v := 6) C dX5_net_30 (by decide) ?_
  refine aw_callS (As := [.int x4, .int 1, .int 6]) (rest := []) C (mtX5_within l x4 1 6 _ h) (va_cwS 3 C.2.2.2.2.1 gX5_net_X5_within rfl rfl rfl (by decide +kernel) ⟨Nat.le_of_ble_eq_true rfl, Nat.le_of_ble_eq_true rfl⟩) rfl rfl (Nat.le_of_ble_eq_true rfl) ⟨rfl, rfl⟩ ⟨Nat.zero_le _, Nat.zero_le _⟩ dX5_net_32 (fun r32 h => ?_)
  refine aw_if_ne (tgt := 41) C dX5_net_35 (by decide) (fun c35 => ?_) (fun c35 => ?_)
  · have h := h.2 c35
    refine aw_newX1 (fs := [.int 0, .int 0, .int 0, .int 0, .null, .null, .null, .null, .null, .null, .null, .null, .null, .int 0, .int 0, .int 0, .int 0]) (cells2 := 1) (slots2 := 17) C K inX5_net_1 dX5_net_41 qX5_net_classLink_RX5_15_RX1 qX5_net_instantiable_RX1_17 qX5_net_initialized_RX1 (fun j hj => match j, hj with | 0, _ => rfl | 1, _ => rfl | 2, _ => rfl | 3, _ => rfl | 4, _ => rfl | 5, _ => rfl | 6, _ => rfl | 7, _ => rfl | 8, _ => rfl | 9, _ => rfl | 10, _ => rfl | 11, _ => rfl | 12, _ => rfl | 13, _ => rfl | 14, _ => rfl | 15, _ => rfl | 16, _ => rfl | j + 17, h => absurd h (by omega)) rfl rfl ⟨Nat.le_of_ble_eq_true rfl, Nat.le_of_ble_eq_true rfl⟩ (fun q41 => ?_)
    refine aw_dup C dX5_net_44 rfl ?_
    refine aw_iload_n C dX5_net_45 2 rfl ?_
    refine aw_iload_n C dX5_net_46 3 rfl ?_
    refine aw_iload C dX5_net_47 4 rfl ?_
    refine aw_callInit (Wd := iwX1 cy q41) (cells2 := 10) (slots2 := 665) (Wx := fun u => (wX5 cy o ad oa aa or_ ar op ap s) ++ iwX1 cy q41 u) (wr := (wX5 cy o ad oa aa or_ ar op ap s)) (As := [.int x2, .int x3, .int x4]) (rest := [.ref q41]) C K (mtX1_init l D cy q41 x2 x3 x4 _ h) List.perm_append_comm (fun u => List.perm_append_comm) (cwI 3 C.2.2.2.2.1 gX5_net_X1_init rfl rfl rfl (C.2.2.2.2.1 _ qX5_net_initialized_RX1) (C.2.2.2.2.1 _ qX5_net_methodLink_RX5_88_yX1_init) (C.2.2.2.2.1 _ qX5_net_instanceMethod_yX1_init) rfl (by decide +kernel) ⟨Nat.le_of_ble_eq_true rfl, Nat.le_of_ble_eq_true rfl⟩) rfl rfl (Nat.le_of_ble_eq_true rfl) rfl rfl ⟨Nat.le_of_ble_eq_true rfl, Nat.le_of_ble_eq_true rfl⟩ dX5_net_49 ?_
    rintro ⟨a49, l49, t49⟩ h
    refine aw_perm (w1 := (wX5 cy o ad oa aa or_ ar op ap s) ++ wNt cy (some (q41, a49, l49, t49))) (List.Perm.refl _) ?_
    have h := h q41 a49
    refine aw_astore (lv' := [(5, .ref q41), (0, .ref o), (1, .int x1), (2, .int x2), (3, .int x3), (4, .int x4)]) C dX5_net_52 (by decide) rfl ?_
    refine aw_aload_n C dX5_net_54 1 rfl ?_
    refine aw_getX5 C K inX5_net_5 dX5_net_55 1 (by decide) qX5_net_fieldLink_RX5_17 0 (by rfl) rfl ?_
    refine aw_iload_n C dX5_net_58 2 rfl ?_
    refine aw_aload C dX5_net_59 0 rfl ?_
    obtain ⟨b61, h⟩ := h
    obtain ⟨k61, hk61⟩ := List.getElem?_of_mem (show ((q41, .inr (1, fsX1 a49 t49)) : Nat × va_E) ∈ wX5 cy o ad oa aa or_ ar op ap s ++ wNt cy (some (q41, a49, l49, t49)) from List.mem_append_right _ List.mem_cons_self)
    refine aw_aastQ C K dX5_net_61 2 5 k61 1 (by rfl) rfl hk61 rfl b61 rfl ?_
    refine aw_perm (w1 := (wX5 cy o ad oa aa or_ ar op ap (uN s x1.toNatClampNeg (some (q41, a49, l49, t49)))) ++ wNt cy (tN s x1.toNatClampNeg)) (stN cy o ad oa aa or_ ar op ap s (vp_in_lt b61) (some (q41, a49, l49, t49))) ?_
    refine aw_left ?_
    obtain ⟨s61, es61⟩ : ∃ z, z = (uN s x1.toNatClampNeg (some (q41, a49, l49, t49))) := ⟨_, rfl⟩
    rw [← es61]
    have h := h s61 es61
    have hzf61 : tN s61 x1.toNatClampNeg = (some (q41, a49, l49, t49)) := by rw [es61]; exact if_pos rfl
    refine aw_aload_n C dX5_net_62 1 rfl ?_
    refine aw_aload C dX5_net_63 0 rfl ?_
    refine aw_callFI (cells2 := 10) (slots2 := 665) (Wx := (fun u65 => (wX5 cy o ad oa aa or_ ar op ap (uN s61 x1.toNatClampNeg (some (q41, a49, l49, u65)))))) (wr := r5N cy o ad oa aa or_ ar op ap s61 x1.toNatClampNeg) (As := []) (rest := [.ref o]) C K (mtX1_toldKind l D cy q41 a49 l49 t49 _ h) (foN cy o ad oa aa or_ ar op ap s61 (vp_in_lt b61) hzf61) (fun u => (foN' cy o ad oa aa or_ ar op ap s61 (vp_in_lt b61) hzf61 u)) (cwV 0 C.2.2.2.2.1 gX5_net_X1_toldKind rfl rfl rfl (by decide +kernel) ⟨Nat.le_of_ble_eq_true rfl, Nat.le_of_ble_eq_true rfl⟩) 0 1 (wX1_g ..) rfl rfl rfl rfl (Nat.le_of_ble_eq_true rfl) rfl rfl ⟨Nat.le_of_ble_eq_true rfl, Nat.le_of_ble_eq_true rfl⟩ dX5_net_65 (fun r65 u65 h => ?_)
    obtain ⟨h, hu65⟩ := h
    refine aw_perm (w1 := (wX5 cy o ad oa aa or_ ar op ap s61)) (by show ((wX5 cy o ad oa aa or_ ar op ap (uN s61 x1.toNatClampNeg (some (q41, a49, l49, u65))))).Perm _; rw [hu65, uN_self hzf61] <;> exact List.Perm.refl _) ?_
    refine aw_callFI (cells2 := 10) (slots2 := 665) (Wx := wX5 cy o ad oa aa or_ ar op ap) (wr := []) (As := [.int r65]) (rest := []) C K (mtX5_fine l D cy o ad oa aa or_ ar op ap s61 r65 _ h) (permNil _) (fun u => permNil _) (cwV 1 C.2.2.2.2.1 gX5_net_X5_fine rfl rfl rfl (by decide +kernel) ⟨Nat.le_of_ble_eq_true rfl, Nat.le_of_ble_eq_true rfl⟩) 0 5 (g5 ..) rfl rfl rfl rfl (Nat.le_of_ble_eq_true rfl) rfl rfl ⟨Nat.le_of_ble_eq_true rfl, Nat.le_of_ble_eq_true rfl⟩ dX5_net_68 (fun r68 s68 h => ?_)
    refine aw_widen (cells2 := 10) (slots2 := 665) (Nat.le_of_ble_eq_true rfl) (Nat.le_of_ble_eq_true rfl) ?_
    refine aw_lv [] rfl ?_
    exact hQ r68 s68 h 71 dX5_net_71
  have h := h.1 c35
  refine aw_ldc (v := (-1000001)) C dX5_net_38 qX5_net_constant_RX5_54_1000001 ?_
  refine aw_widen (cells2 := 10) (slots2 := 665) (Nat.le_of_ble_eq_true rfl) (Nat.le_of_ble_eq_true rfl) ?_
  refine aw_lv [] rfl ?_
  exact hQ (-1000001) s h 40 dX5_net_40
end SX5_net
theorem mtX5_net (l : Launch) (D : va_G) (cy : Nat → ClassId) (o : Nat) (ad : Nat → Nat) (oa : Nat) (aa : Nat → Nat) (or_ : Nat) (ar : Nat → Nat) (op : Nat) (ap : Nat → Nat) (s : TS) (x1 : Int32) (x2 : Int32) (x3 : Int32) (x4 : Int32) (Q : Int32 → TS → Prop) (hw : pX5_net  s x1 x2 x3 x4 Q) : mI l yX5_net wsX5_net rmX5_net D cy [.ref o, .int x1, .int x2, .int x3, .int x4] (wX5 cy o ad oa aa or_ ar op ap s) (wX5 cy o ad oa aa or_ ar op ap) Q :=
  metIA (Wd := wX5 cy o ad oa aa or_ ar op ap) (by decide) rfl (Nat.le_of_ble_eq_true rfl) (fun hnm C K hQ => eX5_net C K hQ s x1 x2 x3 x4 hw)
