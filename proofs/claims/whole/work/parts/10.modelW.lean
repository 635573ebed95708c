def rmX6_found : Room := { frames := 0, cells := 0, slots := 0, locals := 0 }
theorem inX6_found_6 : ∀ w ∈ wsX60, w ∈ wsX6_found := fun w h => (List.mem_cons_of_mem _ (List.mem_append_right _ h))
theorem qX6_found_fieldLink_RX6_85 : Cond.fieldLink RX6 85 "StageSwitchModel" "status" "I" ∈ wsX6_found := (List.mem_cons_of_mem _ (List.mem_append_left _ (List.mem_of_getElem? (i := 0) rfl)))
theorem qX6_found_constant_RX6_88_1000010 : Cond.constant RX6 88 (-1000010) ∈ wsX6_found := (List.mem_cons_of_mem _ (List.mem_append_left _ (List.mem_of_getElem? (i := 1) rfl)))
section SX6_found
variable {p : Program} {l : Launch} {e : Env} {s0 : State} {m : MethodId} {args : Array Value} {below : List Frame} {meth : Method} {c : Code} {D : va_G} {A : Nat → Prop} {H0 : Heap} {cy : Nat → ClassId} {Z : State → Prop}
theorem eX6_found (C : ctB p s0 m args c cX6_found 2 RX6 wsX6_found) (K : ctK s0 D A H0 cy) {o : Nat} {ad : Nat → Nat} {Q : Int32 → St → Prop} (hQ : ∀ (v : Int32) (u : St), Q v u → ∀ pc, decode cX6_found pc = .ok (.ireturn, 1) → atG p l e rmX6_found s0 m args below meth c 0 0 Z 2 (iW D A H0 (wX6 cy o ad u)) [] [.int v] pc) (s : St) (x1 : Int32) (h : pX6_found  s x1 Q) : atG p l e rmX6_found s0 m args below meth c 0 0 Z 2 (iW D A H0 (wX6 cy o ad s)) [(0, .ref o), (1, .int x1)] [] 0 := by
  delta pX6_found at h
  refine aw_aload_n C dX6_found_0 0 rfl ?_
  refine aw_iload_n C dX6_found_1 1 rfl ?_
  refine aw_putX6 (ty := .int) C K inX6_found_6 dX6_found_2 1 (by decide) qX6_found_fieldLink_RX6_85 0 (wX6_g ..) rfl (by decide +kernel) rfl rfl (Nat.le_of_ble_eq_true rfl) (wX6_p1 ..) ?_
  obtain ⟨s2, es2⟩ : ∃ z, z = (uF s 1 x1) := ⟨_, rfl⟩
  rw [← es2]
  have h := h s2 es2
  refine aw_ldc (v := (-1000010)) C dX6_found_5 qX6_found_constant_RX6_88_1000010 ?_
  refine aw_iload_n C dX6_found_7 1 rfl ?_
  refine aw_isub C dX6_found_8 ?_
  refine aw_lv [] rfl ?_
  exact hQ ((-1000010) - x1) s2 h 9 dX6_found_9
end SX6_found
theorem mtX6_found (l : Launch) (D : va_G) (cy : Nat → ClassId) (o : Nat) (ad : Nat → Nat) (s : St) (x1 : Int32) (Q : Int32 → St → Prop) (hw : pX6_found  s x1 Q) : mI l yX6_found wsX6_found rmX6_found D cy [.ref o, .int x1] (wX6 cy o ad s) (wX6 cy o ad) Q :=
  metI (Wd := wX6 cy o ad) ⟨rfl, rfl⟩ (by decide) rfl (Nat.le_of_ble_eq_true rfl) (fun C K hQ => eX6_found C K hQ s x1 hw)
def rmX6_sheet : Room := { frames := 2, cells := 0, slots := 0, locals := 45 }
theorem inX6_sheet_6 : ∀ w ∈ wsX60, w ∈ wsX6_sheet := fun w h => (List.mem_cons_of_mem _ (List.mem_append_right _ h))
theorem qX6_sheet_fieldLink_RX6_81 : Cond.fieldLink RX6 81 "StageSwitchModel" "thrown" "I" ∈ wsX6_sheet := (List.mem_cons_of_mem _ (List.mem_append_left _ (List.mem_of_getElem? (i := 0) rfl)))
theorem qX6_sheet_constant_RX6_101_1000001 : Cond.constant RX6 101 (-1000001) ∈ wsX6_sheet := (List.mem_cons_of_mem _ (List.mem_append_left _ (List.mem_of_getElem? (i := 2) rfl)))
theorem qX6_sheet_constantLong_RX6_99_2 : Cond.constantLong RX6 99 (2) ∈ wsX6_sheet := (List.mem_cons_of_mem _ (List.mem_append_left _ (List.mem_of_getElem? (i := 1) rfl)))
theorem qX6_sheet_fieldLink_RX6_85 : Cond.fieldLink RX6 85 "StageSwitchModel" "status" "I" ∈ wsX6_sheet := (List.mem_cons_of_mem _ (List.mem_append_left _ (List.mem_of_getElem? (i := 3) rfl)))
theorem qX6_sheet_fieldLink_RX6_7 : Cond.fieldLink RX6 7 "StageSwitchModel" "lane" "[I" ∈ wsX6_sheet := (List.mem_cons_of_mem _ (List.mem_append_left _ (List.mem_of_getElem? (i := 4) rfl)))
theorem qX6_sheet_fieldLink_RX6_13 : Cond.fieldLink RX6 13 "StageSwitchModel" "many" "[I" ∈ wsX6_sheet := (List.mem_cons_of_mem _ (List.mem_append_left _ (List.mem_of_getElem? (i := 5) rfl)))
theorem qX6_sheet_fieldLink_RX6_16 : Cond.fieldLink RX6 16 "StageSwitchModel" "item" "[I" ∈ wsX6_sheet := (List.mem_cons_of_mem _ (List.mem_append_left _ (List.mem_of_getElem? (i := 6) rfl)))
section SX6_sheet
variable {p : Program} {l : Launch} {e : Env} {s0 : State} {m : MethodId} {args : Array Value} {below : List Frame} {meth : Method} {c : Code} {D : va_G} {A : Nat → Prop} {H0 : Heap} {cy : Nat → ClassId} {Z : State → Prop}
theorem tbX6_sheet_65 (C : ctB p s0 m args c cX6_sheet 5 RX6 wsX6_sheet) (K : ctK s0 D A H0 cy) {o : Nat} {ad : Nat → Nat}  {x1 : Int32} {x3 : Int32} {k91 : St → Prop} (hk91 : ∀ (s : St), k91 s → atG p l e rmX6_sheet s0 m args below meth c 0 0 Z 5 (iW D A H0 (wX6 cy o ad s)) [(0, .ref o), (3, .int x3)] [] 91) {kH : St → Int32 → Prop} (hkH : ∀ (s : St) (y4 : Int32), kH s y4 → atG p l e rmX6_sheet s0 m args below meth c 0 0 Z 5 (iW D A H0 (wX6 cy o ad s)) [(0, .ref o), (1, .int x1), (3, .int x3), (4, .int y4)] [] 65) (s : St) (x4 : Int32) (h : bX6_sheet_65 x1 x3 k91 kH s x4) : atG p l e rmX6_sheet s0 m args below meth c 0 0 Z 5 (iW D A H0 (wX6 cy o ad s)) [(0, .ref o), (1, .int x1), (3, .int x3), (4, .int x4)] [] 65 := by
  delta bX6_sheet_65 at h
  refine aw_iload C dX6_sheet_65 3 rfl ?_
  refine aw_bipush (v := 64) C dX6_sheet_67 (by decide) ?_
  refine aw_icmp_ge (tgt := 91) C dX6_sheet_69 (by decide) (fun c69 => ?_) (fun c69 => ?_)
  · have h := h.1 c69
    refine aw_lv [0, 2] rfl ?_
    exact hk91 s h
  have h := h.2 c69
  refine aw_aload_n C dX6_sheet_72 0 rfl ?_
  refine aw_getX6 C K inX6_sheet_6 dX6_sheet_73 4 (by decide) qX6_sheet_fieldLink_RX6_16 0 (wX6_g ..) rfl ?_
  refine aw_bipush (v := 64) C dX6_sheet_76 (by decide) ?_
  refine aw_iload_n C dX6_sheet_78 1 rfl ?_
  refine aw_imul C dX6_sheet_79 ?_
  refine aw_iload C dX6_sheet_80 3 rfl ?_
  refine aw_iadd C dX6_sheet_82 ?_
  refine aw_iconst (v := 0) C dX6_sheet_83 (by decide) ?_
  obtain ⟨b84, h⟩ := h
  refine aw_iast C K dX6_sheet_84 3 (wX6_g4 ..) (wX6_s4 ..) b84 ?_
  obtain ⟨s84, es84⟩ : ∃ z, z = (uA s 4 (upd (sA s 4) ((64 * x1) + x4).toNatClampNeg 0)) := ⟨_, rfl⟩
  rw [← es84]
  have h := h s84 es84
  obtain ⟨x4_85, ex4_85⟩ : ∃ y : Int32, y = x4 + 1 := ⟨_, rfl⟩
  have h := h x4_85 ex4_85
  refine aw_iinc (v := x4_85) (lv' := [(4, .int x4_85), (0, .ref o), (1, .int x1), (3, .int x3)]) C dX6_sheet_85 3 rfl (by rw [ex4_85]; rfl) (by decide) rfl ?_
  refine aw_goto (tgt := 65) C dX6_sheet_88 (by decide) ?_
  refine aw_lv [1, 2, 3, 0] rfl ?_
  exact hkH s84 x4_85 h
theorem tlX6_sheet_65 (C : ctB p s0 m args c cX6_sheet 5 RX6 wsX6_sheet) (K : ctK s0 D A H0 cy) {o : Nat} {ad : Nat → Nat}  {x1 : Int32} {x3 : Int32} {k91 : St → Prop} (hk91 : ∀ (s : St), k91 s → atG p l e rmX6_sheet s0 m args below meth c 0 0 Z 5 (iW D A H0 (wX6 cy o ad s)) [(0, .ref o), (3, .int x3)] [] 91) (s : St) (x4 : Int32) (h : lX6_sheet_65 x1 x3 k91 s x4) : atG p l e rmX6_sheet s0 m args below meth c 0 0 Z 5 (iW D A H0 (wX6 cy o ad s)) [(0, .ref o), (1, .int x1), (3, .int x3), (4, .int x4)] [] 65 :=
  lp_W (σ := St × Int32) (P := fun q => atG p l e rmX6_sheet s0 m args below meth c 0 0 Z 5 (iW D A H0 (wX6 cy o ad q.1)) [(0, .ref o), (1, .int x1), (3, .int x3), (4, .int q.2)] [] 65) (fun K2 hK2 q hb => tbX6_sheet_65 C K hk91 (fun s x4 hk => hK2 (s, x4) hk) q.1 q.2 hb) (s, x4) h
theorem eX6_sheet (C : ctB p s0 m args c cX6_sheet 5 RX6 wsX6_sheet) (K : ctK s0 D A H0 cy) {o : Nat} {ad : Nat → Nat} {Q : Int32 → St → Prop} (hQ : ∀ (v : Int32) (u : St), Q v u → ∀ pc, decode cX6_sheet pc = .ok (.ireturn, 1) → atG p l e rmX6_sheet s0 m args below meth c 0 0 Z 5 (iW D A H0 (wX6 cy o ad u)) [] [.int v] pc) (s : St) (x1 : Int32) (x2 : Int32) (x3 : Int32) (h : pX6_sheet  s x1 x2 x3 Q) : atG p l e rmX6_sheet s0 m args below meth c 0 0 Z 5 (iW D A H0 (wX6 cy o ad s)) [(0, .ref o), (1, .int x1), (2, .int x2), (3, .int x3)] [] 0 := by
  delta pX6_sheet at h
  refine aw_aload_n C dX6_sheet_0 0 rfl ?_
  refine aw_iconst (v := 0) C dX6_sheet_1 (by decide) ?_
  refine aw_putX6 (ty := .int) C K inX6_sheet_6 dX6_sheet_2 0 (by decide) qX6_sheet_fieldLink_RX6_81 0 (wX6_g ..) rfl (by decide +kernel) rfl rfl (Nat.le_of_ble_eq_true rfl) (wX6_p0 ..) ?_
  obtain ⟨s2, es2⟩ : ∃ z, z = (uF s 0 0) := ⟨_, rfl⟩
  rw [← es2]
  have h := h s2 es2
  refine aw_iload_n C dX6_sheet_5 1 rfl ?_
  refine aw_callS (As := [.int x1]) (rest := []) C (mtX6_isSheet l x1 _ h) (va_cwS 1 C.2.2.2.2.1 gX6_sheet_X6_isSheet rfl rfl rfl (by decide +kernel) ⟨Nat.le_of_ble_eq_true rfl, Nat.le_of_ble_eq_true rfl⟩) rfl rfl (Nat.le_of_ble_eq_true rfl) ⟨rfl, rfl⟩ ⟨Nat.zero_le _, Nat.zero_le _⟩ dX6_sheet_6 (fun r6 h => ?_)
  refine aw_if_eq (tgt := 30) C dX6_sheet_9 (by decide) (fun c9 => ?_) (fun c9 => ?_)
  · have h := h.1 c9
    refine aw_ldc (v := (-1000001)) C dX6_sheet_30 qX6_sheet_constant_RX6_101_1000001 ?_
    refine aw_lv [] rfl ?_
    exact hQ (-1000001) s2 h 32 dX6_sheet_32
  have h := h.2 c9
  refine aw_iload_n C dX6_sheet_12 2 rfl ?_
  refine aw_i2l C dX6_sheet_13 ?_
  refine aw_lconst (v := 0) C dX6_sheet_14 (by decide) ?_
  refine aw_ldc2 (v := 2) C dX6_sheet_15 qX6_sheet_constantLong_RX6_99_2 ?_
  refine aw_callS (As := [.long x2.toInt64, .long 0, .long 2]) (rest := []) C (mtX6_in l x2.toInt64 0 2 _ h) (va_cwS 3 C.2.2.2.2.1 gX6_sheet_X6_in rfl rfl rfl (by decide +kernel) ⟨Nat.le_of_ble_eq_true rfl, Nat.le_of_ble_eq_true rfl⟩) rfl rfl (Nat.le_of_ble_eq_true rfl) ⟨rfl, rfl⟩ ⟨Nat.zero_le _, Nat.zero_le _⟩ dX6_sheet_18 (fun r18 h => ?_)
  refine aw_if_eq (tgt := 30) C dX6_sheet_21 (by decide) (fun c21 => ?_) (fun c21 => ?_)
  · have h := h.1 c21
    refine aw_ldc (v := (-1000001)) C dX6_sheet_30 qX6_sheet_constant_RX6_101_1000001 ?_
    refine aw_lv [] rfl ?_
    exact hQ (-1000001) s2 h 32 dX6_sheet_32
  have h := h.2 c21
  refine aw_iload_n C dX6_sheet_24 3 rfl ?_
  refine aw_bipush (v := 64) C dX6_sheet_25 (by decide) ?_
  refine aw_icmp_le (tgt := 33) C dX6_sheet_27 (by decide) (fun c27 => ?_) (fun c27 => ?_)
  · have h := h.1 c27
    refine aw_aload_n C dX6_sheet_33 0 rfl ?_
    refine aw_iconst (v := 0) C dX6_sheet_34 (by decide) ?_
    refine aw_putX6 (ty := .int) C K inX6_sheet_6 dX6_sheet_35 1 (by decide) qX6_sheet_fieldLink_RX6_85 0 (wX6_g ..) rfl (by decide +kernel) rfl rfl (Nat.le_of_ble_eq_true rfl) (wX6_p1 ..) ?_
    obtain ⟨s35, es35⟩ : ∃ z, z = (uF s2 1 0) := ⟨_, rfl⟩
    rw [← es35]
    have h := h s35 es35
    refine aw_iload_n C dX6_sheet_38 3 rfl ?_
    refine aw_if_ge (tgt := 48) C dX6_sheet_39 (by decide) (fun c39 => ?_) (fun c39 => ?_)
    · have h := h.1 c39
      refine aw_aload_n C dX6_sheet_48 0 rfl ?_
      refine aw_getX6 C K inX6_sheet_6 dX6_sheet_49 2 (by decide) qX6_sheet_fieldLink_RX6_7 0 (wX6_g ..) rfl ?_
      refine aw_iload_n C dX6_sheet_52 1 rfl ?_
      refine aw_iload_n C dX6_sheet_53 2 rfl ?_
      obtain ⟨b54, h⟩ := h
      refine aw_iast C K dX6_sheet_54 1 (wX6_g2 ..) (wX6_s2 ..) b54 ?_
      obtain ⟨s54, es54⟩ : ∃ z, z = (uA s35 2 (upd (sA s35 2) x1.toNatClampNeg x2)) := ⟨_, rfl⟩
      rw [← es54]
      have h := h s54 es54
      refine aw_aload_n C dX6_sheet_55 0 rfl ?_
      refine aw_getX6 C K inX6_sheet_6 dX6_sheet_56 3 (by decide) qX6_sheet_fieldLink_RX6_13 0 (wX6_g ..) rfl ?_
      refine aw_iload_n C dX6_sheet_59 1 rfl ?_
      refine aw_iload_n C dX6_sheet_60 3 rfl ?_
      obtain ⟨b61, h⟩ := h
      refine aw_iast C K dX6_sheet_61 2 (wX6_g3 ..) (wX6_s3 ..) b61 ?_
      obtain ⟨s61, es61⟩ : ∃ z, z = (uA s54 3 (upd (sA s54 3) x1.toNatClampNeg x3)) := ⟨_, rfl⟩
      rw [← es61]
      have h := h s61 es61
      refine aw_iconst (v := 0) C dX6_sheet_62 (by decide) ?_
      refine aw_istore (lv' := [(4, .int 0), (0, .ref o), (1, .int x1), (2, .int x2), (3, .int x3)]) C dX6_sheet_63 (by decide) rfl ?_
      refine aw_lv [1, 2, 4, 0] rfl ?_
      refine tlX6_sheet_65 C K ?_ s61 0 h
      intro s_91 h
      refine aw_iload_n C dX6_sheet_91 1 rfl ?_
      refine aw_lv [] rfl ?_
      exact hQ x3 s_91 h 92 dX6_sheet_92
    have h := h.2 c39
    refine aw_aload_n C dX6_sheet_42 0 rfl ?_
    refine aw_iconst (v := 4) C dX6_sheet_43 (by decide) ?_
    refine aw_callI (As := [.int 4]) (rest := []) C K (mtX6_found l D cy o ad s35 4 _ h) (cwV 1 C.2.2.2.2.1 gX6_sheet_X6_found rfl rfl rfl (by decide +kernel) ⟨Nat.le_of_ble_eq_true rfl, Nat.le_of_ble_eq_true rfl⟩) 0 6 (wX6_g ..) rfl rfl rfl rfl (Nat.le_of_ble_eq_true rfl) ⟨Nat.le_of_ble_eq_true rfl, Nat.le_of_ble_eq_true rfl⟩ dX6_sheet_44 (fun r44 s44 h => ?_)
    refine aw_lv [] rfl ?_
    exact hQ r44 s44 h 47 dX6_sheet_47
  have h := h.2 c27
  refine aw_ldc (v := (-1000001)) C dX6_sheet_30 qX6_sheet_constant_RX6_101_1000001 ?_
  refine aw_lv [] rfl ?_
  exact hQ (-1000001) s2 h 32 dX6_sheet_32
end SX6_sheet
theorem mtX6_sheet (l : Launch) (D : va_G) (cy : Nat → ClassId) (o : Nat) (ad : Nat → Nat) (s : St) (x1 : Int32) (x2 : Int32) (x3 : Int32) (Q : Int32 → St → Prop) (hw : pX6_sheet  s x1 x2 x3 Q) : mI l yX6_sheet wsX6_sheet rmX6_sheet D cy [.ref o, .int x1, .int x2, .int x3] (wX6 cy o ad s) (wX6 cy o ad) Q :=
  metI (Wd := wX6 cy o ad) ⟨rfl, rfl⟩ (by decide) rfl (Nat.le_of_ble_eq_true rfl) (fun C K hQ => eX6_sheet C K hQ s x1 x2 x3 hw)
def rmX6_set : Room := { frames := 2, cells := 0, slots := 0, locals := 45 }
theorem inX6_set_6 : ∀ w ∈ wsX60, w ∈ wsX6_set := fun w h => (List.mem_cons_of_mem _ (List.mem_append_right _ h))
theorem qX6_set_fieldLink_RX6_81 : Cond.fieldLink RX6 81 "StageSwitchModel" "thrown" "I" ∈ wsX6_set := (List.mem_cons_of_mem _ (List.mem_append_left _ (List.mem_of_getElem? (i := 0) rfl)))
theorem qX6_set_fieldLink_RX6_85 : Cond.fieldLink RX6 85 "StageSwitchModel" "status" "I" ∈ wsX6_set := (List.mem_cons_of_mem _ (List.mem_append_left _ (List.mem_of_getElem? (i := 2) rfl)))
theorem qX6_set_fieldLink_RX6_7 : Cond.fieldLink RX6 7 "StageSwitchModel" "lane" "[I" ∈ wsX6_set := (List.mem_cons_of_mem _ (List.mem_append_left _ (List.mem_of_getElem? (i := 3) rfl)))
theorem qX6_set_fieldLink_RX6_13 : Cond.fieldLink RX6 13 "StageSwitchModel" "many" "[I" ∈ wsX6_set := (List.mem_cons_of_mem _ (List.mem_append_left _ (List.mem_of_getElem? (i := 4) rfl)))
theorem qX6_set_fieldLink_RX6_16 : Cond.fieldLink RX6 16 "StageSwitchModel" "item" "[I" ∈ wsX6_set := (List.mem_cons_of_mem _ (List.mem_append_left _ (List.mem_of_getElem? (i := 5) rfl)))
theorem qX6_set_constant_RX6_101_1000001 : Cond.constant RX6 101 (-1000001) ∈ wsX6_set := (List.mem_cons_of_mem _ (List.mem_append_left _ (List.mem_of_getElem? (i := 1) rfl)))
section SX6_set
variable {p : Program} {l : Launch} {e : Env} {s0 : State} {m : MethodId} {args : Array Value} {below : List Frame} {meth : Method} {c : Code} {D : va_G} {A : Nat → Prop} {H0 : Heap} {cy : Nat → ClassId} {Z : State → Prop}
theorem eX6_set (C : ctB p s0 m args c cX6_set 4 RX6 wsX6_set) (K : ctK s0 D A H0 cy) {o : Nat} {ad : Nat → Nat} {Q : Int32 → St → Prop} (hQ : ∀ (v : Int32) (u : St), Q v u → ∀ pc, decode cX6_set pc = .ok (.ireturn, 1) → atG p l e rmX6_set s0 m args below meth c 0 0 Z 4 (iW D A H0 (wX6 cy o ad u)) [] [.int v] pc) (s : St) (x1 : Int32) (x2 : Int32) (x3 : Int32) (h : pX6_set  s x1 x2 x3 Q) : atG p l e rmX6_set s0 m args below meth c 0 0 Z 4 (iW D A H0 (wX6 cy o ad s)) [(0, .ref o), (1, .int x1), (2, .int x2), (3, .int x3)] [] 0 := by
  delta pX6_set at h
  refine aw_aload_n C dX6_set_0 0 rfl ?_
  refine aw_iconst (v := 0) C dX6_set_1 (by decide) ?_
  refine aw_putX6 (ty := .int) C K inX6_set_6 dX6_set_2 0 (by decide) qX6_set_fieldLink_RX6_81 0 (wX6_g ..) rfl (by decide +kernel) rfl rfl (Nat.le_of_ble_eq_true rfl) (wX6_p0 ..) ?_
  obtain ⟨s2, es2⟩ : ∃ z, z = (uF s 0 0) := ⟨_, rfl⟩
  rw [← es2]
  have h := h s2 es2
  refine aw_iload_n C dX6_set_5 1 rfl ?_
  refine aw_callS (As := [.int x1]) (rest := []) C (mtX6_isSheet l x1 _ h) (va_cwS 1 C.2.2.2.2.1 gX6_set_X6_isSheet rfl rfl rfl (by decide +kernel) ⟨Nat.le_of_ble_eq_true rfl, Nat.le_of_ble_eq_true rfl⟩) rfl rfl (Nat.le_of_ble_eq_true rfl) ⟨rfl, rfl⟩ ⟨Nat.zero_le _, Nat.zero_le _⟩ dX6_set_6 (fun r6 h => ?_)
  refine aw_if_ne (tgt := 15) C dX6_set_9 (by decide) (fun c9 => ?_) (fun c9 => ?_)
  · have h := h.2 c9
    refine aw_aload_n C dX6_set_15 0 rfl ?_
    refine aw_iconst (v := 0) C dX6_set_16 (by decide) ?_
    refine aw_putX6 (ty := .int) C K inX6_set_6 dX6_set_17 1 (by decide) qX6_set_fieldLink_RX6_85 0 (wX6_g ..) rfl (by decide +kernel) rfl rfl (Nat.le_of_ble_eq_true rfl) (wX6_p1 ..) ?_
    obtain ⟨s17, es17⟩ : ∃ z, z = (uF s2 1 0) := ⟨_, rfl⟩
    rw [← es17]
    have h := h s17 es17
    refine aw_aload_n C dX6_set_20 0 rfl ?_
    refine aw_getX6 C K inX6_set_6 dX6_set_21 2 (by decide) qX6_set_fieldLink_RX6_7 0 (wX6_g ..) rfl ?_
    refine aw_iload_n C dX6_set_24 1 rfl ?_
    obtain ⟨b25, h⟩ := h
    refine aw_iald C K dX6_set_25 1 (wX6_g2 ..) b25 ?_
    refine aw_if_ge (tgt := 35) C dX6_set_26 (by decide) (fun c26 => ?_) (fun c26 => ?_)
    · have h := h.1 c26
      refine aw_iload_n C dX6_set_35 2 rfl ?_
      refine aw_i2l C dX6_set_36 ?_
      refine aw_lconst (v := 0) C dX6_set_37 (by decide) ?_
      refine aw_aload_n C dX6_set_38 0 rfl ?_
      refine aw_getX6 C K inX6_set_6 dX6_set_39 3 (by decide) qX6_set_fieldLink_RX6_13 0 (wX6_g ..) rfl ?_
      refine aw_iload_n C dX6_set_42 1 rfl ?_
      obtain ⟨b43, h⟩ := h
      refine aw_iald C K dX6_set_43 2 (wX6_g3 ..) b43 ?_
      refine aw_iconst (v := 1) C dX6_set_44 (by decide) ?_
      refine aw_isub C dX6_set_45 ?_
      refine aw_i2l C dX6_set_46 ?_
      refine aw_callS (As := [.long x2.toInt64, .long 0, .long (((sA s17 3 x1.toNatClampNeg) - 1).toInt64)]) (rest := []) C (mtX6_in l x2.toInt64 0 (((sA s17 3 x1.toNatClampNeg) - 1).toInt64) _ h) (va_cwS 3 C.2.2.2.2.1 gX6_set_X6_in rfl rfl rfl (by decide +kernel) ⟨Nat.le_of_ble_eq_true rfl, Nat.le_of_ble_eq_true rfl⟩) rfl rfl (Nat.le_of_ble_eq_true rfl) ⟨rfl, rfl⟩ ⟨Nat.zero_le _, Nat.zero_le _⟩ dX6_set_47 (fun r47 h => ?_)
      refine aw_if_ne (tgt := 59) C dX6_set_50 (by decide) (fun c50 => ?_) (fun c50 => ?_)
      · have h := h.2 c50
        refine aw_aload_n C dX6_set_59 0 rfl ?_
        refine aw_getX6 C K inX6_set_6 dX6_set_60 4 (by decide) qX6_set_fieldLink_RX6_16 0 (wX6_g ..) rfl ?_
        refine aw_bipush (v := 64) C dX6_set_63 (by decide) ?_
        refine aw_iload_n C dX6_set_65 1 rfl ?_
        refine aw_imul C dX6_set_66 ?_
        refine aw_iload_n C dX6_set_67 2 rfl ?_
        refine aw_iadd C dX6_set_68 ?_
        refine aw_aload_n C dX6_set_69 0 rfl ?_
        refine aw_getX6 C K inX6_set_6 dX6_set_70 2 (by decide) qX6_set_fieldLink_RX6_7 0 (wX6_g ..) rfl ?_
        refine aw_iload_n C dX6_set_73 1 rfl ?_
        obtain ⟨b74, h⟩ := h
        refine aw_iald C K dX6_set_74 1 (wX6_g2 ..) b74 ?_
        refine aw_if_ne (tgt := 83) C dX6_set_75 (by decide) (fun c75 => ?_) (fun c75 => ?_)
        · have h := h.2 c75
          refine aw_aload_n C dX6_set_83 0 rfl ?_
          refine aw_getX6 C K inX6_set_6 dX6_set_84 2 (by decide) qX6_set_fieldLink_RX6_7 0 (wX6_g ..) rfl ?_
          refine aw_iload_n C dX6_set_87 1 rfl ?_
          obtain ⟨b88, h⟩ := h
          refine aw_iald C K dX6_set_88 1 (wX6_g2 ..) b88 ?_
          refine aw_iconst (v := 1) C dX6_set_89 (by decide) ?_
          refine aw_icmp_ne (tgt := 98) C dX6_set_90 (by decide) (fun c90 => ?_) (fun c90 => ?_)
          · have h := h.2 c90
            refine aw_iload_n C dX6_set_98 3 rfl ?_
            obtain ⟨b99, h⟩ := h
            refine aw_iast C K dX6_set_99 3 (wX6_g4 ..) (wX6_s4 ..) b99 ?_
            obtain ⟨s99, es99⟩ : ∃ z, z = (uA s17 4 (upd (sA s17 4) ((64 * x1) + x2).toNatClampNeg x3)) := ⟨_, rfl⟩
            rw [← es99]
            have h := h s99 es99
            refine aw_aload_n C dX6_set_100 0 rfl ?_
            refine aw_getX6 C K inX6_set_6 dX6_set_101 4 (by decide) qX6_set_fieldLink_RX6_16 0 (wX6_g ..) rfl ?_
            refine aw_bipush (v := 64) C dX6_set_104 (by decide) ?_
            refine aw_iload_n C dX6_set_106 1 rfl ?_
            refine aw_imul C dX6_set_107 ?_
            refine aw_iload_n C dX6_set_108 2 rfl ?_
            refine aw_iadd C dX6_set_109 ?_
            obtain ⟨b110, h⟩ := h
            refine aw_iald C K dX6_set_110 3 (wX6_g4 ..) b110 ?_
            refine aw_lv [] rfl ?_
            exact hQ (sA s99 4 ((64 * x1) + x2).toNatClampNeg) s99 h 111 dX6_set_111
          have h := h.1 c90
          refine aw_iload_n C dX6_set_93 3 rfl ?_
          refine aw_i2s C dX6_set_94 ?_
          refine aw_goto (tgt := 99) C dX6_set_95 (by decide) ?_
          obtain ⟨b99, h⟩ := h
          refine aw_iast C K dX6_set_99 3 (wX6_g4 ..) (wX6_s4 ..) b99 ?_
          obtain ⟨s99, es99⟩ : ∃ z, z = (uA s17 4 (upd (sA s17 4) ((64 * x1) + x2).toNatClampNeg x3.toInt16.toInt32)) := ⟨_, rfl⟩
          rw [← es99]
          have h := h s99 es99
          refine aw_aload_n C dX6_set_100 0 rfl ?_
          refine aw_getX6 C K inX6_set_6 dX6_set_101 4 (by decide) qX6_set_fieldLink_RX6_16 0 (wX6_g ..) rfl ?_
          refine aw_bipush (v := 64) C dX6_set_104 (by decide) ?_
          refine aw_iload_n C dX6_set_106 1 rfl ?_
          refine aw_imul C dX6_set_107 ?_
          refine aw_iload_n C dX6_set_108 2 rfl ?_
          refine aw_iadd C dX6_set_109 ?_
          obtain ⟨b110, h⟩ := h
          refine aw_iald C K dX6_set_110 3 (wX6_g4 ..) b110 ?_
          refine aw_lv [] rfl ?_
          exact hQ (sA s99 4 ((64 * x1) + x2).toNatClampNeg) s99 h 111 dX6_set_111
        have h := h.1 c75
        refine aw_iload_n C dX6_set_78 3 rfl ?_
        refine aw_i2b C dX6_set_79 ?_
        refine aw_goto (tgt := 99) C dX6_set_80 (by decide) ?_
        obtain ⟨b99, h⟩ := h
        refine aw_iast C K dX6_set_99 3 (wX6_g4 ..) (wX6_s4 ..) b99 ?_
        obtain ⟨s99, es99⟩ : ∃ z, z = (uA s17 4 (upd (sA s17 4) ((64 * x1) + x2).toNatClampNeg x3.toInt8.toInt32)) := ⟨_, rfl⟩
        rw [← es99]
        have h := h s99 es99
        refine aw_aload_n C dX6_set_100 0 rfl ?_
        refine aw_getX6 C K inX6_set_6 dX6_set_101 4 (by decide) qX6_set_fieldLink_RX6_16 0 (wX6_g ..) rfl ?_
        refine aw_bipush (v := 64) C dX6_set_104 (by decide) ?_
        refine aw_iload_n C dX6_set_106 1 rfl ?_
        refine aw_imul C dX6_set_107 ?_
        refine aw_iload_n C dX6_set_108 2 rfl ?_
        refine aw_iadd C dX6_set_109 ?_
        obtain ⟨b110, h⟩ := h
        refine aw_iald C K dX6_set_110 3 (wX6_g4 ..) b110 ?_
        refine aw_lv [] rfl ?_
        exact hQ (sA s99 4 ((64 * x1) + x2).toNatClampNeg) s99 h 111 dX6_set_111
      have h := h.1 c50
      refine aw_aload_n C dX6_set_53 0 rfl ?_
      refine aw_iconst (v := 2) C dX6_set_54 (by decide) ?_
      refine aw_callI (As := [.int 2]) (rest := []) C K (mtX6_found l D cy o ad s17 2 _ h) (cwV 1 C.2.2.2.2.1 gX6_set_X6_found rfl rfl rfl (by decide +kernel) ⟨Nat.le_of_ble_eq_true rfl, Nat.le_of_ble_eq_true rfl⟩) 0 6 (wX6_g ..) rfl rfl rfl rfl (Nat.le_of_ble_eq_true rfl) ⟨Nat.le_of_ble_eq_true rfl, Nat.le_of_ble_eq_true rfl⟩ dX6_set_55 (fun r55 s55 h => ?_)
      refine aw_lv [] rfl ?_
      exact hQ r55 s55 h 58 dX6_set_58
    have h := h.2 c26
    refine aw_aload_n C dX6_set_29 0 rfl ?_
    refine aw_iconst (v := 1) C dX6_set_30 (by decide) ?_
    refine aw_callI (As := [.int 1]) (rest := []) C K (mtX6_found l D cy o ad s17 1 _ h) (cwV 1 C.2.2.2.2.1 gX6_set_X6_found rfl rfl rfl (by decide +kernel) ⟨Nat.le_of_ble_eq_true rfl, Nat.le_of_ble_eq_true rfl⟩) 0 6 (wX6_g ..) rfl rfl rfl rfl (Nat.le_of_ble_eq_true rfl) ⟨Nat.le_of_ble_eq_true rfl, Nat.le_of_ble_eq_true rfl⟩ dX6_set_31 (fun r31 s31 h => ?_)
    refine aw_lv [] rfl ?_
    exact hQ r31 s31 h 34 dX6_set_34
  have h := h.1 c9
  refine aw_ldc (v := (-1000001)) C dX6_set_12 qX6_set_constant_RX6_101_1000001 ?_
  refine aw_lv [] rfl ?_
  exact hQ (-1000001) s2 h 14 dX6_set_14
end SX6_set
theorem mtX6_set (l : Launch) (D : va_G) (cy : Nat → ClassId) (o : Nat) (ad : Nat → Nat) (s : St) (x1 : Int32) (x2 : Int32) (x3 : Int32) (Q : Int32 → St → Prop) (hw : pX6_set  s x1 x2 x3 Q) : mI l yX6_set wsX6_set rmX6_set D cy [.ref o, .int x1, .int x2, .int x3] (wX6 cy o ad s) (wX6 cy o ad) Q :=
  metI (Wd := wX6 cy o ad) ⟨rfl, rfl⟩ (by decide) rfl (Nat.le_of_ble_eq_true rfl) (fun C K hQ => eX6_set C K hQ s x1 x2 x3 hw)
def rmX6_copy : Room := { frames := 2, cells := 0, slots := 0, locals := 45 }
theorem inX6_copy_6 : ∀ w ∈ wsX60, w ∈ wsX6_copy := fun w h => (List.mem_cons_of_mem _ (List.mem_append_right _ h))
theorem qX6_copy_fieldLink_RX6_81 : Cond.fieldLink RX6 81 "StageSwitchModel" "thrown" "I" ∈ wsX6_copy := (List.mem_cons_of_mem _ (List.mem_append_left _ (List.mem_of_getElem? (i := 0) rfl)))
theorem qX6_copy_constant_RX6_101_1000001 : Cond.constant RX6 101 (-1000001) ∈ wsX6_copy := (List.mem_cons_of_mem _ (List.mem_append_left _ (List.mem_of_getElem? (i := 1) rfl)))
theorem qX6_copy_fieldLink_RX6_85 : Cond.fieldLink RX6 85 "StageSwitchModel" "status" "I" ∈ wsX6_copy := (List.mem_cons_of_mem _ (List.mem_append_left _ (List.mem_of_getElem? (i := 2) rfl)))
theorem qX6_copy_fieldLink_RX6_7 : Cond.fieldLink RX6 7 "StageSwitchModel" "lane" "[I" ∈ wsX6_copy := (List.mem_cons_of_mem _ (List.mem_append_left _ (List.mem_of_getElem? (i := 3) rfl)))
theorem qX6_copy_fieldLink_RX6_13 : Cond.fieldLink RX6 13 "StageSwitchModel" "many" "[I" ∈ wsX6_copy := (List.mem_cons_of_mem _ (List.mem_append_left _ (List.mem_of_getElem? (i := 4) rfl)))
theorem qX6_copy_fieldLink_RX6_16 : Cond.fieldLink RX6 16 "StageSwitchModel" "item" "[I" ∈ wsX6_copy := (List.mem_cons_of_mem _ (List.mem_append_left _ (List.mem_of_getElem? (i := 5) rfl)))
section SX6_copy
variable {p : Program} {l : Launch} {e : Env} {s0 : State} {m : MethodId} {args : Array Value} {below : List Frame} {meth : Method} {c : Code} {D : va_G} {A : Nat → Prop} {H0 : Heap} {cy : Nat → ClassId} {Z : State → Prop}
theorem tbX6_copy_143 (C : ctB p s0 m args c cX6_copy 9 RX6 wsX6_copy) (K : ctK s0 D A H0 cy) {o : Nat} {ad : Nat → Nat}  {x1 : Int32} {x2 : Int32} {x3 : Int32} {x4 : Int32} {x5 : Int32} {x6 : Int32} {k204 : St → Prop} (hk204 : ∀ (s : St), k204 s → atG p l e rmX6_copy s0 m args below meth c 0 0 Z 9 (iW D A H0 (wX6 cy o ad s)) [(0, .ref o), (5, .int x5)] [] 204) {kH : St → Int32 → Prop} (hkH : ∀ (s : St) (y7 : Int32), kH s y7 → atG p l e rmX6_copy s0 m args below meth c 0 0 Z 9 (iW D A H0 (wX6 cy o ad s)) [(0, .ref o), (1, .int x1), (2, .int x2), (3, .int x3), (4, .int x4), (5, .int x5), (6, .int x6), (7, .int y7)] [] 143) (s : St) (x7 : Int32) (h : bX6_copy_143 x1 x2 x3 x4 x5 x6 k204 kH s x7) : atG p l e rmX6_copy s0 m args below meth c 0 0 Z 9 (iW D A H0 (wX6 cy o ad s)) [(0, .ref o), (1, .int x1), (2, .int x2), (3, .int x3), (4, .int x4), (5, .int x5), (6, .int x6), (7, .int x7)] [] 143 := by
  delta bX6_copy_143 at h
  refine aw_iload C dX6_copy_143 7 rfl ?_
  refine aw_iload C dX6_copy_145 5 rfl ?_
  refine aw_icmp_ge (tgt := 204) C dX6_copy_147 (by decide) (fun c147 => ?_) (fun c147 => ?_)
  · have h := h.1 c147
    refine aw_lv [0, 5] rfl ?_
    exact hk204 s h
  have h := h.2 c147
  refine aw_iload C dX6_copy_150 6 rfl ?_
  refine aw_if_eq (tgt := 160) C dX6_copy_152 (by decide) (fun c152 => ?_) (fun c152 => ?_)
  · have h := h.1 c152
    refine aw_iload C dX6_copy_160 5 rfl ?_
    refine aw_iconst (v := 1) C dX6_copy_162 (by decide) ?_
    refine aw_isub C dX6_copy_163 ?_
    refine aw_iload C dX6_copy_164 7 rfl ?_
    refine aw_isub C dX6_copy_166 ?_
    refine aw_name (fun x8_167 ex8_167 => ?_)
    have h := h x8_167 ex8_167
    refine aw_istore (lv' := [(8, .int x8_167), (0, .ref o), (1, .int x1), (2, .int x2), (3, .int x3), (4, .int x4), (5, .int x5), (6, .int x6), (7, .int x7)]) C dX6_copy_167 (by decide) rfl ?_
    refine aw_aload_n C dX6_copy_169 1 rfl ?_
    refine aw_getX6 C K inX6_copy_6 dX6_copy_170 4 (by decide) qX6_copy_fieldLink_RX6_16 0 (wX6_g ..) rfl ?_
    refine aw_bipush (v := 64) C dX6_copy_173 (by decide) ?_
    refine aw_iload_n C dX6_copy_175 4 rfl ?_
    refine aw_imul C dX6_copy_176 ?_
    refine aw_iload C dX6_copy_177 5 rfl ?_
    refine aw_iadd C dX6_copy_179 ?_
    refine aw_iload C dX6_copy_180 0 rfl ?_
    refine aw_iadd C dX6_copy_182 ?_
    refine aw_aload_n C dX6_copy_183 1 rfl ?_
    refine aw_getX6 C K inX6_copy_6 dX6_copy_184 4 (by decide) qX6_copy_fieldLink_RX6_16 0 (wX6_g ..) rfl ?_
    refine aw_bipush (v := 64) C dX6_copy_187 (by decide) ?_
    refine aw_iload_n C dX6_copy_189 2 rfl ?_
    refine aw_imul C dX6_copy_190 ?_
    refine aw_iload_n C dX6_copy_191 3 rfl ?_
    refine aw_iadd C dX6_copy_192 ?_
    refine aw_iload C dX6_copy_193 0 rfl ?_
    refine aw_iadd C dX6_copy_195 ?_
    obtain ⟨b196, h⟩ := h
    refine aw_iald C K dX6_copy_196 3 (wX6_g4 ..) b196 ?_
    obtain ⟨b197, h⟩ := h
    refine aw_iast C K dX6_copy_197 3 (wX6_g4 ..) (wX6_s4 ..) b197 ?_
    obtain ⟨s197, es197⟩ : ∃ z, z = (uA s 4 (upd (sA s 4) (((64 * x3) + x4) + x8_167).toNatClampNeg (sA s 4 (((64 * x1) + x2) + x8_167).toNatClampNeg))) := ⟨_, rfl⟩
    rw [← es197]
    have h := h s197 es197
    obtain ⟨x7_198, ex7_198⟩ : ∃ y : Int32, y = x7 + 1 := ⟨_, rfl⟩
    have h := h x7_198 ex7_198
    refine aw_iinc (v := x7_198) (lv' := [(7, .int x7_198), (8, .int x8_167), (0, .ref o), (1, .int x1), (2, .int x2), (3, .int x3), (4, .int x4), (5, .int x5), (6, .int x6)]) C dX6_copy_198 8 rfl (by rw [ex7_198]; rfl) (by decide) rfl ?_
    refine aw_goto (tgt := 143) C dX6_copy_201 (by decide) ?_
    refine aw_lv [2, 3, 4, 5, 6, 7, 8, 0] rfl ?_
    exact hkH s197 x7_198 h
  have h := h.2 c152
  refine aw_iload C dX6_copy_155 7 rfl ?_
  refine aw_goto (tgt := 167) C dX6_copy_157 (by decide) ?_
  refine aw_istore (lv' := [(8, .int x7), (0, .ref o), (1, .int x1), (2, .int x2), (3, .int x3), (4, .int x4), (5, .int x5), (6, .int x6), (7, .int x7)]) C dX6_copy_167 (by decide) rfl ?_
  refine aw_aload_n C dX6_copy_169 1 rfl ?_
  refine aw_getX6 C K inX6_copy_6 dX6_copy_170 4 (by decide) qX6_copy_fieldLink_RX6_16 0 (wX6_g ..) rfl ?_
  refine aw_bipush (v := 64) C dX6_copy_173 (by decide) ?_
  refine aw_iload_n C dX6_copy_175 4 rfl ?_
  refine aw_imul C dX6_copy_176 ?_
  refine aw_iload C dX6_copy_177 5 rfl ?_
  refine aw_iadd C dX6_copy_179 ?_
  refine aw_iload C dX6_copy_180 0 rfl ?_
  refine aw_iadd C dX6_copy_182 ?_
  refine aw_aload_n C dX6_copy_183 1 rfl ?_
  refine aw_getX6 C K inX6_copy_6 dX6_copy_184 4 (by decide) qX6_copy_fieldLink_RX6_16 0 (wX6_g ..) rfl ?_
  refine aw_bipush (v := 64) C dX6_copy_187 (by decide) ?_
  refine aw_iload_n C dX6_copy_189 2 rfl ?_
  refine aw_imul C dX6_copy_190 ?_
  refine aw_iload_n C dX6_copy_191 3 rfl ?_
  refine aw_iadd C dX6_copy_192 ?_
  refine aw_iload C dX6_copy_193 0 rfl ?_
  refine aw_iadd C dX6_copy_195 ?_
  obtain ⟨b196, h⟩ := h
  refine aw_iald C K dX6_copy_196 3 (wX6_g4 ..) b196 ?_
  obtain ⟨b197, h⟩ := h
  refine aw_iast C K dX6_copy_197 3 (wX6_g4 ..) (wX6_s4 ..) b197 ?_
  obtain ⟨s197, es197⟩ : ∃ z, z = (uA s 4 (upd (sA s 4) (((64 * x3) + x4) + x7).toNatClampNeg (sA s 4 (((64 * x1) + x2) + x7).toNatClampNeg))) := ⟨_, rfl⟩
  rw [← es197]
  have h := h s197 es197
  obtain ⟨x7_198, ex7_198⟩ : ∃ y : Int32, y = x7 + 1 := ⟨_, rfl⟩
  have h := h x7_198 ex7_198
  refine aw_iinc (v := x7_198) (lv' := [(7, .int x7_198), (8, .int x7), (0, .ref o), (1, .int x1), (2, .int x2), (3, .int x3), (4, .int x4), (5, .int x5), (6, .int x6)]) C dX6_copy_198 8 rfl (by rw [ex7_198]; rfl) (by decide) rfl ?_
  refine aw_goto (tgt := 143) C dX6_copy_201 (by decide) ?_
  refine aw_lv [2, 3, 4, 5, 6, 7, 8, 0] rfl ?_
  exact hkH s197 x7_198 h
theorem tlX6_copy_143 (C : ctB p s0 m args c cX6_copy 9 RX6 wsX6_copy) (K : ctK s0 D A H0 cy) {o : Nat} {ad : Nat → Nat}  {x1 : Int32} {x2 : Int32} {x3 : Int32} {x4 : Int32} {x5 : Int32} {x6 : Int32} {k204 : St → Prop} (hk204 : ∀ (s : St), k204 s → atG p l e rmX6_copy s0 m args below meth c 0 0 Z 9 (iW D A H0 (wX6 cy o ad s)) [(0, .ref o), (5, .int x5)] [] 204) (s : St) (x7 : Int32) (h : lX6_copy_143 x1 x2 x3 x4 x5 x6 k204 s x7) : atG p l e rmX6_copy s0 m args below meth c 0 0 Z 9 (iW D A H0 (wX6 cy o ad s)) [(0, .ref o), (1, .int x1), (2, .int x2), (3, .int x3), (4, .int x4), (5, .int x5), (6, .int x6), (7, .int x7)] [] 143 :=
  lp_W (σ := St × Int32) (P := fun q => atG p l e rmX6_copy s0 m args below meth c 0 0 Z 9 (iW D A H0 (wX6 cy o ad q.1)) [(0, .ref o), (1, .int x1), (2, .int x2), (3, .int x3), (4, .int x4), (5, .int x5), (6, .int x6), (7, .int q.2)] [] 143) (fun K2 hK2 q hb => tbX6_copy_143 C K hk204 (fun s x7 hk => hK2 (s, x7) hk) q.1 q.2 hb) (s, x7) h
theorem eX6_copy (C : ctB p s0 m args c cX6_copy 9 RX6 wsX6_copy) (K : ctK s0 D A H0 cy) {o : Nat} {ad : Nat → Nat} {Q : Int32 → St → Prop} (hQ : ∀ (v : Int32) (u : St), Q v u → ∀ pc, decode cX6_copy pc = .ok (.ireturn, 1) → atG p l e rmX6_copy s0 m args below meth c 0 0 Z 9 (iW D A H0 (wX6 cy o ad u)) [] [.int v] pc) (s : St) (x1 : Int32) (x2 : Int32) (x3 : Int32) (x4 : Int32) (x5 : Int32) (h : pX6_copy  s x1 x2 x3 x4 x5 Q) : atG p l e rmX6_copy s0 m args below meth c 0 0 Z 9 (iW D A H0 (wX6 cy o ad s)) [(0, .ref o), (1, .int x1), (2, .int x2), (3, .int x3), (4, .int x4), (5, .int x5)] [] 0 := by
  delta pX6_copy at h
  refine aw_aload_n C dX6_copy_0 0 rfl ?_
  refine aw_iconst (v := 0) C dX6_copy_1 (by decide) ?_
  refine aw_putX6 (ty := .int) C K inX6_copy_6 dX6_copy_2 0 (by decide) qX6_copy_fieldLink_RX6_81 0 (wX6_g ..) rfl (by decide +kernel) rfl rfl (Nat.le_of_ble_eq_true rfl) (wX6_p0 ..) ?_
  obtain ⟨s2, es2⟩ : ∃ z, z = (uF s 0 0) := ⟨_, rfl⟩
  rw [← es2]
  have h := h s2 es2
  refine aw_iload_n C dX6_copy_5 1 rfl ?_
  refine aw_callS (As := [.int x1]) (rest := []) C (mtX6_isSheet l x1 _ h) (va_cwS 1 C.2.2.2.2.1 gX6_copy_X6_isSheet rfl rfl rfl (by decide +kernel) ⟨Nat.le_of_ble_eq_true rfl, Nat.le_of_ble_eq_true rfl⟩) rfl rfl (Nat.le_of_ble_eq_true rfl) ⟨rfl, rfl⟩ ⟨Nat.zero_le _, Nat.zero_le _⟩ dX6_copy_6 (fun r6 h => ?_)
  refine aw_if_eq (tgt := 19) C dX6_copy_9 (by decide) (fun c9 => ?_) (fun c9 => ?_)
  · have h := h.1 c9
    refine aw_ldc (v := (-1000001)) C dX6_copy_19 qX6_copy_constant_RX6_101_1000001 ?_
    refine aw_lv [] rfl ?_
    exact hQ (-1000001) s2 h 21 dX6_copy_21
  have h := h.2 c9
  refine aw_iload_n C dX6_copy_12 3 rfl ?_
  refine aw_callS (As := [.int x3]) (rest := []) C (mtX6_isSheet l x3 _ h) (va_cwS 1 C.2.2.2.2.1 gX6_copy_X6_isSheet rfl rfl rfl (by decide +kernel) ⟨Nat.le_of_ble_eq_true rfl, Nat.le_of_ble_eq_true rfl⟩) rfl rfl (Nat.le_of_ble_eq_true rfl) ⟨rfl, rfl⟩ ⟨Nat.zero_le _, Nat.zero_le _⟩ dX6_copy_13 (fun r13 h => ?_)
  refine aw_if_ne (tgt := 22) C dX6_copy_16 (by decide) (fun c16 => ?_) (fun c16 => ?_)
  · have h := h.2 c16
    refine aw_aload_n C dX6_copy_22 0 rfl ?_
    refine aw_iconst (v := 0) C dX6_copy_23 (by decide) ?_
    refine aw_putX6 (ty := .int) C K inX6_copy_6 dX6_copy_24 1 (by decide) qX6_copy_fieldLink_RX6_85 0 (wX6_g ..) rfl (by decide +kernel) rfl rfl (Nat.le_of_ble_eq_true rfl) (wX6_p1 ..) ?_
    obtain ⟨s24, es24⟩ : ∃ z, z = (uF s2 1 0) := ⟨_, rfl⟩
    rw [← es24]
    have h := h s24 es24
    refine aw_aload_n C dX6_copy_27 0 rfl ?_
    refine aw_getX6 C K inX6_copy_6 dX6_copy_28 2 (by decide) qX6_copy_fieldLink_RX6_7 0 (wX6_g ..) rfl ?_
    refine aw_iload_n C dX6_copy_31 1 rfl ?_
    obtain ⟨b32, h⟩ := h
    refine aw_iald C K dX6_copy_32 1 (wX6_g2 ..) b32 ?_
    refine aw_if_lt (tgt := 45) C dX6_copy_33 (by decide) (fun c33 => ?_) (fun c33 => ?_)
    · have h := h.1 c33
      refine aw_aload_n C dX6_copy_45 0 rfl ?_
      refine aw_iconst (v := 1) C dX6_copy_46 (by decide) ?_
      refine aw_callI (As := [.int 1]) (rest := []) C K (mtX6_found l D cy o ad s24 1 _ h) (cwV 1 C.2.2.2.2.1 gX6_copy_X6_found rfl rfl rfl (by decide +kernel) ⟨Nat.le_of_ble_eq_true rfl, Nat.le_of_ble_eq_true rfl⟩) 0 6 (wX6_g ..) rfl rfl rfl rfl (Nat.le_of_ble_eq_true rfl) ⟨Nat.le_of_ble_eq_true rfl, Nat.le_of_ble_eq_true rfl⟩ dX6_copy_47 (fun r47 s47 h => ?_)
      refine aw_lv [] rfl ?_
      exact hQ r47 s47 h 50 dX6_copy_50
    have h := h.2 c33
    refine aw_aload_n C dX6_copy_36 0 rfl ?_
    refine aw_getX6 C K inX6_copy_6 dX6_copy_37 2 (by decide) qX6_copy_fieldLink_RX6_7 0 (wX6_g ..) rfl ?_
    refine aw_iload_n C dX6_copy_40 3 rfl ?_
    obtain ⟨b41, h⟩ := h
    refine aw_iald C K dX6_copy_41 1 (wX6_g2 ..) b41 ?_
    refine aw_if_ge (tgt := 51) C dX6_copy_42 (by decide) (fun c42 => ?_) (fun c42 => ?_)
    · have h := h.1 c42
      refine aw_aload_n C dX6_copy_51 0 rfl ?_
      refine aw_getX6 C K inX6_copy_6 dX6_copy_52 2 (by decide) qX6_copy_fieldLink_RX6_7 0 (wX6_g ..) rfl ?_
      refine aw_iload_n C dX6_copy_55 1 rfl ?_
      obtain ⟨b56, h⟩ := h
      refine aw_iald C K dX6_copy_56 1 (wX6_g2 ..) b56 ?_
      refine aw_aload_n C dX6_copy_57 0 rfl ?_
      refine aw_getX6 C K inX6_copy_6 dX6_copy_58 2 (by decide) qX6_copy_fieldLink_RX6_7 0 (wX6_g ..) rfl ?_
      refine aw_iload_n C dX6_copy_61 3 rfl ?_
      obtain ⟨b62, h⟩ := h
      refine aw_iald C K dX6_copy_62 1 (wX6_g2 ..) b62 ?_
      refine aw_icmp_eq (tgt := 72) C dX6_copy_63 (by decide) (fun c63 => ?_) (fun c63 => ?_)
      · have h := h.1 c63
        refine aw_iload_n C dX6_copy_72 2 rfl ?_
        refine aw_if_lt (tgt := 121) C dX6_copy_73 (by decide) (fun c73 => ?_) (fun c73 => ?_)
        · have h := h.1 c73
          refine aw_aload_n C dX6_copy_121 0 rfl ?_
          refine aw_iconst (v := 2) C dX6_copy_122 (by decide) ?_
          refine aw_callI (As := [.int 2]) (rest := []) C K (mtX6_found l D cy o ad s24 2 _ h) (cwV 1 C.2.2.2.2.1 gX6_copy_X6_found rfl rfl rfl (by decide +kernel) ⟨Nat.le_of_ble_eq_true rfl, Nat.le_of_ble_eq_true rfl⟩) 0 6 (wX6_g ..) rfl rfl rfl rfl (Nat.le_of_ble_eq_true rfl) ⟨Nat.le_of_ble_eq_true rfl, Nat.le_of_ble_eq_true rfl⟩ dX6_copy_123 (fun r123 s123 h => ?_)
          refine aw_lv [] rfl ?_
          exact hQ r123 s123 h 126 dX6_copy_126
        have h := h.2 c73
        refine aw_iload C dX6_copy_76 4 rfl ?_
        refine aw_if_lt (tgt := 121) C dX6_copy_78 (by decide) (fun c78 => ?_) (fun c78 => ?_)
        · have h := h.1 c78
          refine aw_aload_n C dX6_copy_121 0 rfl ?_
          refine aw_iconst (v := 2) C dX6_copy_122 (by decide) ?_
          refine aw_callI (As := [.int 2]) (rest := []) C K (mtX6_found l D cy o ad s24 2 _ h) (cwV 1 C.2.2.2.2.1 gX6_copy_X6_found rfl rfl rfl (by decide +kernel) ⟨Nat.le_of_ble_eq_true rfl, Nat.le_of_ble_eq_true rfl⟩) 0 6 (wX6_g ..) rfl rfl rfl rfl (Nat.le_of_ble_eq_true rfl) ⟨Nat.le_of_ble_eq_true rfl, Nat.le_of_ble_eq_true rfl⟩ dX6_copy_123 (fun r123 s123 h => ?_)
          refine aw_lv [] rfl ?_
          exact hQ r123 s123 h 126 dX6_copy_126
        have h := h.2 c78
        refine aw_iload C dX6_copy_81 5 rfl ?_
        refine aw_if_lt (tgt := 121) C dX6_copy_83 (by decide) (fun c83 => ?_) (fun c83 => ?_)
        · have h := h.1 c83
          refine aw_aload_n C dX6_copy_121 0 rfl ?_
          refine aw_iconst (v := 2) C dX6_copy_122 (by decide) ?_
          refine aw_callI (As := [.int 2]) (rest := []) C K (mtX6_found l D cy o ad s24 2 _ h) (cwV 1 C.2.2.2.2.1 gX6_copy_X6_found rfl rfl rfl (by decide +kernel) ⟨Nat.le_of_ble_eq_true rfl, Nat.le_of_ble_eq_true rfl⟩) 0 6 (wX6_g ..) rfl rfl rfl rfl (Nat.le_of_ble_eq_true rfl) ⟨Nat.le_of_ble_eq_true rfl, Nat.le_of_ble_eq_true rfl⟩ dX6_copy_123 (fun r123 s123 h => ?_)
          refine aw_lv [] rfl ?_
          exact hQ r123 s123 h 126 dX6_copy_126
        have h := h.2 c83
        refine aw_iload_n C dX6_copy_86 2 rfl ?_
        refine aw_i2l C dX6_copy_87 ?_
        refine aw_iload C dX6_copy_88 5 rfl ?_
        refine aw_i2l C dX6_copy_90 ?_
        refine aw_ladd C dX6_copy_91 ?_
        refine aw_aload_n C dX6_copy_92 0 rfl ?_
        refine aw_getX6 C K inX6_copy_6 dX6_copy_93 3 (by decide) qX6_copy_fieldLink_RX6_13 0 (wX6_g ..) rfl ?_
        refine aw_iload_n C dX6_copy_96 1 rfl ?_
        obtain ⟨b97, h⟩ := h
        refine aw_iald C K dX6_copy_97 2 (wX6_g3 ..) b97 ?_
        refine aw_i2l C dX6_copy_98 ?_
        refine aw_lcmp C dX6_copy_99 ?_
        refine aw_if_gt (tgt := 121) C dX6_copy_100 (by decide) (fun c100 => ?_) (fun c100 => ?_)
        · have h := h.1 c100
          refine aw_aload_n C dX6_copy_121 0 rfl ?_
          refine aw_iconst (v := 2) C dX6_copy_122 (by decide) ?_
          refine aw_callI (As := [.int 2]) (rest := []) C K (mtX6_found l D cy o ad s24 2 _ h) (cwV 1 C.2.2.2.2.1 gX6_copy_X6_found rfl rfl rfl (by decide +kernel) ⟨Nat.le_of_ble_eq_true rfl, Nat.le_of_ble_eq_true rfl⟩) 0 6 (wX6_g ..) rfl rfl rfl rfl (Nat.le_of_ble_eq_true rfl) ⟨Nat.le_of_ble_eq_true rfl, Nat.le_of_ble_eq_true rfl⟩ dX6_copy_123 (fun r123 s123 h => ?_)
          refine aw_lv [] rfl ?_
          exact hQ r123 s123 h 126 dX6_copy_126
        have h := h.2 c100
        refine aw_iload C dX6_copy_103 4 rfl ?_
        refine aw_i2l C dX6_copy_105 ?_
        refine aw_iload C dX6_copy_106 5 rfl ?_
        refine aw_i2l C dX6_copy_108 ?_
        refine aw_ladd C dX6_copy_109 ?_
        refine aw_aload_n C dX6_copy_110 0 rfl ?_
        refine aw_getX6 C K inX6_copy_6 dX6_copy_111 3 (by decide) qX6_copy_fieldLink_RX6_13 0 (wX6_g ..) rfl ?_
        refine aw_iload_n C dX6_copy_114 3 rfl ?_
        obtain ⟨b115, h⟩ := h
        refine aw_iald C K dX6_copy_115 2 (wX6_g3 ..) b115 ?_
        refine aw_i2l C dX6_copy_116 ?_
        refine aw_lcmp C dX6_copy_117 ?_
        refine aw_if_le (tgt := 127) C dX6_copy_118 (by decide) (fun c118 => ?_) (fun c118 => ?_)
        · have h := h.1 c118
          refine aw_iload_n C dX6_copy_127 2 rfl ?_
          refine aw_iload C dX6_copy_128 4 rfl ?_
          refine aw_icmp_lt (tgt := 137) C dX6_copy_130 (by decide) (fun c130 => ?_) (fun c130 => ?_)
          · have h := h.1 c130
            refine aw_iconst (v := 0) C dX6_copy_137 (by decide) ?_
            refine aw_istore (lv' := [(6, .int 0), (0, .ref o), (1, .int x1), (2, .int x2), (3, .int x3), (4, .int x4), (5, .int x5)]) C dX6_copy_138 (by decide) rfl ?_
            refine aw_iconst (v := 0) C dX6_copy_140 (by decide) ?_
            refine aw_istore (lv' := [(7, .int 0), (6, .int 0), (0, .ref o), (1, .int x1), (2, .int x2), (3, .int x3), (4, .int x4), (5, .int x5)]) C dX6_copy_141 (by decide) rfl ?_
            refine aw_lv [2, 3, 4, 5, 6, 7, 1, 0] rfl ?_
            refine tlX6_copy_143 C K ?_ s24 0 h
            intro s_204 h
            refine aw_iload C dX6_copy_204 1 rfl ?_
            refine aw_lv [] rfl ?_
            exact hQ x5 s_204 h 206 dX6_copy_206
          have h := h.2 c130
          refine aw_iconst (v := 1) C dX6_copy_133 (by decide) ?_
          refine aw_goto (tgt := 138) C dX6_copy_134 (by decide) ?_
          refine aw_istore (lv' := [(6, .int 1), (0, .ref o), (1, .int x1), (2, .int x2), (3, .int x3), (4, .int x4), (5, .int x5)]) C dX6_copy_138 (by decide) rfl ?_
          refine aw_iconst (v := 0) C dX6_copy_140 (by decide) ?_
          refine aw_istore (lv' := [(7, .int 0), (6, .int 1), (0, .ref o), (1, .int x1), (2, .int x2), (3, .int x3), (4, .int x4), (5, .int x5)]) C dX6_copy_141 (by decide) rfl ?_
          refine aw_lv [2, 3, 4, 5, 6, 7, 1, 0] rfl ?_
          refine tlX6_copy_143 C K ?_ s24 0 h
          intro s_204 h
          refine aw_iload C dX6_copy_204 1 rfl ?_
          refine aw_lv [] rfl ?_
          exact hQ x5 s_204 h 206 dX6_copy_206
        have h := h.2 c118
        refine aw_aload_n C dX6_copy_121 0 rfl ?_
        refine aw_iconst (v := 2) C dX6_copy_122 (by decide) ?_
        refine aw_callI (As := [.int 2]) (rest := []) C K (mtX6_found l D cy o ad s24 2 _ h) (cwV 1 C.2.2.2.2.1 gX6_copy_X6_found rfl rfl rfl (by decide +kernel) ⟨Nat.le_of_ble_eq_true rfl, Nat.le_of_ble_eq_true rfl⟩) 0 6 (wX6_g ..) rfl rfl rfl rfl (Nat.le_of_ble_eq_true rfl) ⟨Nat.le_of_ble_eq_true rfl, Nat.le_of_ble_eq_true rfl⟩ dX6_copy_123 (fun r123 s123 h => ?_)
        refine aw_lv [] rfl ?_
        exact hQ r123 s123 h 126 dX6_copy_126
      have h := h.2 c63
      refine aw_aload_n C dX6_copy_66 0 rfl ?_
      refine aw_iconst (v := 5) C dX6_copy_67 (by decide) ?_
      refine aw_callI (As := [.int 5]) (rest := []) C K (mtX6_found l D cy o ad s24 5 _ h) (cwV 1 C.2.2.2.2.1 gX6_copy_X6_found rfl rfl rfl (by decide +kernel) ⟨Nat.le_of_ble_eq_true rfl, Nat.le_of_ble_eq_true rfl⟩) 0 6 (wX6_g ..) rfl rfl rfl rfl (Nat.le_of_ble_eq_true rfl) ⟨Nat.le_of_ble_eq_true rfl, Nat.le_of_ble_eq_true rfl⟩ dX6_copy_68 (fun r68 s68 h => ?_)
      refine aw_lv [] rfl ?_
      exact hQ r68 s68 h 71 dX6_copy_71
    have h := h.2 c42
    refine aw_aload_n C dX6_copy_45 0 rfl ?_
    refine aw_iconst (v := 1) C dX6_copy_46 (by decide) ?_
    refine aw_callI (As := [.int 1]) (rest := []) C K (mtX6_found l D cy o ad s24 1 _ h) (cwV 1 C.2.2.2.2.1 gX6_copy_X6_found rfl rfl rfl (by decide +kernel) ⟨Nat.le_of_ble_eq_true rfl, Nat.le_of_ble_eq_true rfl⟩) 0 6 (wX6_g ..) rfl rfl rfl rfl (Nat.le_of_ble_eq_true rfl) ⟨Nat.le_of_ble_eq_true rfl, Nat.le_of_ble_eq_true rfl⟩ dX6_copy_47 (fun r47 s47 h => ?_)
    refine aw_lv [] rfl ?_
    exact hQ r47 s47 h 50 dX6_copy_50
  have h := h.1 c16
  refine aw_ldc (v := (-1000001)) C dX6_copy_19 qX6_copy_constant_RX6_101_1000001 ?_
  refine aw_lv [] rfl ?_
  exact hQ (-1000001) s2 h 21 dX6_copy_21
end SX6_copy
theorem mtX6_copy (l : Launch) (D : va_G) (cy : Nat → ClassId) (o : Nat) (ad : Nat → Nat) (s : St) (x1 : Int32) (x2 : Int32) (x3 : Int32) (x4 : Int32) (x5 : Int32) (Q : Int32 → St → Prop) (hw : pX6_copy  s x1 x2 x3 x4 x5 Q) : mI l yX6_copy wsX6_copy rmX6_copy D cy [.ref o, .int x1, .int x2, .int x3, .int x4, .int x5] (wX6 cy o ad s) (wX6 cy o ad) Q :=
  metI (Wd := wX6 cy o ad) ⟨rfl, rfl⟩ (by decide) rfl (Nat.le_of_ble_eq_true rfl) (fun C K hQ => eX6_copy C K hQ s x1 x2 x3 x4 x5 hw)
def rmX6_drop : Room := { frames := 2, cells := 0, slots := 0, locals := 45 }
theorem inX6_drop_6 : ∀ w ∈ wsX60, w ∈ wsX6_drop := fun w h => (List.mem_cons_of_mem _ (List.mem_append_right _ h))
theorem qX6_drop_fieldLink_RX6_81 : Cond.fieldLink RX6 81 "StageSwitchModel" "thrown" "I" ∈ wsX6_drop := (List.mem_cons_of_mem _ (List.mem_append_left _ (List.mem_of_getElem? (i := 0) rfl)))
theorem qX6_drop_fieldLink_RX6_85 : Cond.fieldLink RX6 85 "StageSwitchModel" "status" "I" ∈ wsX6_drop := (List.mem_cons_of_mem _ (List.mem_append_left _ (List.mem_of_getElem? (i := 2) rfl)))
theorem qX6_drop_fieldLink_RX6_7 : Cond.fieldLink RX6 7 "StageSwitchModel" "lane" "[I" ∈ wsX6_drop := (List.mem_cons_of_mem _ (List.mem_append_left _ (List.mem_of_getElem? (i := 3) rfl)))
theorem qX6_drop_fieldLink_RX6_13 : Cond.fieldLink RX6 13 "StageSwitchModel" "many" "[I" ∈ wsX6_drop := (List.mem_cons_of_mem _ (List.mem_append_left _ (List.mem_of_getElem? (i := 4) rfl)))
theorem qX6_drop_constant_RX6_101_1000001 : Cond.constant RX6 101 (-1000001) ∈ wsX6_drop := (List.mem_cons_of_mem _ (List.mem_append_left _ (List.mem_of_getElem? (i := 1) rfl)))
section SX6_drop
variable {p : Program} {l : Launch} {e : Env} {s0 : State} {m : MethodId} {args : Array Value} {below : List Frame} {meth : Method} {c : Code} {D : va_G} {A : Nat → Prop} {H0 : Heap} {cy : Nat → ClassId} {Z : State → Prop}
theorem eX6_drop (C : ctB p s0 m args c cX6_drop 2 RX6 wsX6_drop) (K : ctK s0 D A H0 cy) {o : Nat} {ad : Nat → Nat} {Q : Int32 → St → Prop} (hQ : ∀ (v : Int32) (u : St), Q v u → ∀ pc, decode cX6_drop pc = .ok (.ireturn, 1) → atG p l e rmX6_drop s0 m args below meth c 0 0 Z 2 (iW D A H0 (wX6 cy o ad u)) [] [.int v] pc) (s : St) (x1 : Int32) (h : pX6_drop  s x1 Q) : atG p l e rmX6_drop s0 m args below meth c 0 0 Z 2 (iW D A H0 (wX6 cy o ad s)) [(0, .ref o), (1, .int x1)] [] 0 := by
  delta pX6_drop at h
  refine aw_aload_n C dX6_drop_0 0 rfl ?_
  refine aw_iconst (v := 0) C dX6_drop_1 (by decide) ?_
  refine aw_putX6 (ty := .int) C K inX6_drop_6 dX6_drop_2 0 (by decide) qX6_drop_fieldLink_RX6_81 0 (wX6_g ..) rfl (by decide +kernel) rfl rfl (Nat.le_of_ble_eq_true rfl) (wX6_p0 ..) ?_
  obtain ⟨s2, es2⟩ : ∃ z, z = (uF s 0 0) := ⟨_, rfl⟩
  rw [← es2]
  have h := h s2 es2
  refine aw_iload_n C dX6_drop_5 1 rfl ?_
  refine aw_callS (As := [.int x1]) (rest := []) C (mtX6_isSheet l x1 _ h) (va_cwS 1 C.2.2.2.2.1 gX6_drop_X6_isSheet rfl rfl rfl (by decide +kernel) ⟨Nat.le_of_ble_eq_true rfl, Nat.le_of_ble_eq_true rfl⟩) rfl rfl (Nat.le_of_ble_eq_true rfl) ⟨rfl, rfl⟩ ⟨Nat.zero_le _, Nat.zero_le _⟩ dX6_drop_6 (fun r6 h => ?_)
  refine aw_if_ne (tgt := 15) C dX6_drop_9 (by decide) (fun c9 => ?_) (fun c9 => ?_)
  · have h := h.2 c9
    refine aw_aload_n C dX6_drop_15 0 rfl ?_
    refine aw_iconst (v := 0) C dX6_drop_16 (by decide) ?_
    refine aw_putX6 (ty := .int) C K inX6_drop_6 dX6_drop_17 1 (by decide) qX6_drop_fieldLink_RX6_85 0 (wX6_g ..) rfl (by decide +kernel) rfl rfl (Nat.le_of_ble_eq_true rfl) (wX6_p1 ..) ?_
    obtain ⟨s17, es17⟩ : ∃ z, z = (uF s2 1 0) := ⟨_, rfl⟩
    rw [← es17]
    have h := h s17 es17
    refine aw_aload_n C dX6_drop_20 0 rfl ?_
    refine aw_getX6 C K inX6_drop_6 dX6_drop_21 2 (by decide) qX6_drop_fieldLink_RX6_7 0 (wX6_g ..) rfl ?_
    refine aw_iload_n C dX6_drop_24 1 rfl ?_
    obtain ⟨b25, h⟩ := h
    refine aw_iald C K dX6_drop_25 1 (wX6_g2 ..) b25 ?_
    refine aw_if_ge (tgt := 35) C dX6_drop_26 (by decide) (fun c26 => ?_) (fun c26 => ?_)
    · have h := h.1 c26
      refine aw_aload_n C dX6_drop_35 0 rfl ?_
      refine aw_getX6 C K inX6_drop_6 dX6_drop_36 2 (by decide) qX6_drop_fieldLink_RX6_7 0 (wX6_g ..) rfl ?_
      refine aw_iload_n C dX6_drop_39 1 rfl ?_
      refine aw_iconst (v := (-1)) C dX6_drop_40 (by decide) ?_
      obtain ⟨b41, h⟩ := h
      refine aw_iast C K dX6_drop_41 1 (wX6_g2 ..) (wX6_s2 ..) b41 ?_
      obtain ⟨s41, es41⟩ : ∃ z, z = (uA s17 2 (upd (sA s17 2) x1.toNatClampNeg (-1))) := ⟨_, rfl⟩
      rw [← es41]
      have h := h s41 es41
      refine aw_aload_n C dX6_drop_42 0 rfl ?_
      refine aw_getX6 C K inX6_drop_6 dX6_drop_43 3 (by decide) qX6_drop_fieldLink_RX6_13 0 (wX6_g ..) rfl ?_
      refine aw_iload_n C dX6_drop_46 1 rfl ?_
      obtain ⟨b47, h⟩ := h
      refine aw_iald C K dX6_drop_47 2 (wX6_g3 ..) b47 ?_
      refine aw_lv [] rfl ?_
      exact hQ (sA s41 3 x1.toNatClampNeg) s41 h 48 dX6_drop_48
    have h := h.2 c26
    refine aw_aload_n C dX6_drop_29 0 rfl ?_
    refine aw_iconst (v := 1) C dX6_drop_30 (by decide) ?_
    refine aw_callI (As := [.int 1]) (rest := []) C K (mtX6_found l D cy o ad s17 1 _ h) (cwV 1 C.2.2.2.2.1 gX6_drop_X6_found rfl rfl rfl (by decide +kernel) ⟨Nat.le_of_ble_eq_true rfl, Nat.le_of_ble_eq_true rfl⟩) 0 6 (wX6_g ..) rfl rfl rfl rfl (Nat.le_of_ble_eq_true rfl) ⟨Nat.le_of_ble_eq_true rfl, Nat.le_of_ble_eq_true rfl⟩ dX6_drop_31 (fun r31 s31 h => ?_)
    refine aw_lv [] rfl ?_
    exact hQ r31 s31 h 34 dX6_drop_34
  have h := h.1 c9
  refine aw_ldc (v := (-1000001)) C dX6_drop_12 qX6_drop_constant_RX6_101_1000001 ?_
  refine aw_lv [] rfl ?_
  exact hQ (-1000001) s2 h 14 dX6_drop_14
end SX6_drop
theorem mtX6_drop (l : Launch) (D : va_G) (cy : Nat → ClassId) (o : Nat) (ad : Nat → Nat) (s : St) (x1 : Int32) (Q : Int32 → St → Prop) (hw : pX6_drop  s x1 Q) : mI l yX6_drop wsX6_drop rmX6_drop D cy [.ref o, .int x1] (wX6 cy o ad s) (wX6 cy o ad) Q :=
  metI (Wd := wX6 cy o ad) ⟨rfl, rfl⟩ (by decide) rfl (Nat.le_of_ble_eq_true rfl) (fun C K hQ => eX6_drop C K hQ s x1 hw)
def rmX6_alive : Room := { frames := 0, cells := 0, slots := 0, locals := 0 }
theorem inX6_alive_6 : ∀ w ∈ wsX60, w ∈ wsX6_alive := fun w h => (List.mem_cons_of_mem _ (List.mem_append_right _ h))
theorem qX6_alive_fieldLink_RX6_19 : Cond.fieldLink RX6 19 "StageSwitchModel" "middles" "[I" ∈ wsX6_alive := (List.mem_cons_of_mem _ (List.mem_append_left _ (List.mem_of_getElem? (i := 0) rfl)))
theorem qX6_alive_fieldLink_RX6_28 : Cond.fieldLink RX6 28 "StageSwitchModel" "isDead" "[Z" ∈ wsX6_alive := (List.mem_cons_of_mem _ (List.mem_append_left _ (List.mem_of_getElem? (i := 1) rfl)))
section SX6_alive
variable {p : Program} {l : Launch} {e : Env} {s0 : State} {m : MethodId} {args : Array Value} {below : List Frame} {meth : Method} {c : Code} {D : va_G} {A : Nat → Prop} {H0 : Heap} {cy : Nat → ClassId} {Z : State → Prop}
theorem tbX6_alive_4 (C : ctB p s0 m args c cX6_alive 4 RX6 wsX6_alive) (K : ctK s0 D A H0 cy) {o : Nat} {ad : Nat → Nat}  {s : St} {x1 : Int32} {k42 : Int32 → Prop} (hk42 : ∀ (y2 : Int32), k42 y2 → atG p l e rmX6_alive s0 m args below meth c 0 0 Z 4 (iW D A H0 (wX6 cy o ad s)) [(0, .ref o), (2, .int y2)] [] 42) {kH : Int32 → Int32 → Prop} (hkH : ∀ (y2 : Int32) (y3 : Int32), kH y2 y3 → atG p l e rmX6_alive s0 m args below meth c 0 0 Z 4 (iW D A H0 (wX6 cy o ad s)) [(0, .ref o), (1, .int x1), (2, .int y2), (3, .int y3)] [] 4) (x2 : Int32) (x3 : Int32) (h : bX6_alive_4 s x1 k42 kH x2 x3) : atG p l e rmX6_alive s0 m args below meth c 0 0 Z 4 (iW D A H0 (wX6 cy o ad s)) [(0, .ref o), (1, .int x1), (2, .int x2), (3, .int x3)] [] 4 := by
  delta bX6_alive_4 at h
  refine aw_iload_n C dX6_alive_4 3 rfl ?_
  refine aw_aload_n C dX6_alive_5 0 rfl ?_
  refine aw_getX6 C K inX6_alive_6 dX6_alive_6 5 (by decide) qX6_alive_fieldLink_RX6_19 0 (wX6_g ..) rfl ?_
  refine aw_iload_n C dX6_alive_9 1 rfl ?_
  obtain ⟨b10, h⟩ := h
  refine aw_iald C K dX6_alive_10 4 (wX6_g5 ..) b10 ?_
  refine aw_icmp_ge (tgt := 42) C dX6_alive_11 (by decide) (fun c11 => ?_) (fun c11 => ?_)
  · have h := h.1 c11
    refine aw_lv [0, 2] rfl ?_
    exact hk42 x2 h
  have h := h.2 c11
  refine aw_iload_n C dX6_alive_14 2 rfl ?_
  refine aw_aload_n C dX6_alive_15 0 rfl ?_
  refine aw_getX6 C K inX6_alive_6 dX6_alive_16 8 (by decide) qX6_alive_fieldLink_RX6_28 0 (wX6_g ..) rfl ?_
  refine aw_bipush (v := 12) C dX6_alive_19 (by decide) ?_
  refine aw_iload_n C dX6_alive_21 1 rfl ?_
  refine aw_imul C dX6_alive_22 ?_
  refine aw_iload_n C dX6_alive_23 3 rfl ?_
  refine aw_iadd C dX6_alive_24 ?_
  obtain ⟨b25, h⟩ := h
  refine aw_zald C K dX6_alive_25 7 (wX6_g8 ..) b25 ?_
  refine aw_if_eq (tgt := 33) C dX6_alive_26 (by decide) (fun c26 => ?_) (fun c26 => ?_)
  · have h := h.1 c26
    refine aw_iconst (v := 1) C dX6_alive_33 (by decide) ?_
    refine aw_iadd C dX6_alive_34 ?_
    refine aw_name (fun x2_35 ex2_35 => ?_)
    have h := h x2_35 ex2_35
    refine aw_istore_n (lv' := [(2, .int x2_35), (0, .ref o), (1, .int x1), (3, .int x3)]) C dX6_alive_35 (by decide) rfl ?_
    obtain ⟨x3_36, ex3_36⟩ : ∃ y : Int32, y = x3 + 1 := ⟨_, rfl⟩
    have h := h x3_36 ex3_36
    refine aw_iinc (v := x3_36) (lv' := [(3, .int x3_36), (2, .int x2_35), (0, .ref o), (1, .int x1)]) C dX6_alive_36 3 rfl (by rw [ex3_36]; rfl) (by decide) rfl ?_
    refine aw_goto (tgt := 4) C dX6_alive_39 (by decide) ?_
    refine aw_lv [2, 3, 1, 0] rfl ?_
    exact hkH x2_35 x3_36 h
  have h := h.2 c26
  refine aw_iconst (v := 0) C dX6_alive_29 (by decide) ?_
  refine aw_goto (tgt := 34) C dX6_alive_30 (by decide) ?_
  refine aw_iadd C dX6_alive_34 ?_
  refine aw_name (fun x2_35 ex2_35 => ?_)
  have h := h x2_35 ex2_35
  refine aw_istore_n (lv' := [(2, .int x2_35), (0, .ref o), (1, .int x1), (3, .int x3)]) C dX6_alive_35 (by decide) rfl ?_
  obtain ⟨x3_36, ex3_36⟩ : ∃ y : Int32, y = x3 + 1 := ⟨_, rfl⟩
  have h := h x3_36 ex3_36
  refine aw_iinc (v := x3_36) (lv' := [(3, .int x3_36), (2, .int x2_35), (0, .ref o), (1, .int x1)]) C dX6_alive_36 3 rfl (by rw [ex3_36]; rfl) (by decide) rfl ?_
  refine aw_goto (tgt := 4) C dX6_alive_39 (by decide) ?_
  refine aw_lv [2, 3, 1, 0] rfl ?_
  exact hkH x2_35 x3_36 h
theorem tlX6_alive_4 (C : ctB p s0 m args c cX6_alive 4 RX6 wsX6_alive) (K : ctK s0 D A H0 cy) {o : Nat} {ad : Nat → Nat}  {s : St} {x1 : Int32} {k42 : Int32 → Prop} (hk42 : ∀ (y2 : Int32), k42 y2 → atG p l e rmX6_alive s0 m args below meth c 0 0 Z 4 (iW D A H0 (wX6 cy o ad s)) [(0, .ref o), (2, .int y2)] [] 42) (x2 : Int32) (x3 : Int32) (h : lX6_alive_4 s x1 k42 x2 x3) : atG p l e rmX6_alive s0 m args below meth c 0 0 Z 4 (iW D A H0 (wX6 cy o ad s)) [(0, .ref o), (1, .int x1), (2, .int x2), (3, .int x3)] [] 4 :=
  lp_W (σ := Int32 × Int32) (P := fun q => atG p l e rmX6_alive s0 m args below meth c 0 0 Z 4 (iW D A H0 (wX6 cy o ad s)) [(0, .ref o), (1, .int x1), (2, .int q.1), (3, .int q.2)] [] 4) (fun K2 hK2 q hb => tbX6_alive_4 C K hk42 (fun x2 x3 hk => hK2 (x2, x3) hk) q.1 q.2 hb) (x2, x3) h
theorem eX6_alive (C : ctB p s0 m args c cX6_alive 4 RX6 wsX6_alive) (K : ctK s0 D A H0 cy) {o : Nat} {ad : Nat → Nat} {Q : Int32 → Prop} (s : St) (hQ : ∀ (v : Int32), Q v → ∀ pc, decode cX6_alive pc = .ok (.ireturn, 1) → atG p l e rmX6_alive s0 m args below meth c 0 0 Z 4 (iW D A H0 (wX6 cy o ad s)) [] [.int v] pc) (x1 : Int32) (h : pX6_alive  s x1 Q) : atG p l e rmX6_alive s0 m args below meth c 0 0 Z 4 (iW D A H0 (wX6 cy o ad s)) [(0, .ref o), (1, .int x1)] [] 0 := by
  delta pX6_alive at h
  refine aw_iconst (v := 0) C dX6_alive_0 (by decide) ?_
  refine aw_istore_n (lv' := [(2, .int 0), (0, .ref o), (1, .int x1)]) C dX6_alive_1 (by decide) rfl ?_
  refine aw_iconst (v := 0) C dX6_alive_2 (by decide) ?_
  refine aw_istore_n (lv' := [(3, .int 0), (2, .int 0), (0, .ref o), (1, .int x1)]) C dX6_alive_3 (by decide) rfl ?_
  refine aw_lv [2, 3, 1, 0] rfl ?_
  refine tlX6_alive_4 C K ?_ 0 0 h
  intro z42_2 h
  refine aw_iload_n C dX6_alive_42 1 rfl ?_
  refine aw_lv [] rfl ?_
  exact hQ z42_2 h 43 dX6_alive_43
end SX6_alive
theorem mtX6_alive (l : Launch) (D : va_G) (cy : Nat → ClassId) (o : Nat) (ad : Nat → Nat) (s : St) (x1 : Int32) (Q : Int32 → Prop) (hw : pX6_alive  s x1 Q) : mI l yX6_alive wsX6_alive rmX6_alive D cy [.ref o, .int x1] (wX6 cy o ad s) (wX6 cy o ad) (fun r u => Q r ∧ u = s) :=
  metI (Wd := wX6 cy o ad) ⟨rfl, rfl⟩ (by decide) rfl (Nat.le_of_ble_eq_true rfl) (fun C K hQ => eX6_alive C K s (fun v hq => hQ v s ⟨hq, rfl⟩) x1 hw)
def rmX6_kindOf : Room := { frames := 1, cells := 0, slots := 0, locals := 23 }
theorem inX6_kindOf_6 : ∀ w ∈ wsX60, w ∈ wsX6_kindOf := fun w h => (List.mem_cons_of_mem _ (List.mem_append_right _ h))
theorem qX6_kindOf_fieldLink_RX6_22 : Cond.fieldLink RX6 22 "StageSwitchModel" "lines" "[I" ∈ wsX6_kindOf := (List.mem_cons_of_mem _ (List.mem_append_left _ (List.mem_of_getElem? (i := 0) rfl)))
section SX6_kindOf
variable {p : Program} {l : Launch} {e : Env} {s0 : State} {m : MethodId} {args : Array Value} {below : List Frame} {meth : Method} {c : Code} {D : va_G} {A : Nat → Prop} {H0 : Heap} {cy : Nat → ClassId} {Z : State → Prop}
theorem eX6_kindOf (C : ctB p s0 m args c cX6_kindOf 3 RX6 wsX6_kindOf) (K : ctK s0 D A H0 cy) {o : Nat} {ad : Nat → Nat} {Q : Int32 → Prop} (s : St) (hQ : ∀ (v : Int32), Q v → ∀ pc, decode cX6_kindOf pc = .ok (.ireturn, 1) → atG p l e rmX6_kindOf s0 m args below meth c 0 0 Z 3 (iW D A H0 (wX6 cy o ad s)) [] [.int v] pc) (x1 : Int32) (h : pX6_kindOf  s x1 Q) : atG p l e rmX6_kindOf s0 m args below meth c 0 0 Z 3 (iW D A H0 (wX6 cy o ad s)) [(0, .ref o), (1, .int x1)] [] 0 := by
  delta pX6_kindOf at h
  refine aw_aload_n C dX6_kindOf_0 0 rfl ?_
  refine aw_iload_n C dX6_kindOf_1 1 rfl ?_
  refine aw_callI (As := [.int x1]) (rest := []) C K (mtX6_alive l D cy o ad s x1 _ h) (cwV 1 C.2.2.2.2.1 gX6_kindOf_X6_alive rfl rfl rfl (by decide +kernel) ⟨Nat.le_of_ble_eq_true rfl, Nat.le_of_ble_eq_true rfl⟩) 0 6 (wX6_g ..) rfl rfl rfl rfl (Nat.le_of_ble_eq_true rfl) ⟨Nat.le_of_ble_eq_true rfl, Nat.le_of_ble_eq_true rfl⟩ dX6_kindOf_2 (fun r2 s2 h => ?_)
  obtain ⟨h, hu2⟩ := h
  rw [hu2]
  refine aw_istore_n (lv' := [(2, .int r2), (0, .ref o), (1, .int x1)]) C dX6_kindOf_5 (by decide) rfl ?_
  refine aw_iload_n C dX6_kindOf_6 0 rfl ?_
  refine aw_iconst (v := 2) C dX6_kindOf_7 (by decide) ?_
  refine aw_aload_n C dX6_kindOf_8 1 rfl ?_
  refine aw_getX6 C K inX6_kindOf_6 dX6_kindOf_9 6 (by decide) qX6_kindOf_fieldLink_RX6_22 0 (wX6_g ..) rfl ?_
  refine aw_iload_n C dX6_kindOf_12 2 rfl ?_
  obtain ⟨b13, h⟩ := h
  refine aw_iald C K dX6_kindOf_13 5 (wX6_g6 ..) b13 ?_
  refine aw_imul C dX6_kindOf_14 ?_
  refine aw_iconst (v := 1) C dX6_kindOf_15 (by decide) ?_
  refine aw_isub C dX6_kindOf_16 ?_
  refine aw_icmp_lt (tgt := 24) C dX6_kindOf_17 (by decide) (fun c17 => ?_) (fun c17 => ?_)
  · have h := h.1 c17
    refine aw_iload_n C dX6_kindOf_24 0 rfl ?_
    refine aw_aload_n C dX6_kindOf_25 1 rfl ?_
    refine aw_getX6 C K inX6_kindOf_6 dX6_kindOf_26 6 (by decide) qX6_kindOf_fieldLink_RX6_22 0 (wX6_g ..) rfl ?_
    refine aw_iload_n C dX6_kindOf_29 2 rfl ?_
    obtain ⟨b30, h⟩ := h
    refine aw_iald C K dX6_kindOf_30 5 (wX6_g6 ..) b30 ?_
    refine aw_icmp_lt (tgt := 38) C dX6_kindOf_31 (by decide) (fun c31 => ?_) (fun c31 => ?_)
    · have h := h.1 c31
      refine aw_iload_n C dX6_kindOf_38 0 rfl ?_
      refine aw_iconst (v := 1) C dX6_kindOf_39 (by decide) ?_
      refine aw_icmp_ne (tgt := 47) C dX6_kindOf_40 (by decide) (fun c40 => ?_) (fun c40 => ?_)
      · have h := h.2 c40
        refine aw_iconst (v := 0) C dX6_kindOf_47 (by decide) ?_
        refine aw_lv [] rfl ?_
        exact hQ 0 h 48 dX6_kindOf_48
      have h := h.1 c40
      refine aw_iconst (v := 3) C dX6_kindOf_43 (by decide) ?_
      refine aw_goto (tgt := 48) C dX6_kindOf_44 (by decide) ?_
      refine aw_lv [] rfl ?_
      exact hQ 3 h 48 dX6_kindOf_48
    have h := h.2 c31
    refine aw_iconst (v := 1) C dX6_kindOf_34 (by decide) ?_
    refine aw_goto (tgt := 48) C dX6_kindOf_35 (by decide) ?_
    refine aw_lv [] rfl ?_
    exact hQ 1 h 48 dX6_kindOf_48
  have h := h.2 c17
  refine aw_iconst (v := 2) C dX6_kindOf_20 (by decide) ?_
  refine aw_goto (tgt := 48) C dX6_kindOf_21 (by decide) ?_
  refine aw_lv [] rfl ?_
  exact hQ 2 h 48 dX6_kindOf_48
end SX6_kindOf
theorem mtX6_kindOf (l : Launch) (D : va_G) (cy : Nat → ClassId) (o : Nat) (ad : Nat → Nat) (s : St) (x1 : Int32) (Q : Int32 → Prop) (hw : pX6_kindOf  s x1 Q) : mI l yX6_kindOf wsX6_kindOf rmX6_kindOf D cy [.ref o, .int x1] (wX6 cy o ad s) (wX6 cy o ad) (fun r u => Q r ∧ u = s) :=
  metI (Wd := wX6 cy o ad) ⟨rfl, rfl⟩ (by decide) rfl (Nat.le_of_ble_eq_true rfl) (fun C K hQ => eX6_kindOf C K s (fun v hq => hQ v s ⟨hq, rfl⟩) x1 hw)
def rmX6_net : Room := { frames := 2, cells := 0, slots := 0, locals := 45 }
theorem inX6_net_6 : ∀ w ∈ wsX60, w ∈ wsX6_net := fun w h => (List.mem_cons_of_mem _ (List.mem_append_right _ h))
theorem qX6_net_fieldLink_RX6_81 : Cond.fieldLink RX6 81 "StageSwitchModel" "thrown" "I" ∈ wsX6_net := (List.mem_cons_of_mem _ (List.mem_append_left _ (List.mem_append_left _ (List.mem_of_getElem? (i := 0) rfl))))
theorem qX6_net_constant_RX6_101_1000001 : Cond.constant RX6 101 (-1000001) ∈ wsX6_net := (List.mem_cons_of_mem _ (List.mem_append_left _ (List.mem_append_left _ (List.mem_of_getElem? (i := 3) rfl))))
theorem qX6_net_constantLong_RX6_114_12 : Cond.constantLong RX6 114 (12) ∈ wsX6_net := (List.mem_cons_of_mem _ (List.mem_append_left _ (List.mem_append_left _ (List.mem_of_getElem? (i := 1) rfl))))
theorem qX6_net_constantLong_RX6_116_6 : Cond.constantLong RX6 116 (6) ∈ wsX6_net := (List.mem_cons_of_mem _ (List.mem_append_left _ (List.mem_append_left _ (List.mem_of_getElem? (i := 2) rfl))))
theorem qX6_net_fieldLink_RX6_85 : Cond.fieldLink RX6 85 "StageSwitchModel" "status" "I" ∈ wsX6_net := (List.mem_cons_of_mem _ (List.mem_append_left _ (List.mem_append_left _ (List.mem_of_getElem? (i := 4) rfl))))
theorem qX6_net_fieldLink_RX6_19 : Cond.fieldLink RX6 19 "StageSwitchModel" "middles" "[I" ∈ wsX6_net := (List.mem_cons_of_mem _ (List.mem_append_left _ (List.mem_append_left _ (List.mem_of_getElem? (i := 5) rfl))))
theorem qX6_net_fieldLink_RX6_22 : Cond.fieldLink RX6 22 "StageSwitchModel" "lines" "[I" ∈ wsX6_net := (List.mem_cons_of_mem _ (List.mem_append_left _ (List.mem_append_left _ (List.mem_of_getElem? (i := 6) rfl))))
theorem qX6_net_fieldLink_RX6_25 : Cond.fieldLink RX6 25 "StageSwitchModel" "outer" "[I" ∈ wsX6_net := (List.mem_cons_of_mem _ (List.mem_append_left _ (List.mem_append_left _ (List.mem_of_getElem? (i := 7) rfl))))
theorem qX6_net_fieldLink_RX6_28 : Cond.fieldLink RX6 28 "StageSwitchModel" "isDead" "[Z" ∈ wsX6_net := (List.mem_cons_of_mem _ (List.mem_append_left _ (List.mem_append_left _ (List.mem_of_getElem? (i := 8) rfl))))
theorem qX6_net_fieldLink_RX6_32 : Cond.fieldLink RX6 32 "StageSwitchModel" "out" "[I" ∈ wsX6_net := (List.mem_cons_of_mem _ (List.mem_append_left _ (List.mem_append_left _ (List.mem_of_getElem? (i := 9) rfl))))
theorem qX6_net_constant_RX6_118_1000000 : Cond.constant RX6 118 (-1000000) ∈ wsX6_net := (List.mem_cons_of_mem _ (List.mem_append_left _ (List.mem_append_left _ (List.mem_of_getElem? (i := 10) rfl))))
theorem qX6_net_fieldLink_RX6_35 : Cond.fieldLink RX6 35 "StageSwitchModel" "by" "[I" ∈ wsX6_net := (List.mem_cons_of_mem _ (List.mem_append_left _ (List.mem_append_left _ (List.mem_of_getElem? (i := 11) rfl))))
section SX6_net
variable {p : Program} {l : Launch} {e : Env} {s0 : State} {m : MethodId} {args : Array Value} {below : List Frame} {meth : Method} {c : Code} {D : va_G} {A : Nat → Prop} {H0 : Heap} {cy : Nat → ClassId} {Z : State → Prop}
theorem tbX6_net_82 (C : ctB p s0 m args c cX6_net 6 RX6 wsX6_net) (K : ctK s0 D A H0 cy) {o : Nat} {ad : Nat → Nat}  {x1 : Int32} {k108 : St → Prop} (hk108 : ∀ (s : St), k108 s → atG p l e rmX6_net s0 m args below meth c 0 0 Z 6 (iW D A H0 (wX6 cy o ad s)) [(0, .ref o), (1, .int x1)] [] 108) {kH : St → Int32 → Prop} (hkH : ∀ (s : St) (y5 : Int32), kH s y5 → atG p l e rmX6_net s0 m args below meth c 0 0 Z 6 (iW D A H0 (wX6 cy o ad s)) [(0, .ref o), (1, .int x1), (5, .int y5)] [] 82) (s : St) (x5 : Int32) (h : bX6_net_82 x1 k108 kH s x5) : atG p l e rmX6_net s0 m args below meth c 0 0 Z 6 (iW D A H0 (wX6 cy o ad s)) [(0, .ref o), (1, .int x1), (5, .int x5)] [] 82 := by
  delta bX6_net_82 at h
  refine aw_iload C dX6_net_82 2 rfl ?_
  refine aw_bipush (v := 12) C dX6_net_84 (by decide) ?_
  refine aw_icmp_ge (tgt := 108) C dX6_net_86 (by decide) (fun c86 => ?_) (fun c86 => ?_)
  · have h := h.1 c86
    refine aw_lv [0, 1] rfl ?_
    exact hk108 s h
  have h := h.2 c86
  refine aw_aload_n C dX6_net_89 0 rfl ?_
  refine aw_getX6 C K inX6_net_6 dX6_net_90 8 (by decide) qX6_net_fieldLink_RX6_28 0 (wX6_g ..) rfl ?_
  refine aw_bipush (v := 12) C dX6_net_93 (by decide) ?_
  refine aw_iload_n C dX6_net_95 1 rfl ?_
  refine aw_imul C dX6_net_96 ?_
  refine aw_iload C dX6_net_97 2 rfl ?_
  refine aw_iadd C dX6_net_99 ?_
  refine aw_iconst (v := 0) C dX6_net_100 (by decide) ?_
  obtain ⟨b101, h⟩ := h
  refine aw_zast C K dX6_net_101 7 (wX6_g8 ..) (wX6_s8 ..) b101 ?_
  obtain ⟨s101, es101⟩ : ∃ z, z = (uA s 8 (upd (sA s 8) ((12 * x1) + x5).toNatClampNeg (vp_nar .boolean 0))) := ⟨_, rfl⟩
  rw [← es101]
  have h := h s101 es101
  obtain ⟨x5_102, ex5_102⟩ : ∃ y : Int32, y = x5 + 1 := ⟨_, rfl⟩
  have h := h x5_102 ex5_102
  refine aw_iinc (v := x5_102) (lv' := [(5, .int x5_102), (0, .ref o), (1, .int x1)]) C dX6_net_102 2 rfl (by rw [ex5_102]; rfl) (by decide) rfl ?_
  refine aw_goto (tgt := 82) C dX6_net_105 (by decide) ?_
  refine aw_lv [1, 2, 0] rfl ?_
  exact hkH s101 x5_102 h
theorem tlX6_net_82 (C : ctB p s0 m args c cX6_net 6 RX6 wsX6_net) (K : ctK s0 D A H0 cy) {o : Nat} {ad : Nat → Nat}  {x1 : Int32} {k108 : St → Prop} (hk108 : ∀ (s : St), k108 s → atG p l e rmX6_net s0 m args below meth c 0 0 Z 6 (iW D A H0 (wX6 cy o ad s)) [(0, .ref o), (1, .int x1)] [] 108) (s : St) (x5 : Int32) (h : lX6_net_82 x1 k108 s x5) : atG p l e rmX6_net s0 m args below meth c 0 0 Z 6 (iW D A H0 (wX6 cy o ad s)) [(0, .ref o), (1, .int x1), (5, .int x5)] [] 82 :=
  lp_W (σ := St × Int32) (P := fun q => atG p l e rmX6_net s0 m args below meth c 0 0 Z 6 (iW D A H0 (wX6 cy o ad q.1)) [(0, .ref o), (1, .int x1), (5, .int q.2)] [] 82) (fun K2 hK2 q hb => tbX6_net_82 C K hk108 (fun s x5 hk => hK2 (s, x5) hk) q.1 q.2 hb) (s, x5) h
theorem tbX6_net_111 (C : ctB p s0 m args c cX6_net 6 RX6 wsX6_net) (K : ctK s0 D A H0 cy) {o : Nat} {ad : Nat → Nat}  {x1 : Int32} {k152 : St → Prop} (hk152 : ∀ (s : St), k152 s → atG p l e rmX6_net s0 m args below meth c 0 0 Z 6 (iW D A H0 (wX6 cy o ad s)) [(0, .ref o), (1, .int x1)] [] 152) {kH : St → Int32 → Prop} (hkH : ∀ (s : St) (y5 : Int32), kH s y5 → atG p l e rmX6_net s0 m args below meth c 0 0 Z 6 (iW D A H0 (wX6 cy o ad s)) [(0, .ref o), (1, .int x1), (5, .int y5)] [] 111) (s : St) (x5 : Int32) (h : bX6_net_111 x1 k152 kH s x5) : atG p l e rmX6_net s0 m args below meth c 0 0 Z 6 (iW D A H0 (wX6 cy o ad s)) [(0, .ref o), (1, .int x1), (5, .int x5)] [] 111 := by
  delta bX6_net_111 at h
  refine aw_iload C dX6_net_111 2 rfl ?_
  refine aw_bipush (v := 36) C dX6_net_113 (by decide) ?_
  refine aw_icmp_ge (tgt := 152) C dX6_net_115 (by decide) (fun c115 => ?_) (fun c115 => ?_)
  · have h := h.1 c115
    refine aw_lv [0, 1] rfl ?_
    exact hk152 s h
  have h := h.2 c115
  refine aw_aload_n C dX6_net_118 0 rfl ?_
  refine aw_getX6 C K inX6_net_6 dX6_net_119 9 (by decide) qX6_net_fieldLink_RX6_32 0 (wX6_g ..) rfl ?_
  refine aw_bipush (v := 36) C dX6_net_122 (by decide) ?_
  refine aw_iload_n C dX6_net_124 1 rfl ?_
  refine aw_imul C dX6_net_125 ?_
  refine aw_iload C dX6_net_126 2 rfl ?_
  refine aw_iadd C dX6_net_128 ?_
  refine aw_ldc (v := (-1000000)) C dX6_net_129 qX6_net_constant_RX6_118_1000000 ?_
  obtain ⟨b131, h⟩ := h
  refine aw_iast C K dX6_net_131 8 (wX6_g9 ..) (wX6_s9 ..) b131 ?_
  obtain ⟨s131, es131⟩ : ∃ z, z = (uA s 9 (upd (sA s 9) ((36 * x1) + x5).toNatClampNeg (-1000000))) := ⟨_, rfl⟩
  rw [← es131]
  have h := h s131 es131
  refine aw_aload_n C dX6_net_132 0 rfl ?_
  refine aw_getX6 C K inX6_net_6 dX6_net_133 10 (by decide) qX6_net_fieldLink_RX6_35 0 (wX6_g ..) rfl ?_
  refine aw_bipush (v := 36) C dX6_net_136 (by decide) ?_
  refine aw_iload_n C dX6_net_138 1 rfl ?_
  refine aw_imul C dX6_net_139 ?_
  refine aw_iload C dX6_net_140 2 rfl ?_
  refine aw_iadd C dX6_net_142 ?_
  refine aw_ldc (v := (-1000000)) C dX6_net_143 qX6_net_constant_RX6_118_1000000 ?_
  obtain ⟨b145, h⟩ := h
  refine aw_iast C K dX6_net_145 9 (wX6_g10 ..) (wX6_s10 ..) b145 ?_
  obtain ⟨s145, es145⟩ : ∃ z, z = (uA s131 10 (upd (sA s131 10) ((36 * x1) + x5).toNatClampNeg (-1000000))) := ⟨_, rfl⟩
  rw [← es145]
  have h := h s145 es145
  obtain ⟨x5_146, ex5_146⟩ : ∃ y : Int32, y = x5 + 1 := ⟨_, rfl⟩
  have h := h x5_146 ex5_146
  refine aw_iinc (v := x5_146) (lv' := [(5, .int x5_146), (0, .ref o), (1, .int x1)]) C dX6_net_146 2 rfl (by rw [ex5_146]; rfl) (by decide) rfl ?_
  refine aw_goto (tgt := 111) C dX6_net_149 (by decide) ?_
  refine aw_lv [1, 2, 0] rfl ?_
  exact hkH s145 x5_146 h
theorem tlX6_net_111 (C : ctB p s0 m args c cX6_net 6 RX6 wsX6_net) (K : ctK s0 D A H0 cy) {o : Nat} {ad : Nat → Nat}  {x1 : Int32} {k152 : St → Prop} (hk152 : ∀ (s : St), k152 s → atG p l e rmX6_net s0 m args below meth c 0 0 Z 6 (iW D A H0 (wX6 cy o ad s)) [(0, .ref o), (1, .int x1)] [] 152) (s : St) (x5 : Int32) (h : lX6_net_111 x1 k152 s x5) : atG p l e rmX6_net s0 m args below meth c 0 0 Z 6 (iW D A H0 (wX6 cy o ad s)) [(0, .ref o), (1, .int x1), (5, .int x5)] [] 111 :=
  lp_W (σ := St × Int32) (P := fun q => atG p l e rmX6_net s0 m args below meth c 0 0 Z 6 (iW D A H0 (wX6 cy o ad q.1)) [(0, .ref o), (1, .int x1), (5, .int q.2)] [] 111) (fun K2 hK2 q hb => tbX6_net_111 C K hk152 (fun s x5 hk => hK2 (s, x5) hk) q.1 q.2 hb) (s, x5) h
theorem eX6_net (C : ctB p s0 m args c cX6_net 6 RX6 wsX6_net) (K : ctK s0 D A H0 cy) {o : Nat} {ad : Nat → Nat} {Q : Int32 → St → Prop} (hQ : ∀ (v : Int32) (u : St), Q v u → ∀ pc, decode cX6_net pc = .ok (.ireturn, 1) → atG p l e rmX6_net s0 m args below meth c 0 0 Z 6 (iW D A H0 (wX6 cy o ad u)) [] [.int v] pc) (s : St) (x1 : Int32) (x2 : Int32) (x3 : Int32) (x4 : Int32) (h : pX6_net  s x1 x2 x3 x4 Q) : atG p l e rmX6_net s0 m args below meth c 0 0 Z 6 (iW D A H0 (wX6 cy o ad s)) [(0, .ref o), (1, .int x1), (2, .int x2), (3, .int x3), (4, .int x4)] [] 0 := by
  delta pX6_net at h
  refine aw_aload_n C dX6_net_0 0 rfl ?_
  refine aw_iconst (v := 0) C dX6_net_1 (by decide) ?_
  refine aw_putX6 (ty := .int) C K inX6_net_6 dX6_net_2 0 (by decide) qX6_net_fieldLink_RX6_81 0 (wX6_g ..) rfl (by decide +kernel) rfl rfl (Nat.le_of_ble_eq_true rfl) (wX6_p0 ..) ?_
  obtain ⟨s2, es2⟩ : ∃ z, z = (uF s 0 0) := ⟨_, rfl⟩
  rw [← es2]
  have h := h s2 es2
  refine aw_iload_n C dX6_net_5 1 rfl ?_
  refine aw_callS (As := [.int x1]) (rest := []) C (mtX6_isPlace l x1 _ h) (va_cwS 1 C.2.2.2.2.1 gX6_net_X6_isPlace rfl rfl rfl (by decide +kernel) ⟨Nat.le_of_ble_eq_true rfl, Nat.le_of_ble_eq_true rfl⟩) rfl rfl (Nat.le_of_ble_eq_true rfl) ⟨rfl, rfl⟩ ⟨Nat.zero_le _, Nat.zero_le _⟩ dX6_net_6 (fun r6 h => ?_)
  refine aw_if_eq (tgt := 49) C dX6_net_9 (by decide) (fun c9 => ?_) (fun c9 => ?_)
  · have h := h.1 c9
    refine aw_ldc (v := (-1000001)) C dX6_net_49 qX6_net_constant_RX6_101_1000001 ?_
    refine aw_lv [] rfl ?_
    exact hQ (-1000001) s2 h 51 dX6_net_51
  have h := h.2 c9
  refine aw_iload_n C dX6_net_12 2 rfl ?_
  refine aw_i2l C dX6_net_13 ?_
  refine aw_lconst (v := 1) C dX6_net_14 (by decide) ?_
  refine aw_ldc2 (v := 12) C dX6_net_15 qX6_net_constantLong_RX6_114_12 ?_
  refine aw_callS (As := [.long x2.toInt64, .long 1, .long 12]) (rest := []) C (mtX6_in l x2.toInt64 1 12 _ h) (va_cwS 3 C.2.2.2.2.1 gX6_net_X6_in rfl rfl rfl (by decide +kernel) ⟨Nat.le_of_ble_eq_true rfl, Nat.le_of_ble_eq_true rfl⟩) rfl rfl (Nat.le_of_ble_eq_true rfl) ⟨rfl, rfl⟩ ⟨Nat.zero_le _, Nat.zero_le _⟩ dX6_net_18 (fun r18 h => ?_)
  refine aw_if_eq (tgt := 49) C dX6_net_21 (by decide) (fun c21 => ?_) (fun c21 => ?_)
  · have h := h.1 c21
    refine aw_ldc (v := (-1000001)) C dX6_net_49 qX6_net_constant_RX6_101_1000001 ?_
    refine aw_lv [] rfl ?_
    exact hQ (-1000001) s2 h 51 dX6_net_51
  have h := h.2 c21
  refine aw_iload_n C dX6_net_24 3 rfl ?_
  refine aw_i2l C dX6_net_25 ?_
  refine aw_lconst (v := 1) C dX6_net_26 (by decide) ?_
  refine aw_ldc2 (v := 6) C dX6_net_27 qX6_net_constantLong_RX6_116_6 ?_
  refine aw_callS (As := [.long x3.toInt64, .long 1, .long 6]) (rest := []) C (mtX6_in l x3.toInt64 1 6 _ h) (va_cwS 3 C.2.2.2.2.1 gX6_net_X6_in rfl rfl rfl (by decide +kernel) ⟨Nat.le_of_ble_eq_true rfl, Nat.le_of_ble_eq_true rfl⟩) rfl rfl (Nat.le_of_ble_eq_true rfl) ⟨rfl, rfl⟩ ⟨Nat.zero_le _, Nat.zero_le _⟩ dX6_net_30 (fun r30 h => ?_)
  refine aw_if_eq (tgt := 49) C dX6_net_33 (by decide) (fun c33 => ?_) (fun c33 => ?_)
  · have h := h.1 c33
    refine aw_ldc (v := (-1000001)) C dX6_net_49 qX6_net_constant_RX6_101_1000001 ?_
    refine aw_lv [] rfl ?_
    exact hQ (-1000001) s2 h 51 dX6_net_51
  have h := h.2 c33
  refine aw_iload C dX6_net_36 4 rfl ?_
  refine aw_i2l C dX6_net_38 ?_
  refine aw_lconst (v := 1) C dX6_net_39 (by decide) ?_
  refine aw_ldc2 (v := 6) C dX6_net_40 qX6_net_constantLong_RX6_116_6 ?_
  refine aw_callS (As := [.long x4.toInt64, .long 1, .long 6]) (rest := []) C (mtX6_in l x4.toInt64 1 6 _ h) (va_cwS 3 C.2.2.2.2.1 gX6_net_X6_in rfl rfl rfl (by decide +kernel) ⟨Nat.le_of_ble_eq_true rfl, Nat.le_of_ble_eq_true rfl⟩) rfl rfl (Nat.le_of_ble_eq_true rfl) ⟨rfl, rfl⟩ ⟨Nat.zero_le _, Nat.zero_le _⟩ dX6_net_43 (fun r43 h => ?_)
  refine aw_if_ne (tgt := 52) C dX6_net_46 (by decide) (fun c46 => ?_) (fun c46 => ?_)
  · have h := h.2 c46
    refine aw_aload_n C dX6_net_52 0 rfl ?_
    refine aw_iconst (v := 0) C dX6_net_53 (by decide) ?_
    refine aw_putX6 (ty := .int) C K inX6_net_6 dX6_net_54 1 (by decide) qX6_net_fieldLink_RX6_85 0 (wX6_g ..) rfl (by decide +kernel) rfl rfl (Nat.le_of_ble_eq_true rfl) (wX6_p1 ..) ?_
    obtain ⟨s54, es54⟩ : ∃ z, z = (uF s2 1 0) := ⟨_, rfl⟩
    rw [← es54]
    have h := h s54 es54
    refine aw_aload_n C dX6_net_57 0 rfl ?_
    refine aw_getX6 C K inX6_net_6 dX6_net_58 5 (by decide) qX6_net_fieldLink_RX6_19 0 (wX6_g ..) rfl ?_
    refine aw_iload_n C dX6_net_61 1 rfl ?_
    refine aw_iload_n C dX6_net_62 2 rfl ?_
    obtain ⟨b63, h⟩ := h
    refine aw_iast C K dX6_net_63 4 (wX6_g5 ..) (wX6_s5 ..) b63 ?_
    obtain ⟨s63, es63⟩ : ∃ z, z = (uA s54 5 (upd (sA s54 5) x1.toNatClampNeg x2)) := ⟨_, rfl⟩
    rw [← es63]
    have h := h s63 es63
    refine aw_aload_n C dX6_net_64 0 rfl ?_
    refine aw_getX6 C K inX6_net_6 dX6_net_65 6 (by decide) qX6_net_fieldLink_RX6_22 0 (wX6_g ..) rfl ?_
    refine aw_iload_n C dX6_net_68 1 rfl ?_
    refine aw_iload_n C dX6_net_69 3 rfl ?_
    obtain ⟨b70, h⟩ := h
    refine aw_iast C K dX6_net_70 5 (wX6_g6 ..) (wX6_s6 ..) b70 ?_
    obtain ⟨s70, es70⟩ : ∃ z, z = (uA s63 6 (upd (sA s63 6) x1.toNatClampNeg x3)) := ⟨_, rfl⟩
    rw [← es70]
    have h := h s70 es70
    refine aw_aload_n C dX6_net_71 0 rfl ?_
    refine aw_getX6 C K inX6_net_6 dX6_net_72 7 (by decide) qX6_net_fieldLink_RX6_25 0 (wX6_g ..) rfl ?_
    refine aw_iload_n C dX6_net_75 1 rfl ?_
    refine aw_iload C dX6_net_76 4 rfl ?_
    obtain ⟨b78, h⟩ := h
    refine aw_iast C K dX6_net_78 6 (wX6_g7 ..) (wX6_s7 ..) b78 ?_
    obtain ⟨s78, es78⟩ : ∃ z, z = (uA s70 7 (upd (sA s70 7) x1.toNatClampNeg x4)) := ⟨_, rfl⟩
    rw [← es78]
    have h := h s78 es78
    refine aw_iconst (v := 0) C dX6_net_79 (by decide) ?_
    refine aw_istore (lv' := [(5, .int 0), (0, .ref o), (1, .int x1), (2, .int x2), (3, .int x3), (4, .int x4)]) C dX6_net_80 (by decide) rfl ?_
    refine aw_lv [1, 2, 0] rfl ?_
    refine tlX6_net_82 C K ?_ s78 0 h
    intro s_108 h
    refine aw_iconst (v := 0) C dX6_net_108 (by decide) ?_
    refine aw_istore (lv' := [(5, .int 0), (0, .ref o), (1, .int x1)]) C dX6_net_109 (by decide) rfl ?_
    refine aw_lv [1, 2, 0] rfl ?_
    refine tlX6_net_111 C K ?_ s_108 0 h
    intro s_152 h
    refine aw_aload_n C dX6_net_152 0 rfl ?_
    refine aw_iload_n C dX6_net_153 1 rfl ?_
    refine aw_callI (As := [.int x1]) (rest := []) C K (mtX6_kindOf l D cy o ad s_152 x1 _ h) (cwV 1 C.2.2.2.2.1 gX6_net_X6_kindOf rfl rfl rfl (by decide +kernel) ⟨Nat.le_of_ble_eq_true rfl, Nat.le_of_ble_eq_true rfl⟩) 0 6 (wX6_g ..) rfl rfl rfl rfl (Nat.le_of_ble_eq_true rfl) ⟨Nat.le_of_ble_eq_true rfl, Nat.le_of_ble_eq_true rfl⟩ dX6_net_154 (fun r154 s154 h => ?_)
    obtain ⟨h, hu154⟩ := h
    rw [hu154]
    refine aw_lv [] rfl ?_
    exact hQ r154 s_152 h 157 dX6_net_157
  have h := h.1 c46
  refine aw_ldc (v := (-1000001)) C dX6_net_49 qX6_net_constant_RX6_101_1000001 ?_
  refine aw_lv [] rfl ?_
  exact hQ (-1000001) s2 h 51 dX6_net_51
end SX6_net
theorem mtX6_net (l : Launch) (D : va_G) (cy : Nat → ClassId) (o : Nat) (ad : Nat → Nat) (s : St) (x1 : Int32) (x2 : Int32) (x3 : Int32) (x4 : Int32) (Q : Int32 → St → Prop) (hw : pX6_net  s x1 x2 x3 x4 Q) : mI l yX6_net wsX6_net rmX6_net D cy [.ref o, .int x1, .int x2, .int x3, .int x4] (wX6 cy o ad s) (wX6 cy o ad) Q :=
  metI (Wd := wX6 cy o ad) ⟨rfl, rfl⟩ (by decide) rfl (Nat.le_of_ble_eq_true rfl) (fun C K hQ => eX6_net C K hQ s x1 x2 x3 x4 hw)
def rmX6_clear : Room := { frames := 2, cells := 0, slots := 0, locals := 45 }
theorem inX6_clear_6 : ∀ w ∈ wsX60, w ∈ wsX6_clear := fun w h => (List.mem_cons_of_mem _ (List.mem_append_right _ h))
theorem qX6_clear_fieldLink_RX6_81 : Cond.fieldLink RX6 81 "StageSwitchModel" "thrown" "I" ∈ wsX6_clear := (List.mem_cons_of_mem _ (List.mem_append_left _ (List.mem_of_getElem? (i := 0) rfl)))
theorem qX6_clear_fieldLink_RX6_19 : Cond.fieldLink RX6 19 "StageSwitchModel" "middles" "[I" ∈ wsX6_clear := (List.mem_cons_of_mem _ (List.mem_append_left _ (List.mem_of_getElem? (i := 2) rfl)))
theorem qX6_clear_constant_RX6_101_1000001 : Cond.constant RX6 101 (-1000001) ∈ wsX6_clear := (List.mem_cons_of_mem _ (List.mem_append_left _ (List.mem_of_getElem? (i := 1) rfl)))
section SX6_clear
variable {p : Program} {l : Launch} {e : Env} {s0 : State} {m : MethodId} {args : Array Value} {below : List Frame} {meth : Method} {c : Code} {D : va_G} {A : Nat → Prop} {H0 : Heap} {cy : Nat → ClassId} {Z : State → Prop}
theorem eX6_clear (C : ctB p s0 m args c cX6_clear 3 RX6 wsX6_clear) (K : ctK s0 D A H0 cy) {o : Nat} {ad : Nat → Nat} {Q : Int32 → St → Prop} (hQ : ∀ (v : Int32) (u : St), Q v u → ∀ pc, decode cX6_clear pc = .ok (.ireturn, 1) → atG p l e rmX6_clear s0 m args below meth c 0 0 Z 3 (iW D A H0 (wX6 cy o ad u)) [] [.int v] pc) (s : St) (x1 : Int32) (h : pX6_clear  s x1 Q) : atG p l e rmX6_clear s0 m args below meth c 0 0 Z 3 (iW D A H0 (wX6 cy o ad s)) [(0, .ref o), (1, .int x1)] [] 0 := by
  delta pX6_clear at h
  refine aw_aload_n C dX6_clear_0 0 rfl ?_
  refine aw_iconst (v := 0) C dX6_clear_1 (by decide) ?_
  refine aw_putX6 (ty := .int) C K inX6_clear_6 dX6_clear_2 0 (by decide) qX6_clear_fieldLink_RX6_81 0 (wX6_g ..) rfl (by decide +kernel) rfl rfl (Nat.le_of_ble_eq_true rfl) (wX6_p0 ..) ?_
  obtain ⟨s2, es2⟩ : ∃ z, z = (uF s 0 0) := ⟨_, rfl⟩
  rw [← es2]
  have h := h s2 es2
  refine aw_iload_n C dX6_clear_5 1 rfl ?_
  refine aw_callS (As := [.int x1]) (rest := []) C (mtX6_isPlace l x1 _ h) (va_cwS 1 C.2.2.2.2.1 gX6_clear_X6_isPlace rfl rfl rfl (by decide +kernel) ⟨Nat.le_of_ble_eq_true rfl, Nat.le_of_ble_eq_true rfl⟩) rfl rfl (Nat.le_of_ble_eq_true rfl) ⟨rfl, rfl⟩ ⟨Nat.zero_le _, Nat.zero_le _⟩ dX6_clear_6 (fun r6 h => ?_)
  refine aw_if_ne (tgt := 15) C dX6_clear_9 (by decide) (fun c9 => ?_) (fun c9 => ?_)
  · have h := h.2 c9
    refine aw_aload_n C dX6_clear_15 0 rfl ?_
    refine aw_getX6 C K inX6_clear_6 dX6_clear_16 5 (by decide) qX6_clear_fieldLink_RX6_19 0 (wX6_g ..) rfl ?_
    refine aw_iload_n C dX6_clear_19 1 rfl ?_
    obtain ⟨b20, h⟩ := h
    refine aw_iald C K dX6_clear_20 4 (wX6_g5 ..) b20 ?_
    refine aw_if_le (tgt := 28) C dX6_clear_21 (by decide) (fun c21 => ?_) (fun c21 => ?_)
    · have h := h.1 c21
      refine aw_iconst (v := 0) C dX6_clear_28 (by decide) ?_
      refine aw_istore_n (lv' := [(2, .int 0), (0, .ref o), (1, .int x1)]) C dX6_clear_29 (by decide) rfl ?_
      refine aw_aload_n C dX6_clear_30 1 rfl ?_
      refine aw_getX6 C K inX6_clear_6 dX6_clear_31 5 (by decide) qX6_clear_fieldLink_RX6_19 0 (wX6_g ..) rfl ?_
      refine aw_iload_n C dX6_clear_34 2 rfl ?_
      refine aw_iconst (v := 0) C dX6_clear_35 (by decide) ?_
      obtain ⟨b36, h⟩ := h
      refine aw_iast C K dX6_clear_36 4 (wX6_g5 ..) (wX6_s5 ..) b36 ?_
      obtain ⟨s36, es36⟩ : ∃ z, z = (uA s2 5 (upd (sA s2 5) x1.toNatClampNeg 0)) := ⟨_, rfl⟩
      rw [← es36]
      have h := h s36 es36
      refine aw_iload_n C dX6_clear_37 0 rfl ?_
      refine aw_if_eq (tgt := 45) C dX6_clear_38 (by decide) (fun _ => ?_) (fun q => absurd (by decide) q)
      refine aw_iconst (v := 0) C dX6_clear_45 (by decide) ?_
      refine aw_lv [] rfl ?_
      exact hQ 0 s36 h 46 dX6_clear_46
    have h := h.2 c21
    refine aw_iconst (v := 1) C dX6_clear_24 (by decide) ?_
    refine aw_goto (tgt := 29) C dX6_clear_25 (by decide) ?_
    refine aw_istore_n (lv' := [(2, .int 1), (0, .ref o), (1, .int x1)]) C dX6_clear_29 (by decide) rfl ?_
    refine aw_aload_n C dX6_clear_30 1 rfl ?_
    refine aw_getX6 C K inX6_clear_6 dX6_clear_31 5 (by decide) qX6_clear_fieldLink_RX6_19 0 (wX6_g ..) rfl ?_
    refine aw_iload_n C dX6_clear_34 2 rfl ?_
    refine aw_iconst (v := 0) C dX6_clear_35 (by decide) ?_
    obtain ⟨b36, h⟩ := h
    refine aw_iast C K dX6_clear_36 4 (wX6_g5 ..) (wX6_s5 ..) b36 ?_
    obtain ⟨s36, es36⟩ : ∃ z, z = (uA s2 5 (upd (sA s2 5) x1.toNatClampNeg 0)) := ⟨_, rfl⟩
    rw [← es36]
    have h := h s36 es36
    refine aw_iload_n C dX6_clear_37 0 rfl ?_
    refine aw_if_eq (tgt := 45) C dX6_clear_38 (by decide) (fun q => absurd q (by decide)) (fun _ => ?_)
    refine aw_iconst (v := 1) C dX6_clear_41 (by decide) ?_
    refine aw_goto (tgt := 46) C dX6_clear_42 (by decide) ?_
    refine aw_lv [] rfl ?_
    exact hQ 1 s36 h 46 dX6_clear_46
  have h := h.1 c9
  refine aw_ldc (v := (-1000001)) C dX6_clear_12 qX6_clear_constant_RX6_101_1000001 ?_
  refine aw_lv [] rfl ?_
  exact hQ (-1000001) s2 h 14 dX6_clear_14
end SX6_clear
theorem mtX6_clear (l : Launch) (D : va_G) (cy : Nat → ClassId) (o : Nat) (ad : Nat → Nat) (s : St) (x1 : Int32) (Q : Int32 → St → Prop) (hw : pX6_clear  s x1 Q) : mI l yX6_clear wsX6_clear rmX6_clear D cy [.ref o, .int x1] (wX6 cy o ad s) (wX6 cy o ad) Q :=
  metI (Wd := wX6 cy o ad) ⟨rfl, rfl⟩ (by decide) rfl (Nat.le_of_ble_eq_true rfl) (fun C K hQ => eX6_clear C K hQ s x1 hw)
def rmX6_look : Room := { frames := 1, cells := 0, slots := 0, locals := 21 }
theorem inX6_look_6 : ∀ w ∈ wsX60, w ∈ wsX6_look := fun w h => (List.mem_cons_of_mem _ (List.mem_append_right _ h))
theorem qX6_look_fieldLink_RX6_85 : Cond.fieldLink RX6 85 "StageSwitchModel" "status" "I" ∈ wsX6_look := (List.mem_cons_of_mem _ (List.mem_append_left _ (List.mem_of_getElem? (i := 0) rfl)))
theorem qX6_look_fieldLink_RX6_19 : Cond.fieldLink RX6 19 "StageSwitchModel" "middles" "[I" ∈ wsX6_look := (List.mem_cons_of_mem _ (List.mem_append_left _ (List.mem_of_getElem? (i := 1) rfl)))
section SX6_look
variable {p : Program} {l : Launch} {e : Env} {s0 : State} {m : MethodId} {args : Array Value} {below : List Frame} {meth : Method} {c : Code} {D : va_G} {A : Nat → Prop} {H0 : Heap} {cy : Nat → ClassId} {Z : State → Prop}
theorem eX6_look (C : ctB p s0 m args c cX6_look 2 RX6 wsX6_look) (K : ctK s0 D A H0 cy) {o : Nat} {ad : Nat → Nat} {Q : Int32 → St → Prop} (hQ : ∀ (v : Int32) (u : St), Q v u → ∀ pc, decode cX6_look pc = .ok (.ireturn, 1) → atG p l e rmX6_look s0 m args below meth c 0 0 Z 2 (iW D A H0 (wX6 cy o ad u)) [] [.int v] pc) (s : St) (x1 : Int32) (h : pX6_look  s x1 Q) : atG p l e rmX6_look s0 m args below meth c 0 0 Z 2 (iW D A H0 (wX6 cy o ad s)) [(0, .ref o), (1, .int x1)] [] 0 := by
  delta pX6_look at h
  refine aw_aload_n C dX6_look_0 0 rfl ?_
  refine aw_iconst (v := 0) C dX6_look_1 (by decide) ?_
  refine aw_putX6 (ty := .int) C K inX6_look_6 dX6_look_2 1 (by decide) qX6_look_fieldLink_RX6_85 0 (wX6_g ..) rfl (by decide +kernel) rfl rfl (Nat.le_of_ble_eq_true rfl) (wX6_p1 ..) ?_
  obtain ⟨s2, es2⟩ : ∃ z, z = (uF s 1 0) := ⟨_, rfl⟩
  rw [← es2]
  have h := h s2 es2
  refine aw_aload_n C dX6_look_5 0 rfl ?_
  refine aw_getX6 C K inX6_look_6 dX6_look_6 5 (by decide) qX6_look_fieldLink_RX6_19 0 (wX6_g ..) rfl ?_
  refine aw_iload_n C dX6_look_9 1 rfl ?_
  obtain ⟨b10, h⟩ := h
  refine aw_iald C K dX6_look_10 4 (wX6_g5 ..) b10 ?_
  refine aw_if_ne (tgt := 22) C dX6_look_11 (by decide) (fun c11 => ?_) (fun c11 => ?_)
  · have h := h.2 c11
    refine aw_iconst (v := 0) C dX6_look_22 (by decide) ?_
    refine aw_lv [] rfl ?_
    exact hQ 0 s2 h 23 dX6_look_23
  have h := h.1 c11
  refine aw_aload_n C dX6_look_14 0 rfl ?_
  refine aw_iconst (v := 1) C dX6_look_15 (by decide) ?_
  refine aw_callI (As := [.int 1]) (rest := []) C K (mtX6_found l D cy o ad s2 1 _ h) (cwV 1 C.2.2.2.2.1 gX6_look_X6_found rfl rfl rfl (by decide +kernel) ⟨Nat.le_of_ble_eq_true rfl, Nat.le_of_ble_eq_true rfl⟩) 0 6 (wX6_g ..) rfl rfl rfl rfl (Nat.le_of_ble_eq_true rfl) ⟨Nat.le_of_ble_eq_true rfl, Nat.le_of_ble_eq_true rfl⟩ dX6_look_16 (fun r16 s16 h => ?_)
  refine aw_goto (tgt := 23) C dX6_look_19 (by decide) ?_
  refine aw_lv [] rfl ?_
  exact hQ r16 s16 h 23 dX6_look_23
end SX6_look
theorem mtX6_look (l : Launch) (D : va_G) (cy : Nat → ClassId) (o : Nat) (ad : Nat → Nat) (s : St) (x1 : Int32) (Q : Int32 → St → Prop) (hw : pX6_look  s x1 Q) : mI l yX6_look wsX6_look rmX6_look D cy [.ref o, .int x1] (wX6 cy o ad s) (wX6 cy o ad) Q :=
  metI (Wd := wX6 cy o ad) ⟨rfl, rfl⟩ (by decide) rfl (Nat.le_of_ble_eq_true rfl) (fun C K hQ => eX6_look C K hQ s x1 hw)
def rmX6_kind : Room := { frames := 2, cells := 0, slots := 0, locals := 45 }
theorem inX6_kind_6 : ∀ w ∈ wsX60, w ∈ wsX6_kind := fun w h => (List.mem_cons_of_mem _ (List.mem_append_right _ h))
theorem qX6_kind_fieldLink_RX6_81 : Cond.fieldLink RX6 81 "StageSwitchModel" "thrown" "I" ∈ wsX6_kind := (List.mem_cons_of_mem _ (List.mem_append_left _ (List.mem_append_left _ (List.mem_of_getElem? (i := 0) rfl))))
theorem qX6_kind_constant_RX6_101_1000001 : Cond.constant RX6 101 (-1000001) ∈ wsX6_kind := (List.mem_cons_of_mem _ (List.mem_append_left _ (List.mem_append_left _ (List.mem_of_getElem? (i := 1) rfl))))
section SX6_kind
variable {p : Program} {l : Launch} {e : Env} {s0 : State} {m : MethodId} {args : Array Value} {below : List Frame} {meth : Method} {c : Code} {D : va_G} {A : Nat → Prop} {H0 : Heap} {cy : Nat → ClassId} {Z : State → Prop}
theorem eX6_kind (C : ctB p s0 m args c cX6_kind 3 RX6 wsX6_kind) (K : ctK s0 D A H0 cy) {o : Nat} {ad : Nat → Nat} {Q : Int32 → St → Prop} (hQ : ∀ (v : Int32) (u : St), Q v u → ∀ pc, decode cX6_kind pc = .ok (.ireturn, 1) → atG p l e rmX6_kind s0 m args below meth c 0 0 Z 3 (iW D A H0 (wX6 cy o ad u)) [] [.int v] pc) (s : St) (x1 : Int32) (h : pX6_kind  s x1 Q) : atG p l e rmX6_kind s0 m args below meth c 0 0 Z 3 (iW D A H0 (wX6 cy o ad s)) [(0, .ref o), (1, .int x1)] [] 0 := by
  delta pX6_kind at h
  refine aw_aload_n C dX6_kind_0 0 rfl ?_
  refine aw_iconst (v := 0) C dX6_kind_1 (by decide) ?_
  refine aw_putX6 (ty := .int) C K inX6_kind_6 dX6_kind_2 0 (by decide) qX6_kind_fieldLink_RX6_81 0 (wX6_g ..) rfl (by decide +kernel) rfl rfl (Nat.le_of_ble_eq_true rfl) (wX6_p0 ..) ?_
  obtain ⟨s2, es2⟩ : ∃ z, z = (uF s 0 0) := ⟨_, rfl⟩
  rw [← es2]
  have h := h s2 es2
  refine aw_iload_n C dX6_kind_5 1 rfl ?_
  refine aw_callS (As := [.int x1]) (rest := []) C (mtX6_isPlace l x1 _ h) (va_cwS 1 C.2.2.2.2.1 gX6_kind_X6_isPlace rfl rfl rfl (by decide +kernel) ⟨Nat.le_of_ble_eq_true rfl, Nat.le_of_ble_eq_true rfl⟩) rfl rfl (Nat.le_of_ble_eq_true rfl) ⟨rfl, rfl⟩ ⟨Nat.zero_le _, Nat.zero_le _⟩ dX6_kind_6 (fun r6 h => ?_)
  refine aw_if_ne (tgt := 15) C dX6_kind_9 (by decide) (fun c9 => ?_) (fun c9 => ?_)
  · have h := h.2 c9
    refine aw_aload_n C dX6_kind_15 0 rfl ?_
    refine aw_iload_n C dX6_kind_16 1 rfl ?_
    refine aw_callI (As := [.int x1]) (rest := []) C K (mtX6_look l D cy o ad s2 x1 _ h) (cwV 1 C.2.2.2.2.1 gX6_kind_X6_look rfl rfl rfl (by decide +kernel) ⟨Nat.le_of_ble_eq_true rfl, Nat.le_of_ble_eq_true rfl⟩) 0 6 (wX6_g ..) rfl rfl rfl rfl (Nat.le_of_ble_eq_true rfl) ⟨Nat.le_of_ble_eq_true rfl, Nat.le_of_ble_eq_true rfl⟩ dX6_kind_17 (fun r17 s17 h => ?_)
    refine aw_istore_n (lv' := [(2, .int r17), (0, .ref o), (1, .int x1)]) C dX6_kind_20 (by decide) rfl ?_
    refine aw_iload_n C dX6_kind_21 0 rfl ?_
    refine aw_if_ge (tgt := 29) C dX6_kind_22 (by decide) (fun c22 => ?_) (fun c22 => ?_)
    · have h := h.1 c22
      refine aw_aload_n C dX6_kind_29 1 rfl ?_
      refine aw_iload_n C dX6_kind_30 2 rfl ?_
      refine aw_callI (As := [.int x1]) (rest := []) C K (mtX6_kindOf l D cy o ad s17 x1 _ h) (cwV 1 C.2.2.2.2.1 gX6_kind_X6_kindOf rfl rfl rfl (by decide +kernel) ⟨Nat.le_of_ble_eq_true rfl, Nat.le_of_ble_eq_true rfl⟩) 0 6 (wX6_g ..) rfl rfl rfl rfl (Nat.le_of_ble_eq_true rfl) ⟨Nat.le_of_ble_eq_true rfl, Nat.le_of_ble_eq_true rfl⟩ dX6_kind_31 (fun r31 s31 h => ?_)
      obtain ⟨h, hu31⟩ := h
      rw [hu31]
      refine aw_lv [] rfl ?_
      exact hQ r31 s17 h 34 dX6_kind_34
    have h := h.2 c22
    refine aw_iload_n C dX6_kind_25 0 rfl ?_
    refine aw_goto (tgt := 34) C dX6_kind_26 (by decide) ?_
    refine aw_lv [] rfl ?_
    exact hQ r17 s17 h 34 dX6_kind_34
  have h := h.1 c9
  refine aw_ldc (v := (-1000001)) C dX6_kind_12 qX6_kind_constant_RX6_101_1000001 ?_
  refine aw_lv [] rfl ?_
  exact hQ (-1000001) s2 h 14 dX6_kind_14
end SX6_kind
theorem mtX6_kind (l : Launch) (D : va_G) (cy : Nat → ClassId) (o : Nat) (ad : Nat → Nat) (s : St) (x1 : Int32) (Q : Int32 → St → Prop) (hw : pX6_kind  s x1 Q) : mI l yX6_kind wsX6_kind rmX6_kind D cy [.ref o, .int x1] (wX6 cy o ad s) (wX6 cy o ad) Q :=
  metI (Wd := wX6 cy o ad) ⟨rfl, rfl⟩ (by decide) rfl (Nat.le_of_ble_eq_true rfl) (fun C K hQ => eX6_kind C K hQ s x1 hw)
def rmX6_is : Room := { frames := 2, cells := 0, slots := 0, locals := 45 }
theorem inX6_is_6 : ∀ w ∈ wsX60, w ∈ wsX6_is := fun w h => (List.mem_cons_of_mem _ (List.mem_append_right _ h))
theorem qX6_is_fieldLink_RX6_81 : Cond.fieldLink RX6 81 "StageSwitchModel" "thrown" "I" ∈ wsX6_is := (List.mem_cons_of_mem _ (List.mem_append_left _ (List.mem_append_left _ (List.mem_of_getElem? (i := 0) rfl))))
theorem qX6_is_constant_RX6_101_1000001 : Cond.constant RX6 101 (-1000001) ∈ wsX6_is := (List.mem_cons_of_mem _ (List.mem_append_left _ (List.mem_append_left _ (List.mem_of_getElem? (i := 2) rfl))))
theorem qX6_is_constantLong_RX6_125_3 : Cond.constantLong RX6 125 (3) ∈ wsX6_is := (List.mem_cons_of_mem _ (List.mem_append_left _ (List.mem_append_left _ (List.mem_of_getElem? (i := 1) rfl))))
theorem qX6_is_fieldLink_RX6_19 : Cond.fieldLink RX6 19 "StageSwitchModel" "middles" "[I" ∈ wsX6_is := (List.mem_cons_of_mem _ (List.mem_append_left _ (List.mem_append_left _ (List.mem_of_getElem? (i := 3) rfl))))
section SX6_is
variable {p : Program} {l : Launch} {e : Env} {s0 : State} {m : MethodId} {args : Array Value} {below : List Frame} {meth : Method} {c : Code} {D : va_G} {A : Nat → Prop} {H0 : Heap} {cy : Nat → ClassId} {Z : State → Prop}
theorem eX6_is (C : ctB p s0 m args c cX6_is 3 RX6 wsX6_is) (K : ctK s0 D A H0 cy) {o : Nat} {ad : Nat → Nat} {Q : Int32 → St → Prop} (hQ : ∀ (v : Int32) (u : St), Q v u → ∀ pc, decode cX6_is pc = .ok (.ireturn, 1) → atG p l e rmX6_is s0 m args below meth c 0 0 Z 3 (iW D A H0 (wX6 cy o ad u)) [] [.int v] pc) (s : St) (x1 : Int32) (x2 : Int32) (h : pX6_is  s x1 x2 Q) : atG p l e rmX6_is s0 m args below meth c 0 0 Z 3 (iW D A H0 (wX6 cy o ad s)) [(0, .ref o), (1, .int x1), (2, .int x2)] [] 0 := by
  delta pX6_is at h
  refine aw_aload_n C dX6_is_0 0 rfl ?_
  refine aw_iconst (v := 0) C dX6_is_1 (by decide) ?_
  refine aw_putX6 (ty := .int) C K inX6_is_6 dX6_is_2 0 (by decide) qX6_is_fieldLink_RX6_81 0 (wX6_g ..) rfl (by decide +kernel) rfl rfl (Nat.le_of_ble_eq_true rfl) (wX6_p0 ..) ?_
  obtain ⟨s2, es2⟩ : ∃ z, z = (uF s 0 0) := ⟨_, rfl⟩
  rw [← es2]
  have h := h s2 es2
  refine aw_iload_n C dX6_is_5 1 rfl ?_
  refine aw_callS (As := [.int x1]) (rest := []) C (mtX6_isPlace l x1 _ h) (va_cwS 1 C.2.2.2.2.1 gX6_is_X6_isPlace rfl rfl rfl (by decide +kernel) ⟨Nat.le_of_ble_eq_true rfl, Nat.le_of_ble_eq_true rfl⟩) rfl rfl (Nat.le_of_ble_eq_true rfl) ⟨rfl, rfl⟩ ⟨Nat.zero_le _, Nat.zero_le _⟩ dX6_is_6 (fun r6 h => ?_)
  refine aw_if_eq (tgt := 24) C dX6_is_9 (by decide) (fun c9 => ?_) (fun c9 => ?_)
  · have h := h.1 c9
    refine aw_ldc (v := (-1000001)) C dX6_is_24 qX6_is_constant_RX6_101_1000001 ?_
    refine aw_goto (tgt := 55) C dX6_is_26 (by decide) ?_
    refine aw_lv [] rfl ?_
    exact hQ (-1000001) s2 h 55 dX6_is_55
  have h := h.2 c9
  refine aw_iload_n C dX6_is_12 2 rfl ?_
  refine aw_i2l C dX6_is_13 ?_
  refine aw_lconst (v := 0) C dX6_is_14 (by decide) ?_
  refine aw_ldc2 (v := 3) C dX6_is_15 qX6_is_constantLong_RX6_125_3 ?_
  refine aw_callS (As := [.long x2.toInt64, .long 0, .long 3]) (rest := []) C (mtX6_in l x2.toInt64 0 3 _ h) (va_cwS 3 C.2.2.2.2.1 gX6_is_X6_in rfl rfl rfl (by decide +kernel) ⟨Nat.le_of_ble_eq_true rfl, Nat.le_of_ble_eq_true rfl⟩) rfl rfl (Nat.le_of_ble_eq_true rfl) ⟨rfl, rfl⟩ ⟨Nat.zero_le _, Nat.zero_le _⟩ dX6_is_18 (fun r18 h => ?_)
  refine aw_if_ne (tgt := 29) C dX6_is_21 (by decide) (fun c21 => ?_) (fun c21 => ?_)
  · have h := h.2 c21
    refine aw_aload_n C dX6_is_29 0 rfl ?_
    refine aw_getX6 C K inX6_is_6 dX6_is_30 5 (by decide) qX6_is_fieldLink_RX6_19 0 (wX6_g ..) rfl ?_
    refine aw_iload_n C dX6_is_33 1 rfl ?_
    obtain ⟨b34, h⟩ := h
    refine aw_iald C K dX6_is_34 4 (wX6_g5 ..) b34 ?_
    refine aw_if_le (tgt := 54) C dX6_is_35 (by decide) (fun c35 => ?_) (fun c35 => ?_)
    · have h := h.1 c35
      refine aw_iconst (v := 0) C dX6_is_54 (by decide) ?_
      refine aw_lv [] rfl ?_
      exact hQ 0 s2 h 55 dX6_is_55
    have h := h.2 c35
    refine aw_aload_n C dX6_is_38 0 rfl ?_
    refine aw_iload_n C dX6_is_39 1 rfl ?_
    refine aw_callI (As := [.int x1]) (rest := []) C K (mtX6_kindOf l D cy o ad s2 x1 _ h) (cwV 1 C.2.2.2.2.1 gX6_is_X6_kindOf rfl rfl rfl (by decide +kernel) ⟨Nat.le_of_ble_eq_true rfl, Nat.le_of_ble_eq_true rfl⟩) 0 6 (wX6_g ..) rfl rfl rfl rfl (Nat.le_of_ble_eq_true rfl) ⟨Nat.le_of_ble_eq_true rfl, Nat.le_of_ble_eq_true rfl⟩ dX6_is_40 (fun r40 s40 h => ?_)
    obtain ⟨h, hu40⟩ := h
    rw [hu40]
    refine aw_iload_n C dX6_is_43 2 rfl ?_
    refine aw_callS (As := [.int r40, .int x2]) (rest := []) C (mtX6_isOf l r40 x2 _ h) (va_cwS 2 C.2.2.2.2.1 gX6_is_X6_isOf rfl rfl rfl (by decide +kernel) ⟨Nat.le_of_ble_eq_true rfl, Nat.le_of_ble_eq_true rfl⟩) rfl rfl (Nat.le_of_ble_eq_true rfl) ⟨rfl, rfl⟩ ⟨Nat.zero_le _, Nat.zero_le _⟩ dX6_is_44 (fun r44 h => ?_)
    refine aw_if_eq (tgt := 54) C dX6_is_47 (by decide) (fun c47 => ?_) (fun c47 => ?_)
    · have h := h.1 c47
      refine aw_iconst (v := 0) C dX6_is_54 (by decide) ?_
      refine aw_lv [] rfl ?_
      exact hQ 0 s2 h 55 dX6_is_55
    have h := h.2 c47
    refine aw_iconst (v := 1) C dX6_is_50 (by decide) ?_
    refine aw_goto (tgt := 55) C dX6_is_51 (by decide) ?_
    refine aw_lv [] rfl ?_
    exact hQ 1 s2 h 55 dX6_is_55
  have h := h.1 c21
  refine aw_ldc (v := (-1000001)) C dX6_is_24 qX6_is_constant_RX6_101_1000001 ?_
  refine aw_goto (tgt := 55) C dX6_is_26 (by decide) ?_
  refine aw_lv [] rfl ?_
  exact hQ (-1000001) s2 h 55 dX6_is_55
end SX6_is
theorem mtX6_is (l : Launch) (D : va_G) (cy : Nat → ClassId) (o : Nat) (ad : Nat → Nat) (s : St) (x1 : Int32) (x2 : Int32) (Q : Int32 → St → Prop) (hw : pX6_is  s x1 x2 Q) : mI l yX6_is wsX6_is rmX6_is D cy [.ref o, .int x1, .int x2] (wX6 cy o ad s) (wX6 cy o ad) Q :=
  metI (Wd := wX6 cy o ad) ⟨rfl, rfl⟩ (by decide) rfl (Nat.le_of_ble_eq_true rfl) (fun C K hQ => eX6_is C K hQ s x1 x2 hw)
def rmX6_as : Room := { frames := 2, cells := 0, slots := 0, locals := 45 }
theorem inX6_as_6 : ∀ w ∈ wsX60, w ∈ wsX6_as := fun w h => (List.mem_cons_of_mem _ (List.mem_append_right _ h))
theorem qX6_as_fieldLink_RX6_81 : Cond.fieldLink RX6 81 "StageSwitchModel" "thrown" "I" ∈ wsX6_as := (List.mem_cons_of_mem _ (List.mem_append_left _ (List.mem_append_left _ (List.mem_of_getElem? (i := 0) rfl))))
theorem qX6_as_constant_RX6_101_1000001 : Cond.constant RX6 101 (-1000001) ∈ wsX6_as := (List.mem_cons_of_mem _ (List.mem_append_left _ (List.mem_append_left _ (List.mem_of_getElem? (i := 2) rfl))))
theorem qX6_as_constantLong_RX6_125_3 : Cond.constantLong RX6 125 (3) ∈ wsX6_as := (List.mem_cons_of_mem _ (List.mem_append_left _ (List.mem_append_left _ (List.mem_of_getElem? (i := 1) rfl))))
section SX6_as
variable {p : Program} {l : Launch} {e : Env} {s0 : State} {m : MethodId} {args : Array Value} {below : List Frame} {meth : Method} {c : Code} {D : va_G} {A : Nat → Prop} {H0 : Heap} {cy : Nat → ClassId} {Z : State → Prop}
theorem eX6_as (C : ctB p s0 m args c cX6_as 4 RX6 wsX6_as) (K : ctK s0 D A H0 cy) {o : Nat} {ad : Nat → Nat} {Q : Int32 → St → Prop} (hQ : ∀ (v : Int32) (u : St), Q v u → ∀ pc, decode cX6_as pc = .ok (.ireturn, 1) → atG p l e rmX6_as s0 m args below meth c 0 0 Z 4 (iW D A H0 (wX6 cy o ad u)) [] [.int v] pc) (s : St) (x1 : Int32) (x2 : Int32) (h : pX6_as  s x1 x2 Q) : atG p l e rmX6_as s0 m args below meth c 0 0 Z 4 (iW D A H0 (wX6 cy o ad s)) [(0, .ref o), (1, .int x1), (2, .int x2)] [] 0 := by
  delta pX6_as at h
  refine aw_aload_n C dX6_as_0 0 rfl ?_
  refine aw_iconst (v := 0) C dX6_as_1 (by decide) ?_
  refine aw_putX6 (ty := .int) C K inX6_as_6 dX6_as_2 0 (by decide) qX6_as_fieldLink_RX6_81 0 (wX6_g ..) rfl (by decide +kernel) rfl rfl (Nat.le_of_ble_eq_true rfl) (wX6_p0 ..) ?_
  obtain ⟨s2, es2⟩ : ∃ z, z = (uF s 0 0) := ⟨_, rfl⟩
  rw [← es2]
  have h := h s2 es2
  refine aw_iload_n C dX6_as_5 1 rfl ?_
  refine aw_callS (As := [.int x1]) (rest := []) C (mtX6_isPlace l x1 _ h) (va_cwS 1 C.2.2.2.2.1 gX6_as_X6_isPlace rfl rfl rfl (by decide +kernel) ⟨Nat.le_of_ble_eq_true rfl, Nat.le_of_ble_eq_true rfl⟩) rfl rfl (Nat.le_of_ble_eq_true rfl) ⟨rfl, rfl⟩ ⟨Nat.zero_le _, Nat.zero_le _⟩ dX6_as_6 (fun r6 h => ?_)
  refine aw_if_eq (tgt := 24) C dX6_as_9 (by decide) (fun c9 => ?_) (fun c9 => ?_)
  · have h := h.1 c9
    refine aw_ldc (v := (-1000001)) C dX6_as_24 qX6_as_constant_RX6_101_1000001 ?_
    refine aw_lv [] rfl ?_
    exact hQ (-1000001) s2 h 26 dX6_as_26
  have h := h.2 c9
  refine aw_iload_n C dX6_as_12 2 rfl ?_
  refine aw_i2l C dX6_as_13 ?_
  refine aw_lconst (v := 0) C dX6_as_14 (by decide) ?_
  refine aw_ldc2 (v := 3) C dX6_as_15 qX6_as_constantLong_RX6_125_3 ?_
  refine aw_callS (As := [.long x2.toInt64, .long 0, .long 3]) (rest := []) C (mtX6_in l x2.toInt64 0 3 _ h) (va_cwS 3 C.2.2.2.2.1 gX6_as_X6_in rfl rfl rfl (by decide +kernel) ⟨Nat.le_of_ble_eq_true rfl, Nat.le_of_ble_eq_true rfl⟩) rfl rfl (Nat.le_of_ble_eq_true rfl) ⟨rfl, rfl⟩ ⟨Nat.zero_le _, Nat.zero_le _⟩ dX6_as_18 (fun r18 h => ?_)
  refine aw_if_ne (tgt := 27) C dX6_as_21 (by decide) (fun c21 => ?_) (fun c21 => ?_)
  · have h := h.2 c21
    refine aw_aload_n C dX6_as_27 0 rfl ?_
    refine aw_iload_n C dX6_as_28 1 rfl ?_
    refine aw_callI (As := [.int x1]) (rest := []) C K (mtX6_look l D cy o ad s2 x1 _ h) (cwV 1 C.2.2.2.2.1 gX6_as_X6_look rfl rfl rfl (by decide +kernel) ⟨Nat.le_of_ble_eq_true rfl, Nat.le_of_ble_eq_true rfl⟩) 0 6 (wX6_g ..) rfl rfl rfl rfl (Nat.le_of_ble_eq_true rfl) ⟨Nat.le_of_ble_eq_true rfl, Nat.le_of_ble_eq_true rfl⟩ dX6_as_29 (fun r29 s29 h => ?_)
    refine aw_istore_n (lv' := [(3, .int r29), (0, .ref o), (1, .int x1), (2, .int x2)]) C dX6_as_32 (by decide) rfl ?_
    refine aw_iload_n C dX6_as_33 0 rfl ?_
    refine aw_if_ge (tgt := 41) C dX6_as_34 (by decide) (fun c34 => ?_) (fun c34 => ?_)
    · have h := h.1 c34
      refine aw_aload_n C dX6_as_41 1 rfl ?_
      refine aw_iload_n C dX6_as_42 2 rfl ?_
      refine aw_callI (As := [.int x1]) (rest := []) C K (mtX6_kindOf l D cy o ad s29 x1 _ h) (cwV 1 C.2.2.2.2.1 gX6_as_X6_kindOf rfl rfl rfl (by decide +kernel) ⟨Nat.le_of_ble_eq_true rfl, Nat.le_of_ble_eq_true rfl⟩) 0 6 (wX6_g ..) rfl rfl rfl rfl (Nat.le_of_ble_eq_true rfl) ⟨Nat.le_of_ble_eq_true rfl, Nat.le_of_ble_eq_true rfl⟩ dX6_as_43 (fun r43 s43 h => ?_)
      obtain ⟨h, hu43⟩ := h
      rw [hu43]
      refine aw_iload_n C dX6_as_46 3 rfl ?_
      refine aw_callS (As := [.int r43, .int x2]) (rest := []) C (mtX6_isOf l r43 x2 _ h) (va_cwS 2 C.2.2.2.2.1 gX6_as_X6_isOf rfl rfl rfl (by decide +kernel) ⟨Nat.le_of_ble_eq_true rfl, Nat.le_of_ble_eq_true rfl⟩) rfl rfl (Nat.le_of_ble_eq_true rfl) ⟨rfl, rfl⟩ ⟨Nat.zero_le _, Nat.zero_le _⟩ dX6_as_47 (fun r47 h => ?_)
      refine aw_if_eq (tgt := 61) C dX6_as_50 (by decide) (fun c50 => ?_) (fun c50 => ?_)
      · have h := h.1 c50
        refine aw_aload_n C dX6_as_61 1 rfl ?_
        refine aw_iconst (v := 3) C dX6_as_62 (by decide) ?_
        refine aw_callI (As := [.int 3]) (rest := []) C K (mtX6_found l D cy o ad s29 3 _ h) (cwV 1 C.2.2.2.2.1 gX6_as_X6_found rfl rfl rfl (by decide +kernel) ⟨Nat.le_of_ble_eq_true rfl, Nat.le_of_ble_eq_true rfl⟩) 0 6 (wX6_g ..) rfl rfl rfl rfl (Nat.le_of_ble_eq_true rfl) ⟨Nat.le_of_ble_eq_true rfl, Nat.le_of_ble_eq_true rfl⟩ dX6_as_63 (fun r63 s63 h => ?_)
        refine aw_lv [] rfl ?_
        exact hQ r63 s63 h 66 dX6_as_66
      have h := h.2 c50
      refine aw_aload_n C dX6_as_53 1 rfl ?_
      refine aw_iload_n C dX6_as_54 2 rfl ?_
      refine aw_callI (As := [.int x1]) (rest := []) C K (mtX6_alive l D cy o ad s29 x1 _ h) (cwV 1 C.2.2.2.2.1 gX6_as_X6_alive rfl rfl rfl (by decide +kernel) ⟨Nat.le_of_ble_eq_true rfl, Nat.le_of_ble_eq_true rfl⟩) 0 6 (wX6_g ..) rfl rfl rfl rfl (Nat.le_of_ble_eq_true rfl) ⟨Nat.le_of_ble_eq_true rfl, Nat.le_of_ble_eq_true rfl⟩ dX6_as_55 (fun r55 s55 h => ?_)
      obtain ⟨h, hu55⟩ := h
      rw [hu55]
      refine aw_goto (tgt := 66) C dX6_as_58 (by decide) ?_
      refine aw_lv [] rfl ?_
      exact hQ r55 s29 h 66 dX6_as_66
    have h := h.2 c34
    refine aw_iload_n C dX6_as_37 0 rfl ?_
    refine aw_goto (tgt := 66) C dX6_as_38 (by decide) ?_
    refine aw_lv [] rfl ?_
    exact hQ r29 s29 h 66 dX6_as_66
  have h := h.1 c21
  refine aw_ldc (v := (-1000001)) C dX6_as_24 qX6_as_constant_RX6_101_1000001 ?_
  refine aw_lv [] rfl ?_
  exact hQ (-1000001) s2 h 26 dX6_as_26
end SX6_as
theorem mtX6_as (l : Launch) (D : va_G) (cy : Nat → ClassId) (o : Nat) (ad : Nat → Nat) (s : St) (x1 : Int32) (x2 : Int32) (Q : Int32 → St → Prop) (hw : pX6_as  s x1 x2 Q) : mI l yX6_as wsX6_as rmX6_as D cy [.ref o, .int x1, .int x2] (wX6 cy o ad s) (wX6 cy o ad) Q :=
  metI (Wd := wX6 cy o ad) ⟨rfl, rfl⟩ (by decide) rfl (Nat.le_of_ble_eq_true rfl) (fun C K hQ => eX6_as C K hQ s x1 x2 hw)
def rmX6_calls : Room := { frames := 0, cells := 0, slots := 0, locals := 0 }
theorem inX6_calls_6 : ∀ w ∈ wsX60, w ∈ wsX6_calls := fun w h => (List.mem_cons_of_mem _ (List.mem_append_right _ h))
theorem qX6_calls_fieldLink_RX6_19 : Cond.fieldLink RX6 19 "StageSwitchModel" "middles" "[I" ∈ wsX6_calls := (List.mem_cons_of_mem _ (List.mem_append_left _ (List.mem_of_getElem? (i := 0) rfl)))
theorem qX6_calls_fieldLink_RX6_32 : Cond.fieldLink RX6 32 "StageSwitchModel" "out" "[I" ∈ wsX6_calls := (List.mem_cons_of_mem _ (List.mem_append_left _ (List.mem_of_getElem? (i := 1) rfl)))
theorem qX6_calls_constant_RX6_118_1000000 : Cond.constant RX6 118 (-1000000) ∈ wsX6_calls := (List.mem_cons_of_mem _ (List.mem_append_left _ (List.mem_of_getElem? (i := 2) rfl)))
section SX6_calls
variable {p : Program} {l : Launch} {e : Env} {s0 : State} {m : MethodId} {args : Array Value} {below : List Frame} {meth : Method} {c : Code} {D : va_G} {A : Nat → Prop} {H0 : Heap} {cy : Nat → ClassId} {Z : State → Prop}
theorem tbX6_calls_4 (C : ctB p s0 m args c cX6_calls 4 RX6 wsX6_calls) (K : ctK s0 D A H0 cy) {o : Nat} {ad : Nat → Nat}  {s : St} {x1 : Int32} {k49 : Int32 → Prop} (hk49 : ∀ (y2 : Int32), k49 y2 → atG p l e rmX6_calls s0 m args below meth c 0 0 Z 4 (iW D A H0 (wX6 cy o ad s)) [(0, .ref o), (2, .int y2)] [] 49) {kH : Int32 → Int32 → Prop} (hkH : ∀ (y2 : Int32) (y3 : Int32), kH y2 y3 → atG p l e rmX6_calls s0 m args below meth c 0 0 Z 4 (iW D A H0 (wX6 cy o ad s)) [(0, .ref o), (1, .int x1), (2, .int y2), (3, .int y3)] [] 4) (x2 : Int32) (x3 : Int32) (h : bX6_calls_4 s x1 k49 kH x2 x3) : atG p l e rmX6_calls s0 m args below meth c 0 0 Z 4 (iW D A H0 (wX6 cy o ad s)) [(0, .ref o), (1, .int x1), (2, .int x2), (3, .int x3)] [] 4 := by
  delta bX6_calls_4 at h
  refine aw_iload_n C dX6_calls_4 3 rfl ?_
  refine aw_bipush (v := 36) C dX6_calls_5 (by decide) ?_
  refine aw_icmp_ge (tgt := 49) C dX6_calls_7 (by decide) (fun c7 => ?_) (fun c7 => ?_)
  · have h := h.1 c7
    refine aw_lv [0, 2] rfl ?_
    exact hk49 x2 h
  have h := h.2 c7
  refine aw_aload_n C dX6_calls_10 0 rfl ?_
  refine aw_getX6 C K inX6_calls_6 dX6_calls_11 5 (by decide) qX6_calls_fieldLink_RX6_19 0 (wX6_g ..) rfl ?_
  refine aw_iload_n C dX6_calls_14 1 rfl ?_
  obtain ⟨b15, h⟩ := h
  refine aw_iald C K dX6_calls_15 4 (wX6_g5 ..) b15 ?_
  refine aw_if_le (tgt := 49) C dX6_calls_16 (by decide) (fun c16 => ?_) (fun c16 => ?_)
  · have h := h.1 c16
    refine aw_lv [0, 2] rfl ?_
    exact hk49 x2 h
  have h := h.2 c16
  refine aw_iload_n C dX6_calls_19 2 rfl ?_
  refine aw_aload_n C dX6_calls_20 0 rfl ?_
  refine aw_getX6 C K inX6_calls_6 dX6_calls_21 9 (by decide) qX6_calls_fieldLink_RX6_32 0 (wX6_g ..) rfl ?_
  refine aw_bipush (v := 36) C dX6_calls_24 (by decide) ?_
  refine aw_iload_n C dX6_calls_26 1 rfl ?_
  refine aw_imul C dX6_calls_27 ?_
  refine aw_iload_n C dX6_calls_28 3 rfl ?_
  refine aw_iadd C dX6_calls_29 ?_
  obtain ⟨b30, h⟩ := h
  refine aw_iald C K dX6_calls_30 8 (wX6_g9 ..) b30 ?_
  refine aw_ldc (v := (-1000000)) C dX6_calls_31 qX6_calls_constant_RX6_118_1000000 ?_
  refine aw_icmp_eq (tgt := 40) C dX6_calls_33 (by decide) (fun c33 => ?_) (fun c33 => ?_)
  · have h := h.1 c33
    refine aw_iconst (v := 0) C dX6_calls_40 (by decide) ?_
    refine aw_iadd C dX6_calls_41 ?_
    refine aw_name (fun x2_42 ex2_42 => ?_)
    have h := h x2_42 ex2_42
    refine aw_istore_n (lv' := [(2, .int x2_42), (0, .ref o), (1, .int x1), (3, .int x3)]) C dX6_calls_42 (by decide) rfl ?_
    obtain ⟨x3_43, ex3_43⟩ : ∃ y : Int32, y = x3 + 1 := ⟨_, rfl⟩
    have h := h x3_43 ex3_43
    refine aw_iinc (v := x3_43) (lv' := [(3, .int x3_43), (2, .int x2_42), (0, .ref o), (1, .int x1)]) C dX6_calls_43 3 rfl (by rw [ex3_43]; rfl) (by decide) rfl ?_
    refine aw_goto (tgt := 4) C dX6_calls_46 (by decide) ?_
    refine aw_lv [2, 3, 1, 0] rfl ?_
    exact hkH x2_42 x3_43 h
  have h := h.2 c33
  refine aw_iconst (v := 1) C dX6_calls_36 (by decide) ?_
  refine aw_goto (tgt := 41) C dX6_calls_37 (by decide) ?_
  refine aw_iadd C dX6_calls_41 ?_
  refine aw_name (fun x2_42 ex2_42 => ?_)
  have h := h x2_42 ex2_42
  refine aw_istore_n (lv' := [(2, .int x2_42), (0, .ref o), (1, .int x1), (3, .int x3)]) C dX6_calls_42 (by decide) rfl ?_
  obtain ⟨x3_43, ex3_43⟩ : ∃ y : Int32, y = x3 + 1 := ⟨_, rfl⟩
  have h := h x3_43 ex3_43
  refine aw_iinc (v := x3_43) (lv' := [(3, .int x3_43), (2, .int x2_42), (0, .ref o), (1, .int x1)]) C dX6_calls_43 3 rfl (by rw [ex3_43]; rfl) (by decide) rfl ?_
  refine aw_goto (tgt := 4) C dX6_calls_46 (by decide) ?_
  refine aw_lv [2, 3, 1, 0] rfl ?_
  exact hkH x2_42 x3_43 h
theorem tlX6_calls_4 (C : ctB p s0 m args c cX6_calls 4 RX6 wsX6_calls) (K : ctK s0 D A H0 cy) {o : Nat} {ad : Nat → Nat}  {s : St} {x1 : Int32} {k49 : Int32 → Prop} (hk49 : ∀ (y2 : Int32), k49 y2 → atG p l e rmX6_calls s0 m args below meth c 0 0 Z 4 (iW D A H0 (wX6 cy o ad s)) [(0, .ref o), (2, .int y2)] [] 49) (x2 : Int32) (x3 : Int32) (h : lX6_calls_4 s x1 k49 x2 x3) : atG p l e rmX6_calls s0 m args below meth c 0 0 Z 4 (iW D A H0 (wX6 cy o ad s)) [(0, .ref o), (1, .int x1), (2, .int x2), (3, .int x3)] [] 4 :=
  lp_W (σ := Int32 × Int32) (P := fun q => atG p l e rmX6_calls s0 m args below meth c 0 0 Z 4 (iW D A H0 (wX6 cy o ad s)) [(0, .ref o), (1, .int x1), (2, .int q.1), (3, .int q.2)] [] 4) (fun K2 hK2 q hb => tbX6_calls_4 C K hk49 (fun x2 x3 hk => hK2 (x2, x3) hk) q.1 q.2 hb) (x2, x3) h
theorem eX6_calls (C : ctB p s0 m args c cX6_calls 4 RX6 wsX6_calls) (K : ctK s0 D A H0 cy) {o : Nat} {ad : Nat → Nat} {Q : Int32 → Prop} (s : St) (hQ : ∀ (v : Int32), Q v → ∀ pc, decode cX6_calls pc = .ok (.ireturn, 1) → atG p l e rmX6_calls s0 m args below meth c 0 0 Z 4 (iW D A H0 (wX6 cy o ad s)) [] [.int v] pc) (x1 : Int32) (h : pX6_calls  s x1 Q) : atG p l e rmX6_calls s0 m args below meth c 0 0 Z 4 (iW D A H0 (wX6 cy o ad s)) [(0, .ref o), (1, .int x1)] [] 0 := by
  delta pX6_calls at h
  refine aw_iconst (v := 0) C dX6_calls_0 (by decide) ?_
  refine aw_istore_n (lv' := [(2, .int 0), (0, .ref o), (1, .int x1)]) C dX6_calls_1 (by decide) rfl ?_
  refine aw_iconst (v := 0) C dX6_calls_2 (by decide) ?_
  refine aw_istore_n (lv' := [(3, .int 0), (2, .int 0), (0, .ref o), (1, .int x1)]) C dX6_calls_3 (by decide) rfl ?_
  refine aw_lv [2, 3, 1, 0] rfl ?_
  refine tlX6_calls_4 C K ?_ 0 0 h
  intro z49_2 h
  refine aw_iload_n C dX6_calls_49 1 rfl ?_
  refine aw_lv [] rfl ?_
  exact hQ z49_2 h 50 dX6_calls_50
end SX6_calls
theorem mtX6_calls (l : Launch) (D : va_G) (cy : Nat → ClassId) (o : Nat) (ad : Nat → Nat) (s : St) (x1 : Int32) (Q : Int32 → Prop) (hw : pX6_calls  s x1 Q) : mI l yX6_calls wsX6_calls rmX6_calls D cy [.ref o, .int x1] (wX6 cy o ad s) (wX6 cy o ad) (fun r u => Q r ∧ u = s) :=
  metI (Wd := wX6 cy o ad) ⟨rfl, rfl⟩ (by decide) rfl (Nat.le_of_ble_eq_true rfl) (fun C K hQ => eX6_calls C K s (fun v hq => hQ v s ⟨hq, rfl⟩) x1 hw)
def rmX6_began : Room := { frames := 0, cells := 0, slots := 0, locals := 0 }
theorem inX6_began_6 : ∀ w ∈ wsX60, w ∈ wsX6_began := fun w h => (List.mem_cons_of_mem _ (List.mem_append_right _ h))
theorem qX6_began_fieldLink_RX6_131 : Cond.fieldLink RX6 131 "StageSwitchModel" "traced" "I" ∈ wsX6_began := (List.mem_cons_of_mem _ (List.mem_append_left _ (List.mem_of_getElem? (i := 0) rfl)))
theorem qX6_began_fieldLink_RX6_38 : Cond.fieldLink RX6 38 "StageSwitchModel" "trace" "[I" ∈ wsX6_began := (List.mem_cons_of_mem _ (List.mem_append_left _ (List.mem_of_getElem? (i := 1) rfl)))
section SX6_began
variable {p : Program} {l : Launch} {e : Env} {s0 : State} {m : MethodId} {args : Array Value} {below : List Frame} {meth : Method} {c : Code} {D : va_G} {A : Nat → Prop} {H0 : Heap} {cy : Nat → ClassId} {Z : State → Prop}
theorem eX6_began (C : ctB p s0 m args c cX6_began 2 RX6 wsX6_began) (K : ctK s0 D A H0 cy) {o : Nat} {ad : Nat → Nat} {Q : St → Prop} (hQ : ∀ (u : St), Q u → ∀ pc, decode cX6_began pc = .ok (.return_, 1) → atG p l e rmX6_began s0 m args below meth c 0 0 Z 2 (iW D A H0 (wX6 cy o ad u)) [] [] pc) (s : St) (x1 : Int32) (h : pX6_began  s x1 Q) : atG p l e rmX6_began s0 m args below meth c 0 0 Z 2 (iW D A H0 (wX6 cy o ad s)) [(0, .ref o), (1, .int x1)] [] 0 := by
  delta pX6_began at h
  refine aw_aload_n C dX6_began_0 0 rfl ?_
  refine aw_getX6 C K inX6_began_6 dX6_began_1 12 (by decide) qX6_began_fieldLink_RX6_131 0 (wX6_g ..) rfl ?_
  refine aw_bipush (v := 16) C dX6_began_4 (by decide) ?_
  refine aw_icmp_ge (tgt := 29) C dX6_began_6 (by decide) (fun c6 => ?_) (fun c6 => ?_)
  · have h := h.1 c6
    refine aw_lv [] rfl ?_
    exact hQ s h 29 dX6_began_29
  have h := h.2 c6
  refine aw_aload_n C dX6_began_9 0 rfl ?_
  refine aw_getX6 C K inX6_began_6 dX6_began_10 11 (by decide) qX6_began_fieldLink_RX6_38 0 (wX6_g ..) rfl ?_
  refine aw_aload_n C dX6_began_13 0 rfl ?_
  refine aw_getX6 C K inX6_began_6 dX6_began_14 12 (by decide) qX6_began_fieldLink_RX6_131 0 (wX6_g ..) rfl ?_
  refine aw_iload_n C dX6_began_17 1 rfl ?_
  obtain ⟨b18, h⟩ := h
  refine aw_iast C K dX6_began_18 10 (wX6_g11 ..) (wX6_s11 ..) b18 ?_
  obtain ⟨s18, es18⟩ : ∃ z, z = (uA s 11 (upd (sA s 11) (sF s 12).toNatClampNeg x1)) := ⟨_, rfl⟩
  rw [← es18]
  have h := h s18 es18
  refine aw_aload_n C dX6_began_19 0 rfl ?_
  refine aw_dup C dX6_began_20 rfl ?_
  refine aw_getX6 C K inX6_began_6 dX6_began_21 12 (by decide) qX6_began_fieldLink_RX6_131 0 (wX6_g ..) rfl ?_
  refine aw_iconst (v := 1) C dX6_began_24 (by decide) ?_
  refine aw_iadd C dX6_began_25 ?_
  refine aw_putX6 (ty := .int) C K inX6_began_6 dX6_began_26 12 (by decide) qX6_began_fieldLink_RX6_131 0 (wX6_g ..) rfl (by decide +kernel) rfl rfl (Nat.le_of_ble_eq_true rfl) (wX6_p12 ..) ?_
  obtain ⟨s26, es26⟩ : ∃ z, z = (uF s18 12 ((sF s18 12) + 1)) := ⟨_, rfl⟩
  rw [← es26]
  have h := h s26 es26
  refine aw_lv [] rfl ?_
  exact hQ s26 h 29 dX6_began_29
end SX6_began
theorem mtX6_began (l : Launch) (D : va_G) (cy : Nat → ClassId) (o : Nat) (ad : Nat → Nat) (s : St) (x1 : Int32) (Q : St → Prop) (hw : pX6_began  s x1 Q) : mV l yX6_began wsX6_began rmX6_began D cy [.ref o, .int x1] (wX6 cy o ad s) (wX6 cy o ad) Q :=
  metV (Wd := wX6 cy o ad) ⟨rfl, rfl⟩ (by decide) rfl (Nat.le_of_ble_eq_true rfl) (fun C K hQ => eX6_began C K hQ s x1 hw)
def rmX6_bareSize : Room := { frames := 1, cells := 0, slots := 0, locals := 21 }
theorem inX6_bareSize_6 : ∀ w ∈ wsX60, w ∈ wsX6_bareSize := fun w h => (List.mem_cons_of_mem _ (List.mem_append_right _ h))
theorem qX6_bareSize_fieldLink_RX6_25 : Cond.fieldLink RX6 25 "StageSwitchModel" "outer" "[I" ∈ wsX6_bareSize := (List.mem_cons_of_mem _ (List.mem_append_left _ (List.mem_of_getElem? (i := 0) rfl)))
theorem qX6_bareSize_fieldLink_RX6_22 : Cond.fieldLink RX6 22 "StageSwitchModel" "lines" "[I" ∈ wsX6_bareSize := (List.mem_cons_of_mem _ (List.mem_append_left _ (List.mem_of_getElem? (i := 1) rfl)))
section SX6_bareSize
variable {p : Program} {l : Launch} {e : Env} {s0 : State} {m : MethodId} {args : Array Value} {below : List Frame} {meth : Method} {c : Code} {D : va_G} {A : Nat → Prop} {H0 : Heap} {cy : Nat → ClassId} {Z : State → Prop}
theorem eX6_bareSize (C : ctB p s0 m args c cX6_bareSize 2 RX6 wsX6_bareSize) (K : ctK s0 D A H0 cy) {o : Nat} {ad : Nat → Nat} {Q : Int32 → St → Prop} (hQ : ∀ (v : Int32) (u : St), Q v u → ∀ pc, decode cX6_bareSize pc = .ok (.ireturn, 1) → atG p l e rmX6_bareSize s0 m args below meth c 0 0 Z 2 (iW D A H0 (wX6 cy o ad u)) [] [.int v] pc) (s : St) (x1 : Int32) (h : pX6_bareSize  s x1 Q) : atG p l e rmX6_bareSize s0 m args below meth c 0 0 Z 2 (iW D A H0 (wX6 cy o ad s)) [(0, .ref o), (1, .int x1)] [] 0 := by
  delta pX6_bareSize at h
  refine aw_aload_n C dX6_bareSize_0 0 rfl ?_
  refine aw_bipush (v := 13) C dX6_bareSize_1 (by decide) ?_
  refine aw_callV (As := [.int 13]) (rest := []) C K (mtX6_began l D cy o ad s 13 _ h) (cwV 1 C.2.2.2.2.1 gX6_bareSize_X6_began rfl rfl rfl (by decide +kernel) ⟨Nat.le_of_ble_eq_true rfl, Nat.le_of_ble_eq_true rfl⟩) 0 6 (wX6_g ..) rfl rfl rfl rfl (Nat.le_of_ble_eq_true rfl) ⟨Nat.le_of_ble_eq_true rfl, Nat.le_of_ble_eq_true rfl⟩ dX6_bareSize_3 (fun s3 h => ?_)
  refine aw_aload_n C dX6_bareSize_6 0 rfl ?_
  refine aw_bipush (v := 10) C dX6_bareSize_7 (by decide) ?_
  refine aw_callV (As := [.int 10]) (rest := []) C K (mtX6_began l D cy o ad s3 10 _ h) (cwV 1 C.2.2.2.2.1 gX6_bareSize_X6_began rfl rfl rfl (by decide +kernel) ⟨Nat.le_of_ble_eq_true rfl, Nat.le_of_ble_eq_true rfl⟩) 0 6 (wX6_g ..) rfl rfl rfl rfl (Nat.le_of_ble_eq_true rfl) ⟨Nat.le_of_ble_eq_true rfl, Nat.le_of_ble_eq_true rfl⟩ dX6_bareSize_9 (fun s9 h => ?_)
  refine aw_aload_n C dX6_bareSize_12 0 rfl ?_
  refine aw_getX6 C K inX6_bareSize_6 dX6_bareSize_13 7 (by decide) qX6_bareSize_fieldLink_RX6_25 0 (wX6_g ..) rfl ?_
  refine aw_iload_n C dX6_bareSize_16 1 rfl ?_
  obtain ⟨b17, h⟩ := h
  refine aw_iald C K dX6_bareSize_17 6 (wX6_g7 ..) b17 ?_
  refine aw_aload_n C dX6_bareSize_18 0 rfl ?_
  refine aw_getX6 C K inX6_bareSize_6 dX6_bareSize_19 6 (by decide) qX6_bareSize_fieldLink_RX6_22 0 (wX6_g ..) rfl ?_
  refine aw_iload_n C dX6_bareSize_22 1 rfl ?_
  obtain ⟨b23, h⟩ := h
  refine aw_iald C K dX6_bareSize_23 5 (wX6_g6 ..) b23 ?_
  refine aw_imul C dX6_bareSize_24 ?_
  refine aw_iconst (v := 2) C dX6_bareSize_25 (by decide) ?_
  refine aw_idiv C dX6_bareSize_26 (by decide) ?_
  refine aw_lv [] rfl ?_
  exact hQ (((sA s9 7 x1.toNatClampNeg) * (sA s9 6 x1.toNatClampNeg)) / 2) s9 h 27 dX6_bareSize_27
end SX6_bareSize
theorem mtX6_bareSize (l : Launch) (D : va_G) (cy : Nat → ClassId) (o : Nat) (ad : Nat → Nat) (s : St) (x1 : Int32) (Q : Int32 → St → Prop) (hw : pX6_bareSize  s x1 Q) : mI l yX6_bareSize wsX6_bareSize rmX6_bareSize D cy [.ref o, .int x1] (wX6 cy o ad s) (wX6 cy o ad) Q :=
  metI (Wd := wX6 cy o ad) ⟨rfl, rfl⟩ (by decide) rfl (Nat.le_of_ble_eq_true rfl) (fun C K hQ => eX6_bareSize C K hQ s x1 hw)
def rmX6_marked : Room := { frames := 2, cells := 0, slots := 0, locals := 45 }
theorem inX6_marked_6 : ∀ w ∈ wsX60, w ∈ wsX6_marked := fun w h => (List.mem_cons_of_mem _ (List.mem_append_right _ h))
section SX6_marked
variable {p : Program} {l : Launch} {e : Env} {s0 : State} {m : MethodId} {args : Array Value} {below : List Frame} {meth : Method} {c : Code} {D : va_G} {A : Nat → Prop} {H0 : Heap} {cy : Nat → ClassId} {Z : State → Prop}
theorem tjX6_marked_17 (C : ctB p s0 m args c cX6_marked 4 RX6 wsX6_marked) (K : ctK s0 D A H0 cy) {o : Nat} {ad : Nat → Nat}  {Q : Int32 → St → Prop} (hQ : ∀ (v : Int32) (u : St), Q v u → ∀ pc, decode cX6_marked pc = .ok (.ireturn, 1) → atG p l e rmX6_marked s0 m args below meth c 0 0 Z 4 (iW D A H0 (wX6 cy o ad u)) [] [.int v] pc) (s : St) (x1 : Int32) (x2 : Int32)  (h : jX6_marked_17 Q s x1 x2) : atG p l e rmX6_marked s0 m args below meth c 0 0 Z 4 (iW D A H0 (wX6 cy o ad s)) [(0, .ref o), (1, .int x1), (2, .int x2)] [] 17 := by
  delta jX6_marked_17 at h
  refine aw_iload_n C dX6_marked_17 2 rfl ?_
  refine aw_iconst (v := 1) C dX6_marked_18 (by decide) ?_
  refine aw_callS (As := [.int x2, .int 1]) (rest := []) C (mtX6_isOf l x2 1 _ h) (va_cwS 2 C.2.2.2.2.1 gX6_marked_X6_isOf rfl rfl rfl (by decide +kernel) ⟨Nat.le_of_ble_eq_true rfl, Nat.le_of_ble_eq_true rfl⟩) rfl rfl (Nat.le_of_ble_eq_true rfl) ⟨rfl, rfl⟩ ⟨Nat.zero_le _, Nat.zero_le _⟩ dX6_marked_19 (fun r19 h => ?_)
  refine aw_if_eq (tgt := 31) C dX6_marked_22 (by decide) (fun c22 => ?_) (fun c22 => ?_)
  · have h := h.1 c22
    refine aw_aload_n C dX6_marked_31 0 rfl ?_
    refine aw_bipush (v := 20) C dX6_marked_32 (by decide) ?_
    refine aw_callV (As := [.int 20]) (rest := []) C K (mtX6_began l D cy o ad s 20 _ h) (cwV 1 C.2.2.2.2.1 gX6_marked_X6_began rfl rfl rfl (by decide +kernel) ⟨Nat.le_of_ble_eq_true rfl, Nat.le_of_ble_eq_true rfl⟩) 0 6 (wX6_g ..) rfl rfl rfl rfl (Nat.le_of_ble_eq_true rfl) ⟨Nat.le_of_ble_eq_true rfl, Nat.le_of_ble_eq_true rfl⟩ dX6_marked_34 (fun s34 h => ?_)
    refine aw_aload_n C dX6_marked_37 0 rfl ?_
    refine aw_iload_n C dX6_marked_38 1 rfl ?_
    refine aw_callI (As := [.int x1]) (rest := []) C K (mtX6_calls l D cy o ad s34 x1 _ h) (cwV 1 C.2.2.2.2.1 gX6_marked_X6_calls rfl rfl rfl (by decide +kernel) ⟨Nat.le_of_ble_eq_true rfl, Nat.le_of_ble_eq_true rfl⟩) 0 6 (wX6_g ..) rfl rfl rfl rfl (Nat.le_of_ble_eq_true rfl) ⟨Nat.le_of_ble_eq_true rfl, Nat.le_of_ble_eq_true rfl⟩ dX6_marked_39 (fun r39 s39 h => ?_)
    obtain ⟨h, hu39⟩ := h
    rw [hu39]
    refine aw_iload_n C dX6_marked_42 2 rfl ?_
    refine aw_iconst (v := 1) C dX6_marked_43 (by decide) ?_
    refine aw_callS (As := [.int x2, .int 1]) (rest := [.int r39]) C (mtX6_isOf l x2 1 _ h) (va_cwS 2 C.2.2.2.2.1 gX6_marked_X6_isOf rfl rfl rfl (by decide +kernel) ⟨Nat.le_of_ble_eq_true rfl, Nat.le_of_ble_eq_true rfl⟩) rfl rfl (Nat.le_of_ble_eq_true rfl) ⟨rfl, rfl⟩ ⟨Nat.zero_le _, Nat.zero_le _⟩ dX6_marked_44 (fun r44 h => ?_)
    refine aw_if_eq (tgt := 55) C dX6_marked_47 (by decide) (fun c47 => ?_) (fun c47 => ?_)
    · have h := h.1 c47
      refine aw_iconst (v := 0) C dX6_marked_55 (by decide) ?_
      refine aw_iadd C dX6_marked_56 ?_
      refine aw_name (fun x3_57 ex3_57 => ?_)
      have h := h x3_57 ex3_57
      refine aw_istore_n (lv' := [(3, .int x3_57), (0, .ref o), (1, .int x1), (2, .int x2)]) C dX6_marked_57 (by decide) rfl ?_
      refine aw_iload_n C dX6_marked_58 3 rfl ?_
      refine aw_iconst (v := 3) C dX6_marked_59 (by decide) ?_
      refine aw_icmp_ne (tgt := 73) C dX6_marked_60 (by decide) (fun c60 => ?_) (fun c60 => ?_)
      · have h := h.2 c60
        refine aw_iload_n C dX6_marked_73 0 rfl ?_
        refine aw_lv [] rfl ?_
        exact hQ x3_57 s34 h 74 dX6_marked_74
      have h := h.1 c60
      refine aw_iload_n C dX6_marked_63 0 rfl ?_
      refine aw_aload_n C dX6_marked_64 1 rfl ?_
      refine aw_iload_n C dX6_marked_65 2 rfl ?_
      refine aw_callI (As := [.int x1]) (rest := [.int x3_57]) C K (mtX6_bareSize l D cy o ad s34 x1 _ h) (cwV 1 C.2.2.2.2.1 gX6_marked_X6_bareSize rfl rfl rfl (by decide +kernel) ⟨Nat.le_of_ble_eq_true rfl, Nat.le_of_ble_eq_true rfl⟩) 0 6 (wX6_g ..) rfl rfl rfl rfl (Nat.le_of_ble_eq_true rfl) ⟨Nat.le_of_ble_eq_true rfl, Nat.le_of_ble_eq_true rfl⟩ dX6_marked_66 (fun r66 s66 h => ?_)
      refine aw_iadd C dX6_marked_69 ?_
      refine aw_goto (tgt := 74) C dX6_marked_70 (by decide) ?_
      refine aw_lv [] rfl ?_
      exact hQ (x3_57 + r66) s66 h 74 dX6_marked_74
    have h := h.2 c47
    refine aw_bipush (v := 100) C dX6_marked_50 (by decide) ?_
    refine aw_goto (tgt := 56) C dX6_marked_52 (by decide) ?_
    refine aw_iadd C dX6_marked_56 ?_
    refine aw_name (fun x3_57 ex3_57 => ?_)
    have h := h x3_57 ex3_57
    refine aw_istore_n (lv' := [(3, .int x3_57), (0, .ref o), (1, .int x1), (2, .int x2)]) C dX6_marked_57 (by decide) rfl ?_
    refine aw_iload_n C dX6_marked_58 3 rfl ?_
    refine aw_iconst (v := 3) C dX6_marked_59 (by decide) ?_
    refine aw_icmp_ne (tgt := 73) C dX6_marked_60 (by decide) (fun c60 => ?_) (fun c60 => ?_)
    · have h := h.2 c60
      refine aw_iload_n C dX6_marked_73 0 rfl ?_
      refine aw_lv [] rfl ?_
      exact hQ x3_57 s34 h 74 dX6_marked_74
    have h := h.1 c60
    refine aw_iload_n C dX6_marked_63 0 rfl ?_
    refine aw_aload_n C dX6_marked_64 1 rfl ?_
    refine aw_iload_n C dX6_marked_65 2 rfl ?_
    refine aw_callI (As := [.int x1]) (rest := [.int x3_57]) C K (mtX6_bareSize l D cy o ad s34 x1 _ h) (cwV 1 C.2.2.2.2.1 gX6_marked_X6_bareSize rfl rfl rfl (by decide +kernel) ⟨Nat.le_of_ble_eq_true rfl, Nat.le_of_ble_eq_true rfl⟩) 0 6 (wX6_g ..) rfl rfl rfl rfl (Nat.le_of_ble_eq_true rfl) ⟨Nat.le_of_ble_eq_true rfl, Nat.le_of_ble_eq_true rfl⟩ dX6_marked_66 (fun r66 s66 h => ?_)
    refine aw_iadd C dX6_marked_69 ?_
    refine aw_goto (tgt := 74) C dX6_marked_70 (by decide) ?_
    refine aw_lv [] rfl ?_
    exact hQ (x3_57 + r66) s66 h 74 dX6_marked_74
  have h := h.2 c22
  refine aw_aload_n C dX6_marked_25 0 rfl ?_
  refine aw_bipush (v := 21) C dX6_marked_26 (by decide) ?_
  refine aw_callV (As := [.int 21]) (rest := []) C K (mtX6_began l D cy o ad s 21 _ h) (cwV 1 C.2.2.2.2.1 gX6_marked_X6_began rfl rfl rfl (by decide +kernel) ⟨Nat.le_of_ble_eq_true rfl, Nat.le_of_ble_eq_true rfl⟩) 0 6 (wX6_g ..) rfl rfl rfl rfl (Nat.le_of_ble_eq_true rfl) ⟨Nat.le_of_ble_eq_true rfl, Nat.le_of_ble_eq_true rfl⟩ dX6_marked_28 (fun s28 h => ?_)
  refine aw_aload_n C dX6_marked_31 0 rfl ?_
  refine aw_bipush (v := 20) C dX6_marked_32 (by decide) ?_
  refine aw_callV (As := [.int 20]) (rest := []) C K (mtX6_began l D cy o ad s28 20 _ h) (cwV 1 C.2.2.2.2.1 gX6_marked_X6_began rfl rfl rfl (by decide +kernel) ⟨Nat.le_of_ble_eq_true rfl, Nat.le_of_ble_eq_true rfl⟩) 0 6 (wX6_g ..) rfl rfl rfl rfl (Nat.le_of_ble_eq_true rfl) ⟨Nat.le_of_ble_eq_true rfl, Nat.le_of_ble_eq_true rfl⟩ dX6_marked_34 (fun s34 h => ?_)
  refine aw_aload_n C dX6_marked_37 0 rfl ?_
  refine aw_iload_n C dX6_marked_38 1 rfl ?_
  refine aw_callI (As := [.int x1]) (rest := []) C K (mtX6_calls l D cy o ad s34 x1 _ h) (cwV 1 C.2.2.2.2.1 gX6_marked_X6_calls rfl rfl rfl (by decide +kernel) ⟨Nat.le_of_ble_eq_true rfl, Nat.le_of_ble_eq_true rfl⟩) 0 6 (wX6_g ..) rfl rfl rfl rfl (Nat.le_of_ble_eq_true rfl) ⟨Nat.le_of_ble_eq_true rfl, Nat.le_of_ble_eq_true rfl⟩ dX6_marked_39 (fun r39 s39 h => ?_)
  obtain ⟨h, hu39⟩ := h
  rw [hu39]
  refine aw_iload_n C dX6_marked_42 2 rfl ?_
  refine aw_iconst (v := 1) C dX6_marked_43 (by decide) ?_
  refine aw_callS (As := [.int x2, .int 1]) (rest := [.int r39]) C (mtX6_isOf l x2 1 _ h) (va_cwS 2 C.2.2.2.2.1 gX6_marked_X6_isOf rfl rfl rfl (by decide +kernel) ⟨Nat.le_of_ble_eq_true rfl, Nat.le_of_ble_eq_true rfl⟩) rfl rfl (Nat.le_of_ble_eq_true rfl) ⟨rfl, rfl⟩ ⟨Nat.zero_le _, Nat.zero_le _⟩ dX6_marked_44 (fun r44 h => ?_)
  refine aw_if_eq (tgt := 55) C dX6_marked_47 (by decide) (fun c47 => ?_) (fun c47 => ?_)
  · have h := h.1 c47
    refine aw_iconst (v := 0) C dX6_marked_55 (by decide) ?_
    refine aw_iadd C dX6_marked_56 ?_
    refine aw_name (fun x3_57 ex3_57 => ?_)
    have h := h x3_57 ex3_57
    refine aw_istore_n (lv' := [(3, .int x3_57), (0, .ref o), (1, .int x1), (2, .int x2)]) C dX6_marked_57 (by decide) rfl ?_
    refine aw_iload_n C dX6_marked_58 3 rfl ?_
    refine aw_iconst (v := 3) C dX6_marked_59 (by decide) ?_
    refine aw_icmp_ne (tgt := 73) C dX6_marked_60 (by decide) (fun c60 => ?_) (fun c60 => ?_)
    · have h := h.2 c60
      refine aw_iload_n C dX6_marked_73 0 rfl ?_
      refine aw_lv [] rfl ?_
      exact hQ x3_57 s34 h 74 dX6_marked_74
    have h := h.1 c60
    refine aw_iload_n C dX6_marked_63 0 rfl ?_
    refine aw_aload_n C dX6_marked_64 1 rfl ?_
    refine aw_iload_n C dX6_marked_65 2 rfl ?_
    refine aw_callI (As := [.int x1]) (rest := [.int x3_57]) C K (mtX6_bareSize l D cy o ad s34 x1 _ h) (cwV 1 C.2.2.2.2.1 gX6_marked_X6_bareSize rfl rfl rfl (by decide +kernel) ⟨Nat.le_of_ble_eq_true rfl, Nat.le_of_ble_eq_true rfl⟩) 0 6 (wX6_g ..) rfl rfl rfl rfl (Nat.le_of_ble_eq_true rfl) ⟨Nat.le_of_ble_eq_true rfl, Nat.le_of_ble_eq_true rfl⟩ dX6_marked_66 (fun r66 s66 h => ?_)
    refine aw_iadd C dX6_marked_69 ?_
    refine aw_goto (tgt := 74) C dX6_marked_70 (by decide) ?_
    refine aw_lv [] rfl ?_
    exact hQ (x3_57 + r66) s66 h 74 dX6_marked_74
  have h := h.2 c47
  refine aw_bipush (v := 100) C dX6_marked_50 (by decide) ?_
  refine aw_goto (tgt := 56) C dX6_marked_52 (by decide) ?_
  refine aw_iadd C dX6_marked_56 ?_
  refine aw_name (fun x3_57 ex3_57 => ?_)
  have h := h x3_57 ex3_57
  refine aw_istore_n (lv' := [(3, .int x3_57), (0, .ref o), (1, .int x1), (2, .int x2)]) C dX6_marked_57 (by decide) rfl ?_
  refine aw_iload_n C dX6_marked_58 3 rfl ?_
  refine aw_iconst (v := 3) C dX6_marked_59 (by decide) ?_
  refine aw_icmp_ne (tgt := 73) C dX6_marked_60 (by decide) (fun c60 => ?_) (fun c60 => ?_)
  · have h := h.2 c60
    refine aw_iload_n C dX6_marked_73 0 rfl ?_
    refine aw_lv [] rfl ?_
    exact hQ x3_57 s34 h 74 dX6_marked_74
  have h := h.1 c60
  refine aw_iload_n C dX6_marked_63 0 rfl ?_
  refine aw_aload_n C dX6_marked_64 1 rfl ?_
  refine aw_iload_n C dX6_marked_65 2 rfl ?_
  refine aw_callI (As := [.int x1]) (rest := [.int x3_57]) C K (mtX6_bareSize l D cy o ad s34 x1 _ h) (cwV 1 C.2.2.2.2.1 gX6_marked_X6_bareSize rfl rfl rfl (by decide +kernel) ⟨Nat.le_of_ble_eq_true rfl, Nat.le_of_ble_eq_true rfl⟩) 0 6 (wX6_g ..) rfl rfl rfl rfl (Nat.le_of_ble_eq_true rfl) ⟨Nat.le_of_ble_eq_true rfl, Nat.le_of_ble_eq_true rfl⟩ dX6_marked_66 (fun r66 s66 h => ?_)
  refine aw_iadd C dX6_marked_69 ?_
  refine aw_goto (tgt := 74) C dX6_marked_70 (by decide) ?_
  refine aw_lv [] rfl ?_
  exact hQ (x3_57 + r66) s66 h 74 dX6_marked_74
theorem eX6_marked (C : ctB p s0 m args c cX6_marked 4 RX6 wsX6_marked) (K : ctK s0 D A H0 cy) {o : Nat} {ad : Nat → Nat} {Q : Int32 → St → Prop} (hQ : ∀ (v : Int32) (u : St), Q v u → ∀ pc, decode cX6_marked pc = .ok (.ireturn, 1) → atG p l e rmX6_marked s0 m args below meth c 0 0 Z 4 (iW D A H0 (wX6 cy o ad u)) [] [.int v] pc) (s : St) (x1 : Int32) (h : pX6_marked  s x1 Q) : atG p l e rmX6_marked s0 m args below meth c 0 0 Z 4 (iW D A H0 (wX6 cy o ad s)) [(0, .ref o), (1, .int x1)] [] 0 := by
  delta pX6_marked at h
  refine aw_aload_n C dX6_marked_0 0 rfl ?_
  refine aw_iload_n C dX6_marked_1 1 rfl ?_
  refine aw_callI (As := [.int x1]) (rest := []) C K (mtX6_kindOf l D cy o ad s x1 _ h) (cwV 1 C.2.2.2.2.1 gX6_marked_X6_kindOf rfl rfl rfl (by decide +kernel) ⟨Nat.le_of_ble_eq_true rfl, Nat.le_of_ble_eq_true rfl⟩) 0 6 (wX6_g ..) rfl rfl rfl rfl (Nat.le_of_ble_eq_true rfl) ⟨Nat.le_of_ble_eq_true rfl, Nat.le_of_ble_eq_true rfl⟩ dX6_marked_2 (fun r2 s2 h => ?_)
  obtain ⟨h, hu2⟩ := h
  rw [hu2]
  refine aw_istore_n (lv' := [(2, .int r2), (0, .ref o), (1, .int x1)]) C dX6_marked_5 (by decide) rfl ?_
  refine aw_iload_n C dX6_marked_6 0 rfl ?_
  refine aw_iconst (v := 3) C dX6_marked_7 (by decide) ?_
  refine aw_icmp_ne (tgt := 17) C dX6_marked_8 (by decide) (fun c8 => ?_) (fun c8 => ?_)
  · have h := h.2 c8
    refine aw_lv [1, 2, 0] rfl ?_
    exact tjX6_marked_17 C K hQ s x1 r2  h
  have h := h.1 c8
  refine aw_aload_n C dX6_marked_11 1 rfl ?_
  refine aw_bipush (v := 22) C dX6_marked_12 (by decide) ?_
  refine aw_callV (As := [.int 22]) (rest := []) C K (mtX6_began l D cy o ad s 22 _ h) (cwV 1 C.2.2.2.2.1 gX6_marked_X6_began rfl rfl rfl (by decide +kernel) ⟨Nat.le_of_ble_eq_true rfl, Nat.le_of_ble_eq_true rfl⟩) 0 6 (wX6_g ..) rfl rfl rfl rfl (Nat.le_of_ble_eq_true rfl) ⟨Nat.le_of_ble_eq_true rfl, Nat.le_of_ble_eq_true rfl⟩ dX6_marked_14 (fun s14 h => ?_)
  refine aw_lv [1, 2, 0] rfl ?_
  exact tjX6_marked_17 C K hQ s14 x1 r2  h
end SX6_marked
theorem mtX6_marked (l : Launch) (D : va_G) (cy : Nat → ClassId) (o : Nat) (ad : Nat → Nat) (s : St) (x1 : Int32) (Q : Int32 → St → Prop) (hw : pX6_marked  s x1 Q) : mI l yX6_marked wsX6_marked rmX6_marked D cy [.ref o, .int x1] (wX6 cy o ad s) (wX6 cy o ad) Q :=
  metI (Wd := wX6 cy o ad) ⟨rfl, rfl⟩ (by decide) rfl (Nat.le_of_ble_eq_true rfl) (fun C K hQ => eX6_marked C K hQ s x1 hw)
def rmX6_sized : Room := { frames := 3, cells := 0, slots := 0, locals := 68 }
theorem inX6_sized_6 : ∀ w ∈ wsX60, w ∈ wsX6_sized := fun w h => (List.mem_cons_of_mem _ (List.mem_append_right _ h))
theorem qX6_sized_fieldLink_RX6_25 : Cond.fieldLink RX6 25 "StageSwitchModel" "outer" "[I" ∈ wsX6_sized := (List.mem_cons_of_mem _ (List.mem_append_left _ (List.mem_append_left _ (List.mem_of_getElem? (i := 0) rfl))))
theorem qX6_sized_fieldLink_RX6_22 : Cond.fieldLink RX6 22 "StageSwitchModel" "lines" "[I" ∈ wsX6_sized := (List.mem_cons_of_mem _ (List.mem_append_left _ (List.mem_append_left _ (List.mem_of_getElem? (i := 1) rfl))))
section SX6_sized
variable {p : Program} {l : Launch} {e : Env} {s0 : State} {m : MethodId} {args : Array Value} {below : List Frame} {meth : Method} {c : Code} {D : va_G} {A : Nat → Prop} {H0 : Heap} {cy : Nat → ClassId} {Z : State → Prop}
theorem tjX6_sized_42 (C : ctB p s0 m args c cX6_sized 4 RX6 wsX6_sized) (K : ctK s0 D A H0 cy) {o : Nat} {ad : Nat → Nat}  {Q : Int32 → St → Prop} (hQ : ∀ (v : Int32) (u : St), Q v u → ∀ pc, decode cX6_sized pc = .ok (.ireturn, 1) → atG p l e rmX6_sized s0 m args below meth c 0 0 Z 4 (iW D A H0 (wX6 cy o ad u)) [] [.int v] pc) (s : St) (x1 : Int32) (x2 : Int32)  (h : jX6_sized_42 Q s x1 x2) : atG p l e rmX6_sized s0 m args below meth c 0 0 Z 4 (iW D A H0 (wX6 cy o ad s)) [(0, .ref o), (1, .int x1), (2, .int x2)] [] 42 := by
  delta jX6_sized_42 at h
  refine aw_aload_n C dX6_sized_42 0 rfl ?_
  refine aw_bipush (v := 10) C dX6_sized_43 (by decide) ?_
  refine aw_callV (As := [.int 10]) (rest := []) C K (mtX6_began l D cy o ad s 10 _ h) (cwV 1 C.2.2.2.2.1 gX6_sized_X6_began rfl rfl rfl (by decide +kernel) ⟨Nat.le_of_ble_eq_true rfl, Nat.le_of_ble_eq_true rfl⟩) 0 6 (wX6_g ..) rfl rfl rfl rfl (Nat.le_of_ble_eq_true rfl) ⟨Nat.le_of_ble_eq_true rfl, Nat.le_of_ble_eq_true rfl⟩ dX6_sized_45 (fun s45 h => ?_)
  refine aw_aload_n C dX6_sized_48 0 rfl ?_
  refine aw_getX6 C K inX6_sized_6 dX6_sized_49 7 (by decide) qX6_sized_fieldLink_RX6_25 0 (wX6_g ..) rfl ?_
  refine aw_iload_n C dX6_sized_52 1 rfl ?_
  obtain ⟨b53, h⟩ := h
  refine aw_iald C K dX6_sized_53 6 (wX6_g7 ..) b53 ?_
  refine aw_aload_n C dX6_sized_54 0 rfl ?_
  refine aw_getX6 C K inX6_sized_6 dX6_sized_55 6 (by decide) qX6_sized_fieldLink_RX6_22 0 (wX6_g ..) rfl ?_
  refine aw_iload_n C dX6_sized_58 1 rfl ?_
  obtain ⟨b59, h⟩ := h
  refine aw_iald C K dX6_sized_59 5 (wX6_g6 ..) b59 ?_
  refine aw_imul C dX6_sized_60 ?_
  refine aw_iload_n C dX6_sized_61 2 rfl ?_
  refine aw_iconst (v := 1) C dX6_sized_62 (by decide) ?_
  refine aw_callS (As := [.int x2, .int 1]) (rest := [.int ((sA s45 7 x1.toNatClampNeg) * (sA s45 6 x1.toNatClampNeg))]) C (mtX6_isOf l x2 1 _ h) (va_cwS 2 C.2.2.2.2.1 gX6_sized_X6_isOf rfl rfl rfl (by decide +kernel) ⟨Nat.le_of_ble_eq_true rfl, Nat.le_of_ble_eq_true rfl⟩) rfl rfl (Nat.le_of_ble_eq_true rfl) ⟨rfl, rfl⟩ ⟨Nat.zero_le _, Nat.zero_le _⟩ dX6_sized_63 (fun r63 h => ?_)
  refine aw_if_eq (tgt := 77) C dX6_sized_66 (by decide) (fun c66 => ?_) (fun c66 => ?_)
  · have h := h.1 c66
    refine aw_iconst (v := 0) C dX6_sized_77 (by decide) ?_
    refine aw_iadd C dX6_sized_78 ?_
    refine aw_name (fun x3_79 ex3_79 => ?_)
    have h := h x3_79 ex3_79
    refine aw_istore_n (lv' := [(3, .int x3_79), (0, .ref o), (1, .int x1), (2, .int x2)]) C dX6_sized_79 (by decide) rfl ?_
    refine aw_iload_n C dX6_sized_80 3 rfl ?_
    refine aw_iconst (v := 2) C dX6_sized_81 (by decide) ?_
    refine aw_icmp_ne (tgt := 95) C dX6_sized_82 (by decide) (fun c82 => ?_) (fun c82 => ?_)
    · have h := h.2 c82
      refine aw_iload_n C dX6_sized_95 0 rfl ?_
      refine aw_lv [] rfl ?_
      exact hQ x3_79 s45 h 96 dX6_sized_96
    have h := h.1 c82
    refine aw_iload_n C dX6_sized_85 0 rfl ?_
    refine aw_aload_n C dX6_sized_86 1 rfl ?_
    refine aw_iload_n C dX6_sized_87 2 rfl ?_
    refine aw_callI (As := [.int x1]) (rest := [.int x3_79]) C K (mtX6_marked l D cy o ad s45 x1 _ h) (cwV 1 C.2.2.2.2.1 gX6_sized_X6_marked rfl rfl rfl (by decide +kernel) ⟨Nat.le_of_ble_eq_true rfl, Nat.le_of_ble_eq_true rfl⟩) 0 6 (wX6_g ..) rfl rfl rfl rfl (Nat.le_of_ble_eq_true rfl) ⟨Nat.le_of_ble_eq_true rfl, Nat.le_of_ble_eq_true rfl⟩ dX6_sized_88 (fun r88 s88 h => ?_)
    refine aw_iadd C dX6_sized_91 ?_
    refine aw_goto (tgt := 96) C dX6_sized_92 (by decide) ?_
    refine aw_lv [] rfl ?_
    exact hQ (x3_79 + r88) s88 h 96 dX6_sized_96
  have h := h.2 c66
  refine aw_aload_n C dX6_sized_69 0 rfl ?_
  refine aw_iload_n C dX6_sized_70 1 rfl ?_
  refine aw_callI (As := [.int x1]) (rest := [.int ((sA s45 7 x1.toNatClampNeg) * (sA s45 6 x1.toNatClampNeg))]) C K (mtX6_alive l D cy o ad s45 x1 _ h) (cwV 1 C.2.2.2.2.1 gX6_sized_X6_alive rfl rfl rfl (by decide +kernel) ⟨Nat.le_of_ble_eq_true rfl, Nat.le_of_ble_eq_true rfl⟩) 0 6 (wX6_g ..) rfl rfl rfl rfl (Nat.le_of_ble_eq_true rfl) ⟨Nat.le_of_ble_eq_true rfl, Nat.le_of_ble_eq_true rfl⟩ dX6_sized_71 (fun r71 s71 h => ?_)
  obtain ⟨h, hu71⟩ := h
  rw [hu71]
  refine aw_goto (tgt := 78) C dX6_sized_74 (by decide) ?_
  refine aw_iadd C dX6_sized_78 ?_
  refine aw_name (fun x3_79 ex3_79 => ?_)
  have h := h x3_79 ex3_79
  refine aw_istore_n (lv' := [(3, .int x3_79), (0, .ref o), (1, .int x1), (2, .int x2)]) C dX6_sized_79 (by decide) rfl ?_
  refine aw_iload_n C dX6_sized_80 3 rfl ?_
  refine aw_iconst (v := 2) C dX6_sized_81 (by decide) ?_
  refine aw_icmp_ne (tgt := 95) C dX6_sized_82 (by decide) (fun c82 => ?_) (fun c82 => ?_)
  · have h := h.2 c82
    refine aw_iload_n C dX6_sized_95 0 rfl ?_
    refine aw_lv [] rfl ?_
    exact hQ x3_79 s45 h 96 dX6_sized_96
  have h := h.1 c82
  refine aw_iload_n C dX6_sized_85 0 rfl ?_
  refine aw_aload_n C dX6_sized_86 1 rfl ?_
  refine aw_iload_n C dX6_sized_87 2 rfl ?_
  refine aw_callI (As := [.int x1]) (rest := [.int x3_79]) C K (mtX6_marked l D cy o ad s45 x1 _ h) (cwV 1 C.2.2.2.2.1 gX6_sized_X6_marked rfl rfl rfl (by decide +kernel) ⟨Nat.le_of_ble_eq_true rfl, Nat.le_of_ble_eq_true rfl⟩) 0 6 (wX6_g ..) rfl rfl rfl rfl (Nat.le_of_ble_eq_true rfl) ⟨Nat.le_of_ble_eq_true rfl, Nat.le_of_ble_eq_true rfl⟩ dX6_sized_88 (fun r88 s88 h => ?_)
  refine aw_iadd C dX6_sized_91 ?_
  refine aw_goto (tgt := 96) C dX6_sized_92 (by decide) ?_
  refine aw_lv [] rfl ?_
  exact hQ (x3_79 + r88) s88 h 96 dX6_sized_96
theorem tjX6_sized_28 (C : ctB p s0 m args c cX6_sized 4 RX6 wsX6_sized) (K : ctK s0 D A H0 cy) {o : Nat} {ad : Nat → Nat}  {Q : Int32 → St → Prop} (hQ : ∀ (v : Int32) (u : St), Q v u → ∀ pc, decode cX6_sized pc = .ok (.ireturn, 1) → atG p l e rmX6_sized s0 m args below meth c 0 0 Z 4 (iW D A H0 (wX6 cy o ad u)) [] [.int v] pc) (s : St) (x1 : Int32) (x2 : Int32)  (h : jX6_sized_28 Q s x1 x2) : atG p l e rmX6_sized s0 m args below meth c 0 0 Z 4 (iW D A H0 (wX6 cy o ad s)) [(0, .ref o), (1, .int x1), (2, .int x2)] [] 28 := by
  delta jX6_sized_28 at h
  refine aw_iload_n C dX6_sized_28 2 rfl ?_
  refine aw_iconst (v := 1) C dX6_sized_29 (by decide) ?_
  refine aw_callS (As := [.int x2, .int 1]) (rest := []) C (mtX6_isOf l x2 1 _ h) (va_cwS 2 C.2.2.2.2.1 gX6_sized_X6_isOf rfl rfl rfl (by decide +kernel) ⟨Nat.le_of_ble_eq_true rfl, Nat.le_of_ble_eq_true rfl⟩) rfl rfl (Nat.le_of_ble_eq_true rfl) ⟨rfl, rfl⟩ ⟨Nat.zero_le _, Nat.zero_le _⟩ dX6_sized_30 (fun r30 h => ?_)
  refine aw_if_eq (tgt := 42) C dX6_sized_33 (by decide) (fun c33 => ?_) (fun c33 => ?_)
  · have h := h.1 c33
    exact tjX6_sized_42 C K hQ s x1 x2  h
  have h := h.2 c33
  refine aw_aload_n C dX6_sized_36 0 rfl ?_
  refine aw_bipush (v := 11) C dX6_sized_37 (by decide) ?_
  refine aw_callV (As := [.int 11]) (rest := []) C K (mtX6_began l D cy o ad s 11 _ h) (cwV 1 C.2.2.2.2.1 gX6_sized_X6_began rfl rfl rfl (by decide +kernel) ⟨Nat.le_of_ble_eq_true rfl, Nat.le_of_ble_eq_true rfl⟩) 0 6 (wX6_g ..) rfl rfl rfl rfl (Nat.le_of_ble_eq_true rfl) ⟨Nat.le_of_ble_eq_true rfl, Nat.le_of_ble_eq_true rfl⟩ dX6_sized_39 (fun s39 h => ?_)
  exact tjX6_sized_42 C K hQ s39 x1 x2  h
theorem eX6_sized (C : ctB p s0 m args c cX6_sized 4 RX6 wsX6_sized) (K : ctK s0 D A H0 cy) {o : Nat} {ad : Nat → Nat} {Q : Int32 → St → Prop} (hQ : ∀ (v : Int32) (u : St), Q v u → ∀ pc, decode cX6_sized pc = .ok (.ireturn, 1) → atG p l e rmX6_sized s0 m args below meth c 0 0 Z 4 (iW D A H0 (wX6 cy o ad u)) [] [.int v] pc) (s : St) (x1 : Int32) (h : pX6_sized  s x1 Q) : atG p l e rmX6_sized s0 m args below meth c 0 0 Z 4 (iW D A H0 (wX6 cy o ad s)) [(0, .ref o), (1, .int x1)] [] 0 := by
  delta pX6_sized at h
  refine aw_aload_n C dX6_sized_0 0 rfl ?_
  refine aw_iload_n C dX6_sized_1 1 rfl ?_
  refine aw_callI (As := [.int x1]) (rest := []) C K (mtX6_kindOf l D cy o ad s x1 _ h) (cwV 1 C.2.2.2.2.1 gX6_sized_X6_kindOf rfl rfl rfl (by decide +kernel) ⟨Nat.le_of_ble_eq_true rfl, Nat.le_of_ble_eq_true rfl⟩) 0 6 (wX6_g ..) rfl rfl rfl rfl (Nat.le_of_ble_eq_true rfl) ⟨Nat.le_of_ble_eq_true rfl, Nat.le_of_ble_eq_true rfl⟩ dX6_sized_2 (fun r2 s2 h => ?_)
  obtain ⟨h, hu2⟩ := h
  rw [hu2]
  refine aw_istore_n (lv' := [(2, .int r2), (0, .ref o), (1, .int x1)]) C dX6_sized_5 (by decide) rfl ?_
  refine aw_iload_n C dX6_sized_6 0 rfl ?_
  refine aw_iconst (v := 3) C dX6_sized_7 (by decide) ?_
  refine aw_icmp_ne (tgt := 17) C dX6_sized_8 (by decide) (fun c8 => ?_) (fun c8 => ?_)
  · have h := h.2 c8
    refine aw_iload_n C dX6_sized_17 0 rfl ?_
    refine aw_iconst (v := 2) C dX6_sized_18 (by decide) ?_
    refine aw_icmp_ne (tgt := 28) C dX6_sized_19 (by decide) (fun c19 => ?_) (fun c19 => ?_)
    · have h := h.2 c19
      refine aw_lv [1, 2, 0] rfl ?_
      exact tjX6_sized_28 C K hQ s x1 r2  h
    have h := h.1 c19
    refine aw_aload_n C dX6_sized_22 1 rfl ?_
    refine aw_bipush (v := 12) C dX6_sized_23 (by decide) ?_
    refine aw_callV (As := [.int 12]) (rest := []) C K (mtX6_began l D cy o ad s 12 _ h) (cwV 1 C.2.2.2.2.1 gX6_sized_X6_began rfl rfl rfl (by decide +kernel) ⟨Nat.le_of_ble_eq_true rfl, Nat.le_of_ble_eq_true rfl⟩) 0 6 (wX6_g ..) rfl rfl rfl rfl (Nat.le_of_ble_eq_true rfl) ⟨Nat.le_of_ble_eq_true rfl, Nat.le_of_ble_eq_true rfl⟩ dX6_sized_25 (fun s25 h => ?_)
    refine aw_lv [1, 2, 0] rfl ?_
    exact tjX6_sized_28 C K hQ s25 x1 r2  h
  have h := h.1 c8
  refine aw_aload_n C dX6_sized_11 1 rfl ?_
  refine aw_iload_n C dX6_sized_12 2 rfl ?_
  refine aw_callI (As := [.int x1]) (rest := []) C K (mtX6_bareSize l D cy o ad s x1 _ h) (cwV 1 C.2.2.2.2.1 gX6_sized_X6_bareSize rfl rfl rfl (by decide +kernel) ⟨Nat.le_of_ble_eq_true rfl, Nat.le_of_ble_eq_true rfl⟩) 0 6 (wX6_g ..) rfl rfl rfl rfl (Nat.le_of_ble_eq_true rfl) ⟨Nat.le_of_ble_eq_true rfl, Nat.le_of_ble_eq_true rfl⟩ dX6_sized_13 (fun r13 s13 h => ?_)
  refine aw_lv [] rfl ?_
  exact hQ r13 s13 h 16 dX6_sized_16
end SX6_sized
theorem mtX6_sized (l : Launch) (D : va_G) (cy : Nat → ClassId) (o : Nat) (ad : Nat → Nat) (s : St) (x1 : Int32) (Q : Int32 → St → Prop) (hw : pX6_sized  s x1 Q) : mI l yX6_sized wsX6_sized rmX6_sized D cy [.ref o, .int x1] (wX6 cy o ad s) (wX6 cy o ad) Q :=
  metI (Wd := wX6 cy o ad) ⟨rfl, rfl⟩ (by decide) rfl (Nat.le_of_ble_eq_true rfl) (fun C K hQ => eX6_sized C K hQ s x1 hw)
def rmX6_ask : Room := { frames := 4, cells := 0, slots := 0, locals := 91 }
theorem inX6_ask_6 : ∀ w ∈ wsX60, w ∈ wsX6_ask := fun w h => (List.mem_cons_of_mem _ (List.mem_append_right _ h))
theorem qX6_ask_fieldLink_RX6_81 : Cond.fieldLink RX6 81 "StageSwitchModel" "thrown" "I" ∈ wsX6_ask := (List.mem_cons_of_mem _ (List.mem_append_left _ (List.mem_append_left _ (List.mem_of_getElem? (i := 0) rfl))))
theorem qX6_ask_constant_RX6_101_1000001 : Cond.constant RX6 101 (-1000001) ∈ wsX6_ask := (List.mem_cons_of_mem _ (List.mem_append_left _ (List.mem_append_left _ (List.mem_of_getElem? (i := 1) rfl))))
theorem qX6_ask_fieldLink_RX6_131 : Cond.fieldLink RX6 131 "StageSwitchModel" "traced" "I" ∈ wsX6_ask := (List.mem_cons_of_mem _ (List.mem_append_left _ (List.mem_append_left _ (List.mem_of_getElem? (i := 2) rfl))))
section SX6_ask
variable {p : Program} {l : Launch} {e : Env} {s0 : State} {m : MethodId} {args : Array Value} {below : List Frame} {meth : Method} {c : Code} {D : va_G} {A : Nat → Prop} {H0 : Heap} {cy : Nat → ClassId} {Z : State → Prop}
theorem eX6_ask (C : ctB p s0 m args c cX6_ask 4 RX6 wsX6_ask) (K : ctK s0 D A H0 cy) {o : Nat} {ad : Nat → Nat} {Q : Int32 → St → Prop} (hQ : ∀ (v : Int32) (u : St), Q v u → ∀ pc, decode cX6_ask pc = .ok (.ireturn, 1) → atG p l e rmX6_ask s0 m args below meth c 0 0 Z 4 (iW D A H0 (wX6 cy o ad u)) [] [.int v] pc) (s : St) (x1 : Int32) (x2 : Int32) (h : pX6_ask  s x1 x2 Q) : atG p l e rmX6_ask s0 m args below meth c 0 0 Z 4 (iW D A H0 (wX6 cy o ad s)) [(0, .ref o), (1, .int x1), (2, .int x2)] [] 0 := by
  delta pX6_ask at h
  refine aw_aload_n C dX6_ask_0 0 rfl ?_
  refine aw_iconst (v := 0) C dX6_ask_1 (by decide) ?_
  refine aw_putX6 (ty := .int) C K inX6_ask_6 dX6_ask_2 0 (by decide) qX6_ask_fieldLink_RX6_81 0 (wX6_g ..) rfl (by decide +kernel) rfl rfl (Nat.le_of_ble_eq_true rfl) (wX6_p0 ..) ?_
  obtain ⟨s2, es2⟩ : ∃ z, z = (uF s 0 0) := ⟨_, rfl⟩
  rw [← es2]
  have h := h s2 es2
  refine aw_iload_n C dX6_ask_5 1 rfl ?_
  refine aw_callS (As := [.int x1]) (rest := []) C (mtX6_isPlace l x1 _ h) (va_cwS 1 C.2.2.2.2.1 gX6_ask_X6_isPlace rfl rfl rfl (by decide +kernel) ⟨Nat.le_of_ble_eq_true rfl, Nat.le_of_ble_eq_true rfl⟩) rfl rfl (Nat.le_of_ble_eq_true rfl) ⟨rfl, rfl⟩ ⟨Nat.zero_le _, Nat.zero_le _⟩ dX6_ask_6 (fun r6 h => ?_)
  refine aw_if_eq (tgt := 22) C dX6_ask_9 (by decide) (fun c9 => ?_) (fun c9 => ?_)
  · have h := h.1 c9
    refine aw_ldc (v := (-1000001)) C dX6_ask_22 qX6_ask_constant_RX6_101_1000001 ?_
    refine aw_lv [] rfl ?_
    exact hQ (-1000001) s2 h 24 dX6_ask_24
  have h := h.2 c9
  refine aw_iload_n C dX6_ask_12 2 rfl ?_
  refine aw_i2l C dX6_ask_13 ?_
  refine aw_lconst (v := 0) C dX6_ask_14 (by decide) ?_
  refine aw_lconst (v := 1) C dX6_ask_15 (by decide) ?_
  refine aw_callS (As := [.long x2.toInt64, .long 0, .long 1]) (rest := []) C (mtX6_in l x2.toInt64 0 1 _ h) (va_cwS 3 C.2.2.2.2.1 gX6_ask_X6_in rfl rfl rfl (by decide +kernel) ⟨Nat.le_of_ble_eq_true rfl, Nat.le_of_ble_eq_true rfl⟩) rfl rfl (Nat.le_of_ble_eq_true rfl) ⟨rfl, rfl⟩ ⟨Nat.zero_le _, Nat.zero_le _⟩ dX6_ask_16 (fun r16 h => ?_)
  refine aw_if_ne (tgt := 25) C dX6_ask_19 (by decide) (fun c19 => ?_) (fun c19 => ?_)
  · have h := h.2 c19
    refine aw_aload_n C dX6_ask_25 0 rfl ?_
    refine aw_iconst (v := 0) C dX6_ask_26 (by decide) ?_
    refine aw_putX6 (ty := .int) C K inX6_ask_6 dX6_ask_27 12 (by decide) qX6_ask_fieldLink_RX6_131 0 (wX6_g ..) rfl (by decide +kernel) rfl rfl (Nat.le_of_ble_eq_true rfl) (wX6_p12 ..) ?_
    obtain ⟨s27, es27⟩ : ∃ z, z = (uF s2 12 0) := ⟨_, rfl⟩
    rw [← es27]
    have h := h s27 es27
    refine aw_aload_n C dX6_ask_30 0 rfl ?_
    refine aw_iload_n C dX6_ask_31 1 rfl ?_
    refine aw_callI (As := [.int x1]) (rest := []) C K (mtX6_look l D cy o ad s27 x1 _ h) (cwV 1 C.2.2.2.2.1 gX6_ask_X6_look rfl rfl rfl (by decide +kernel) ⟨Nat.le_of_ble_eq_true rfl, Nat.le_of_ble_eq_true rfl⟩) 0 6 (wX6_g ..) rfl rfl rfl rfl (Nat.le_of_ble_eq_true rfl) ⟨Nat.le_of_ble_eq_true rfl, Nat.le_of_ble_eq_true rfl⟩ dX6_ask_32 (fun r32 s32 h => ?_)
    refine aw_istore_n (lv' := [(3, .int r32), (0, .ref o), (1, .int x1), (2, .int x2)]) C dX6_ask_35 (by decide) rfl ?_
    refine aw_iload_n C dX6_ask_36 0 rfl ?_
    refine aw_if_ge (tgt := 44) C dX6_ask_37 (by decide) (fun c37 => ?_) (fun c37 => ?_)
    · have h := h.1 c37
      refine aw_iload_n C dX6_ask_44 3 rfl ?_
      refine aw_if_ne (tgt := 56) C dX6_ask_45 (by decide) (fun c45 => ?_) (fun c45 => ?_)
      · have h := h.2 c45
        refine aw_aload_n C dX6_ask_56 1 rfl ?_
        refine aw_iload_n C dX6_ask_57 2 rfl ?_
        refine aw_callI (As := [.int x1]) (rest := []) C K (mtX6_marked l D cy o ad s32 x1 _ h) (cwV 1 C.2.2.2.2.1 gX6_ask_X6_marked rfl rfl rfl (by decide +kernel) ⟨Nat.le_of_ble_eq_true rfl, Nat.le_of_ble_eq_true rfl⟩) 0 6 (wX6_g ..) rfl rfl rfl rfl (Nat.le_of_ble_eq_true rfl) ⟨Nat.le_of_ble_eq_true rfl, Nat.le_of_ble_eq_true rfl⟩ dX6_ask_58 (fun r58 s58 h => ?_)
        refine aw_lv [] rfl ?_
        exact hQ r58 s58 h 61 dX6_ask_61
      have h := h.1 c45
      refine aw_aload_n C dX6_ask_48 1 rfl ?_
      refine aw_iload_n C dX6_ask_49 2 rfl ?_
      refine aw_callI (As := [.int x1]) (rest := []) C K (mtX6_sized l D cy o ad s32 x1 _ h) (cwV 1 C.2.2.2.2.1 gX6_ask_X6_sized rfl rfl rfl (by decide +kernel) ⟨Nat.le_of_ble_eq_true rfl, Nat.le_of_ble_eq_true rfl⟩) 0 6 (wX6_g ..) rfl rfl rfl rfl (Nat.le_of_ble_eq_true rfl) ⟨Nat.le_of_ble_eq_true rfl, Nat.le_of_ble_eq_true rfl⟩ dX6_ask_50 (fun r50 s50 h => ?_)
      refine aw_goto (tgt := 61) C dX6_ask_53 (by decide) ?_
      refine aw_lv [] rfl ?_
      exact hQ r50 s50 h 61 dX6_ask_61
    have h := h.2 c37
    refine aw_iload_n C dX6_ask_40 0 rfl ?_
    refine aw_goto (tgt := 61) C dX6_ask_41 (by decide) ?_
    refine aw_lv [] rfl ?_
    exact hQ r32 s32 h 61 dX6_ask_61
  have h := h.1 c19
  refine aw_ldc (v := (-1000001)) C dX6_ask_22 qX6_ask_constant_RX6_101_1000001 ?_
  refine aw_lv [] rfl ?_
  exact hQ (-1000001) s2 h 24 dX6_ask_24
end SX6_ask
theorem mtX6_ask (l : Launch) (D : va_G) (cy : Nat → ClassId) (o : Nat) (ad : Nat → Nat) (s : St) (x1 : Int32) (x2 : Int32) (Q : Int32 → St → Prop) (hw : pX6_ask  s x1 x2 Q) : mI l yX6_ask wsX6_ask rmX6_ask D cy [.ref o, .int x1, .int x2] (wX6 cy o ad s) (wX6 cy o ad) Q :=
  metI (Wd := wX6 cy o ad) ⟨rfl, rfl⟩ (by decide) rfl (Nat.le_of_ble_eq_true rfl) (fun C K hQ => eX6_ask C K hQ s x1 x2 hw)
def rmX6_trace : Room := { frames := 1, cells := 0, slots := 0, locals := 25 }
theorem inX6_trace_6 : ∀ w ∈ wsX60, w ∈ wsX6_trace := fun w h => (List.mem_cons_of_mem _ (List.mem_append_right _ h))
theorem qX6_trace_fieldLink_RX6_81 : Cond.fieldLink RX6 81 "StageSwitchModel" "thrown" "I" ∈ wsX6_trace := (List.mem_cons_of_mem _ (List.mem_append_left _ (List.mem_of_getElem? (i := 0) rfl)))
theorem qX6_trace_fieldLink_RX6_131 : Cond.fieldLink RX6 131 "StageSwitchModel" "traced" "I" ∈ wsX6_trace := (List.mem_cons_of_mem _ (List.mem_append_left _ (List.mem_of_getElem? (i := 1) rfl)))
theorem qX6_trace_constant_RX6_118_1000000 : Cond.constant RX6 118 (-1000000) ∈ wsX6_trace := (List.mem_cons_of_mem _ (List.mem_append_left _ (List.mem_of_getElem? (i := 3) rfl)))
theorem qX6_trace_fieldLink_RX6_38 : Cond.fieldLink RX6 38 "StageSwitchModel" "trace" "[I" ∈ wsX6_trace := (List.mem_cons_of_mem _ (List.mem_append_left _ (List.mem_of_getElem? (i := 2) rfl)))
section SX6_trace
variable {p : Program} {l : Launch} {e : Env} {s0 : State} {m : MethodId} {args : Array Value} {below : List Frame} {meth : Method} {c : Code} {D : va_G} {A : Nat → Prop} {H0 : Heap} {cy : Nat → ClassId} {Z : State → Prop}
theorem eX6_trace (C : ctB p s0 m args c cX6_trace 2 RX6 wsX6_trace) (K : ctK s0 D A H0 cy) {o : Nat} {ad : Nat → Nat} {Q : Int32 → St → Prop} (hQ : ∀ (v : Int32) (u : St), Q v u → ∀ pc, decode cX6_trace pc = .ok (.ireturn, 1) → atG p l e rmX6_trace s0 m args below meth c 0 0 Z 2 (iW D A H0 (wX6 cy o ad u)) [] [.int v] pc) (s : St) (x1 : Int32) (h : pX6_trace  s x1 Q) : atG p l e rmX6_trace s0 m args below meth c 0 0 Z 2 (iW D A H0 (wX6 cy o ad s)) [(0, .ref o), (1, .int x1)] [] 0 := by
  delta pX6_trace at h
  refine aw_aload_n C dX6_trace_0 0 rfl ?_
  refine aw_iconst (v := 0) C dX6_trace_1 (by decide) ?_
  refine aw_putX6 (ty := .int) C K inX6_trace_6 dX6_trace_2 0 (by decide) qX6_trace_fieldLink_RX6_81 0 (wX6_g ..) rfl (by decide +kernel) rfl rfl (Nat.le_of_ble_eq_true rfl) (wX6_p0 ..) ?_
  obtain ⟨s2, es2⟩ : ∃ z, z = (uF s 0 0) := ⟨_, rfl⟩
  rw [← es2]
  have h := h s2 es2
  refine aw_iload_n C dX6_trace_5 1 rfl ?_
  refine aw_i2l C dX6_trace_6 ?_
  refine aw_lconst (v := 0) C dX6_trace_7 (by decide) ?_
  refine aw_aload_n C dX6_trace_8 0 rfl ?_
  refine aw_getX6 C K inX6_trace_6 dX6_trace_9 12 (by decide) qX6_trace_fieldLink_RX6_131 0 (wX6_g ..) rfl ?_
  refine aw_iconst (v := 1) C dX6_trace_12 (by decide) ?_
  refine aw_isub C dX6_trace_13 ?_
  refine aw_i2l C dX6_trace_14 ?_
  refine aw_callS (As := [.long x1.toInt64, .long 0, .long (((sF s2 12) - 1).toInt64)]) (rest := []) C (mtX6_in l x1.toInt64 0 (((sF s2 12) - 1).toInt64) _ h) (va_cwS 3 C.2.2.2.2.1 gX6_trace_X6_in rfl rfl rfl (by decide +kernel) ⟨Nat.le_of_ble_eq_true rfl, Nat.le_of_ble_eq_true rfl⟩) rfl rfl (Nat.le_of_ble_eq_true rfl) ⟨rfl, rfl⟩ ⟨Nat.zero_le _, Nat.zero_le _⟩ dX6_trace_15 (fun r15 h => ?_)
  refine aw_if_eq (tgt := 30) C dX6_trace_18 (by decide) (fun c18 => ?_) (fun c18 => ?_)
  · have h := h.1 c18
    refine aw_ldc (v := (-1000000)) C dX6_trace_30 qX6_trace_constant_RX6_118_1000000 ?_
    refine aw_lv [] rfl ?_
    exact hQ (-1000000) s2 h 32 dX6_trace_32
  have h := h.2 c18
  refine aw_aload_n C dX6_trace_21 0 rfl ?_
  refine aw_getX6 C K inX6_trace_6 dX6_trace_22 11 (by decide) qX6_trace_fieldLink_RX6_38 0 (wX6_g ..) rfl ?_
  refine aw_iload_n C dX6_trace_25 1 rfl ?_
  obtain ⟨b26, h⟩ := h
  refine aw_iald C K dX6_trace_26 10 (wX6_g11 ..) b26 ?_
  refine aw_goto (tgt := 32) C dX6_trace_27 (by decide) ?_
  refine aw_lv [] rfl ?_
  exact hQ (sA s2 11 x1.toNatClampNeg) s2 h 32 dX6_trace_32
end SX6_trace
theorem mtX6_trace (l : Launch) (D : va_G) (cy : Nat → ClassId) (o : Nat) (ad : Nat → Nat) (s : St) (x1 : Int32) (Q : Int32 → St → Prop) (hw : pX6_trace  s x1 Q) : mI l yX6_trace wsX6_trace rmX6_trace D cy [.ref o, .int x1] (wX6 cy o ad s) (wX6 cy o ad) Q :=
  metI (Wd := wX6 cy o ad) ⟨rfl, rfl⟩ (by decide) rfl (Nat.le_of_ble_eq_true rfl) (fun C K hQ => eX6_trace C K hQ s x1 hw)
def rmX6_callFrom : Room := { frames := 0, cells := 0, slots := 0, locals := 0 }
theorem inX6_callFrom_6 : ∀ w ∈ wsX60, w ∈ wsX6_callFrom := fun w h => (List.mem_cons_of_mem _ (List.mem_append_right _ h))
theorem qX6_callFrom_constant_RX6_118_1000000 : Cond.constant RX6 118 (-1000000) ∈ wsX6_callFrom := (List.mem_cons_of_mem _ (List.mem_append_left _ (List.mem_of_getElem? (i := 0) rfl)))
theorem qX6_callFrom_fieldLink_RX6_22 : Cond.fieldLink RX6 22 "StageSwitchModel" "lines" "[I" ∈ wsX6_callFrom := (List.mem_cons_of_mem _ (List.mem_append_left _ (List.mem_of_getElem? (i := 1) rfl)))
theorem qX6_callFrom_fieldLink_RX6_32 : Cond.fieldLink RX6 32 "StageSwitchModel" "out" "[I" ∈ wsX6_callFrom := (List.mem_cons_of_mem _ (List.mem_append_left _ (List.mem_of_getElem? (i := 2) rfl)))
theorem qX6_callFrom_fieldLink_RX6_35 : Cond.fieldLink RX6 35 "StageSwitchModel" "by" "[I" ∈ wsX6_callFrom := (List.mem_cons_of_mem _ (List.mem_append_left _ (List.mem_of_getElem? (i := 3) rfl)))
section SX6_callFrom
variable {p : Program} {l : Launch} {e : Env} {s0 : State} {m : MethodId} {args : Array Value} {below : List Frame} {meth : Method} {c : Code} {D : va_G} {A : Nat → Prop} {H0 : Heap} {cy : Nat → ClassId} {Z : State → Prop}
theorem tbX6_callFrom_14 (C : ctB p s0 m args c cX6_callFrom 6 RX6 wsX6_callFrom) (K : ctK s0 D A H0 cy) {o : Nat} {ad : Nat → Nat}  {s : St} {x1 : Int32} {x2 : Int32} {x3 : Int32} {k77 : Int32 → Prop} (hk77 : ∀ (y4 : Int32), k77 y4 → atG p l e rmX6_callFrom s0 m args below meth c 0 0 Z 6 (iW D A H0 (wX6 cy o ad s)) [(0, .ref o), (4, .int y4)] [] 77) {kH : Int32 → Int32 → Prop} (hkH : ∀ (y4 : Int32) (y5 : Int32), kH y4 y5 → atG p l e rmX6_callFrom s0 m args below meth c 0 0 Z 6 (iW D A H0 (wX6 cy o ad s)) [(0, .ref o), (1, .int x1), (2, .int x2), (3, .int x3), (4, .int y4), (5, .int y5)] [] 14) (x4 : Int32) (x5 : Int32) (h : bX6_callFrom_14 s x1 x2 x3 k77 kH x4 x5) : atG p l e rmX6_callFrom s0 m args below meth c 0 0 Z 6 (iW D A H0 (wX6 cy o ad s)) [(0, .ref o), (1, .int x1), (2, .int x2), (3, .int x3), (4, .int x4), (5, .int x5)] [] 14 := by
  delta bX6_callFrom_14 at h
  refine aw_iload C dX6_callFrom_14 5 rfl ?_
  refine aw_iload_n C dX6_callFrom_16 2 rfl ?_
  refine aw_iconst (v := 1) C dX6_callFrom_17 (by decide) ?_
  refine aw_iadd C dX6_callFrom_18 ?_
  refine aw_aload_n C dX6_callFrom_19 0 rfl ?_
  refine aw_getX6 C K inX6_callFrom_6 dX6_callFrom_20 6 (by decide) qX6_callFrom_fieldLink_RX6_22 0 (wX6_g ..) rfl ?_
  refine aw_iload_n C dX6_callFrom_23 1 rfl ?_
  obtain ⟨b24, h⟩ := h
  refine aw_iald C K dX6_callFrom_24 5 (wX6_g6 ..) b24 ?_
  refine aw_imul C dX6_callFrom_25 ?_
  refine aw_icmp_ge (tgt := 77) C dX6_callFrom_26 (by decide) (fun c26 => ?_) (fun c26 => ?_)
  · have h := h.1 c26
    refine aw_lv [0, 4] rfl ?_
    exact hk77 x4 h
  have h := h.2 c26
  refine aw_aload_n C dX6_callFrom_29 0 rfl ?_
  refine aw_getX6 C K inX6_callFrom_6 dX6_callFrom_30 9 (by decide) qX6_callFrom_fieldLink_RX6_32 0 (wX6_g ..) rfl ?_
  refine aw_bipush (v := 36) C dX6_callFrom_33 (by decide) ?_
  refine aw_iload_n C dX6_callFrom_35 1 rfl ?_
  refine aw_imul C dX6_callFrom_36 ?_
  refine aw_iload C dX6_callFrom_37 5 rfl ?_
  refine aw_iadd C dX6_callFrom_39 ?_
  obtain ⟨b40, h⟩ := h
  refine aw_iald C K dX6_callFrom_40 8 (wX6_g9 ..) b40 ?_
  refine aw_ldc (v := (-1000000)) C dX6_callFrom_41 qX6_callFrom_constant_RX6_118_1000000 ?_
  refine aw_icmp_eq (tgt := 67) C dX6_callFrom_43 (by decide) (fun c43 => ?_) (fun c43 => ?_)
  · have h := h.1 c43
    refine aw_iload C dX6_callFrom_67 4 rfl ?_
    refine aw_istore (lv' := [(4, .int x4), (0, .ref o), (1, .int x1), (2, .int x2), (3, .int x3), (5, .int x5)]) C dX6_callFrom_69 (by decide) rfl ?_
    obtain ⟨x5_71, ex5_71⟩ : ∃ y : Int32, y = x5 + 1 := ⟨_, rfl⟩
    have h := h x5_71 ex5_71
    refine aw_iinc (v := x5_71) (lv' := [(5, .int x5_71), (4, .int x4), (0, .ref o), (1, .int x1), (2, .int x2), (3, .int x3)]) C dX6_callFrom_71 5 rfl (by rw [ex5_71]; rfl) (by decide) rfl ?_
    refine aw_goto (tgt := 14) C dX6_callFrom_74 (by decide) ?_
    refine aw_lv [2, 3, 4, 5, 1, 0] rfl ?_
    exact hkH x4 x5_71 h
  have h := h.2 c43
  refine aw_aload_n C dX6_callFrom_46 0 rfl ?_
  refine aw_getX6 C K inX6_callFrom_6 dX6_callFrom_47 10 (by decide) qX6_callFrom_fieldLink_RX6_35 0 (wX6_g ..) rfl ?_
  refine aw_bipush (v := 36) C dX6_callFrom_50 (by decide) ?_
  refine aw_iload_n C dX6_callFrom_52 1 rfl ?_
  refine aw_imul C dX6_callFrom_53 ?_
  refine aw_iload C dX6_callFrom_54 5 rfl ?_
  refine aw_iadd C dX6_callFrom_56 ?_
  obtain ⟨b57, h⟩ := h
  refine aw_iald C K dX6_callFrom_57 9 (wX6_g10 ..) b57 ?_
  refine aw_iload_n C dX6_callFrom_58 3 rfl ?_
  refine aw_icmp_ne (tgt := 67) C dX6_callFrom_59 (by decide) (fun c59 => ?_) (fun c59 => ?_)
  · have h := h.2 c59
    refine aw_iload C dX6_callFrom_67 4 rfl ?_
    refine aw_istore (lv' := [(4, .int x4), (0, .ref o), (1, .int x1), (2, .int x2), (3, .int x3), (5, .int x5)]) C dX6_callFrom_69 (by decide) rfl ?_
    obtain ⟨x5_71, ex5_71⟩ : ∃ y : Int32, y = x5 + 1 := ⟨_, rfl⟩
    have h := h x5_71 ex5_71
    refine aw_iinc (v := x5_71) (lv' := [(5, .int x5_71), (4, .int x4), (0, .ref o), (1, .int x1), (2, .int x2), (3, .int x3)]) C dX6_callFrom_71 5 rfl (by rw [ex5_71]; rfl) (by decide) rfl ?_
    refine aw_goto (tgt := 14) C dX6_callFrom_74 (by decide) ?_
    refine aw_lv [2, 3, 4, 5, 1, 0] rfl ?_
    exact hkH x4 x5_71 h
  have h := h.1 c59
  refine aw_iload C dX6_callFrom_62 5 rfl ?_
  refine aw_goto (tgt := 69) C dX6_callFrom_64 (by decide) ?_
  refine aw_istore (lv' := [(4, .int x5), (0, .ref o), (1, .int x1), (2, .int x2), (3, .int x3), (5, .int x5)]) C dX6_callFrom_69 (by decide) rfl ?_
  obtain ⟨x5_71, ex5_71⟩ : ∃ y : Int32, y = x5 + 1 := ⟨_, rfl⟩
  have h := h x5_71 ex5_71
  refine aw_iinc (v := x5_71) (lv' := [(5, .int x5_71), (4, .int x5), (0, .ref o), (1, .int x1), (2, .int x2), (3, .int x3)]) C dX6_callFrom_71 5 rfl (by rw [ex5_71]; rfl) (by decide) rfl ?_
  refine aw_goto (tgt := 14) C dX6_callFrom_74 (by decide) ?_
  refine aw_lv [2, 3, 4, 5, 1, 0] rfl ?_
  exact hkH x5 x5_71 h
theorem tlX6_callFrom_14 (C : ctB p s0 m args c cX6_callFrom 6 RX6 wsX6_callFrom) (K : ctK s0 D A H0 cy) {o : Nat} {ad : Nat → Nat}  {s : St} {x1 : Int32} {x2 : Int32} {x3 : Int32} {k77 : Int32 → Prop} (hk77 : ∀ (y4 : Int32), k77 y4 → atG p l e rmX6_callFrom s0 m args below meth c 0 0 Z 6 (iW D A H0 (wX6 cy o ad s)) [(0, .ref o), (4, .int y4)] [] 77) (x4 : Int32) (x5 : Int32) (h : lX6_callFrom_14 s x1 x2 x3 k77 x4 x5) : atG p l e rmX6_callFrom s0 m args below meth c 0 0 Z 6 (iW D A H0 (wX6 cy o ad s)) [(0, .ref o), (1, .int x1), (2, .int x2), (3, .int x3), (4, .int x4), (5, .int x5)] [] 14 :=
  lp_W (σ := Int32 × Int32) (P := fun q => atG p l e rmX6_callFrom s0 m args below meth c 0 0 Z 6 (iW D A H0 (wX6 cy o ad s)) [(0, .ref o), (1, .int x1), (2, .int x2), (3, .int x3), (4, .int q.1), (5, .int q.2)] [] 14) (fun K2 hK2 q hb => tbX6_callFrom_14 C K hk77 (fun x4 x5 hk => hK2 (x4, x5) hk) q.1 q.2 hb) (x4, x5) h
theorem eX6_callFrom (C : ctB p s0 m args c cX6_callFrom 6 RX6 wsX6_callFrom) (K : ctK s0 D A H0 cy) {o : Nat} {ad : Nat → Nat} {Q : Int32 → Prop} (s : St) (hQ : ∀ (v : Int32), Q v → ∀ pc, decode cX6_callFrom pc = .ok (.ireturn, 1) → atG p l e rmX6_callFrom s0 m args below meth c 0 0 Z 6 (iW D A H0 (wX6 cy o ad s)) [] [.int v] pc) (x1 : Int32) (x2 : Int32) (x3 : Int32) (h : pX6_callFrom  s x1 x2 x3 Q) : atG p l e rmX6_callFrom s0 m args below meth c 0 0 Z 6 (iW D A H0 (wX6 cy o ad s)) [(0, .ref o), (1, .int x1), (2, .int x2), (3, .int x3)] [] 0 := by
  delta pX6_callFrom at h
  refine aw_ldc (v := (-1000000)) C dX6_callFrom_0 qX6_callFrom_constant_RX6_118_1000000 ?_
  refine aw_istore (lv' := [(4, .int (-1000000)), (0, .ref o), (1, .int x1), (2, .int x2), (3, .int x3)]) C dX6_callFrom_2 (by decide) rfl ?_
  refine aw_iload_n C dX6_callFrom_4 3 rfl ?_
  refine aw_aload_n C dX6_callFrom_5 1 rfl ?_
  refine aw_getX6 C K inX6_callFrom_6 dX6_callFrom_6 6 (by decide) qX6_callFrom_fieldLink_RX6_22 0 (wX6_g ..) rfl ?_
  refine aw_iload_n C dX6_callFrom_9 2 rfl ?_
  obtain ⟨b10, h⟩ := h
  refine aw_iald C K dX6_callFrom_10 5 (wX6_g6 ..) b10 ?_
  refine aw_imul C dX6_callFrom_11 ?_
  refine aw_name (fun x5_12 ex5_12 => ?_)
  have h := h x5_12 ex5_12
  refine aw_istore (lv' := [(5, .int x5_12), (4, .int (-1000000)), (0, .ref o), (1, .int x1), (2, .int x2), (3, .int x3)]) C dX6_callFrom_12 (by decide) rfl ?_
  refine aw_lv [2, 3, 4, 5, 1, 0] rfl ?_
  refine tlX6_callFrom_14 C K ?_ (-1000000) x5_12 h
  intro z77_4 h
  refine aw_iload C dX6_callFrom_77 1 rfl ?_
  refine aw_lv [] rfl ?_
  exact hQ z77_4 h 79 dX6_callFrom_79
end SX6_callFrom
theorem mtX6_callFrom (l : Launch) (D : va_G) (cy : Nat → ClassId) (o : Nat) (ad : Nat → Nat) (s : St) (x1 : Int32) (x2 : Int32) (x3 : Int32) (Q : Int32 → Prop) (hw : pX6_callFrom  s x1 x2 x3 Q) : mI l yX6_callFrom wsX6_callFrom rmX6_callFrom D cy [.ref o, .int x1, .int x2, .int x3] (wX6 cy o ad s) (wX6 cy o ad) (fun r u => Q r ∧ u = s) :=
  metI (Wd := wX6 cy o ad) ⟨rfl, rfl⟩ (by decide) rfl (Nat.le_of_ble_eq_true rfl) (fun C K hQ => eX6_callFrom C K s (fun v hq => hQ v s ⟨hq, rfl⟩) x1 x2 x3 hw)
def rmX6_callTo : Room := { frames := 0, cells := 0, slots := 0, locals := 0 }
theorem inX6_callTo_6 : ∀ w ∈ wsX60, w ∈ wsX6_callTo := fun w h => (List.mem_cons_of_mem _ (List.mem_append_right _ h))
theorem qX6_callTo_constant_RX6_118_1000000 : Cond.constant RX6 118 (-1000000) ∈ wsX6_callTo := (List.mem_cons_of_mem _ (List.mem_append_left _ (List.mem_of_getElem? (i := 0) rfl)))
theorem qX6_callTo_fieldLink_RX6_25 : Cond.fieldLink RX6 25 "StageSwitchModel" "outer" "[I" ∈ wsX6_callTo := (List.mem_cons_of_mem _ (List.mem_append_left _ (List.mem_of_getElem? (i := 1) rfl)))
theorem qX6_callTo_fieldLink_RX6_22 : Cond.fieldLink RX6 22 "StageSwitchModel" "lines" "[I" ∈ wsX6_callTo := (List.mem_cons_of_mem _ (List.mem_append_left _ (List.mem_of_getElem? (i := 2) rfl)))
theorem qX6_callTo_fieldLink_RX6_32 : Cond.fieldLink RX6 32 "StageSwitchModel" "out" "[I" ∈ wsX6_callTo := (List.mem_cons_of_mem _ (List.mem_append_left _ (List.mem_of_getElem? (i := 3) rfl)))
theorem qX6_callTo_fieldLink_RX6_35 : Cond.fieldLink RX6 35 "StageSwitchModel" "by" "[I" ∈ wsX6_callTo := (List.mem_cons_of_mem _ (List.mem_append_left _ (List.mem_of_getElem? (i := 4) rfl)))
section SX6_callTo
variable {p : Program} {l : Launch} {e : Env} {s0 : State} {m : MethodId} {args : Array Value} {below : List Frame} {meth : Method} {c : Code} {D : va_G} {A : Nat → Prop} {H0 : Heap} {cy : Nat → ClassId} {Z : State → Prop}
theorem tbX6_callTo_7 (C : ctB p s0 m args c cX6_callTo 7 RX6 wsX6_callTo) (K : ctK s0 D A H0 cy) {o : Nat} {ad : Nat → Nat}  {s : St} {x1 : Int32} {x2 : Int32} {x3 : Int32} {k90 : Int32 → Prop} (hk90 : ∀ (y4 : Int32), k90 y4 → atG p l e rmX6_callTo s0 m args below meth c 0 0 Z 7 (iW D A H0 (wX6 cy o ad s)) [(0, .ref o), (4, .int y4)] [] 90) {kH : Int32 → Int32 → Prop} (hkH : ∀ (y4 : Int32) (y5 : Int32), kH y4 y5 → atG p l e rmX6_callTo s0 m args below meth c 0 0 Z 7 (iW D A H0 (wX6 cy o ad s)) [(0, .ref o), (1, .int x1), (2, .int x2), (3, .int x3), (4, .int y4), (5, .int y5)] [] 7) (x4 : Int32) (x5 : Int32) (h : bX6_callTo_7 s x1 x2 x3 k90 kH x4 x5) : atG p l e rmX6_callTo s0 m args below meth c 0 0 Z 7 (iW D A H0 (wX6 cy o ad s)) [(0, .ref o), (1, .int x1), (2, .int x2), (3, .int x3), (4, .int x4), (5, .int x5)] [] 7 := by
  delta bX6_callTo_7 at h
  refine aw_iload C dX6_callTo_7 5 rfl ?_
  refine aw_aload_n C dX6_callTo_9 0 rfl ?_
  refine aw_getX6 C K inX6_callTo_6 dX6_callTo_10 7 (by decide) qX6_callTo_fieldLink_RX6_25 0 (wX6_g ..) rfl ?_
  refine aw_iload_n C dX6_callTo_13 1 rfl ?_
  obtain ⟨b14, h⟩ := h
  refine aw_iald C K dX6_callTo_14 6 (wX6_g7 ..) b14 ?_
  refine aw_aload_n C dX6_callTo_15 0 rfl ?_
  refine aw_getX6 C K inX6_callTo_6 dX6_callTo_16 6 (by decide) qX6_callTo_fieldLink_RX6_22 0 (wX6_g ..) rfl ?_
  refine aw_iload_n C dX6_callTo_19 1 rfl ?_
  obtain ⟨b20, h⟩ := h
  refine aw_iald C K dX6_callTo_20 5 (wX6_g6 ..) b20 ?_
  refine aw_imul C dX6_callTo_21 ?_
  refine aw_icmp_ge (tgt := 90) C dX6_callTo_22 (by decide) (fun c22 => ?_) (fun c22 => ?_)
  · have h := h.1 c22
    refine aw_lv [0, 4] rfl ?_
    exact hk90 x4 h
  have h := h.2 c22
  refine aw_aload_n C dX6_callTo_25 0 rfl ?_
  refine aw_getX6 C K inX6_callTo_6 dX6_callTo_26 9 (by decide) qX6_callTo_fieldLink_RX6_32 0 (wX6_g ..) rfl ?_
  refine aw_bipush (v := 36) C dX6_callTo_29 (by decide) ?_
  refine aw_iload_n C dX6_callTo_31 1 rfl ?_
  refine aw_imul C dX6_callTo_32 ?_
  refine aw_iload C dX6_callTo_33 5 rfl ?_
  refine aw_iadd C dX6_callTo_35 ?_
  obtain ⟨b36, h⟩ := h
  refine aw_iald C K dX6_callTo_36 8 (wX6_g9 ..) b36 ?_
  refine aw_name (fun x6_37 ex6_37 => ?_)
  have h := h x6_37 ex6_37
  refine aw_istore (lv' := [(6, .int x6_37), (0, .ref o), (1, .int x1), (2, .int x2), (3, .int x3), (4, .int x4), (5, .int x5)]) C dX6_callTo_37 (by decide) rfl ?_
  refine aw_iload C dX6_callTo_39 0 rfl ?_
  refine aw_ldc (v := (-1000000)) C dX6_callTo_41 qX6_callTo_constant_RX6_118_1000000 ?_
  refine aw_icmp_eq (tgt := 80) C dX6_callTo_43 (by decide) (fun c43 => ?_) (fun c43 => ?_)
  · have h := h.1 c43
    refine aw_iload C dX6_callTo_80 5 rfl ?_
    refine aw_istore (lv' := [(4, .int x4), (6, .int x6_37), (0, .ref o), (1, .int x1), (2, .int x2), (3, .int x3), (5, .int x5)]) C dX6_callTo_82 (by decide) rfl ?_
    obtain ⟨x5_84, ex5_84⟩ : ∃ y : Int32, y = x5 + 1 := ⟨_, rfl⟩
    have h := h x5_84 ex5_84
    refine aw_iinc (v := x5_84) (lv' := [(5, .int x5_84), (4, .int x4), (6, .int x6_37), (0, .ref o), (1, .int x1), (2, .int x2), (3, .int x3)]) C dX6_callTo_84 6 rfl (by rw [ex5_84]; rfl) (by decide) rfl ?_
    refine aw_goto (tgt := 7) C dX6_callTo_87 (by decide) ?_
    refine aw_lv [3, 4, 5, 6, 1, 0] rfl ?_
    exact hkH x4 x5_84 h
  have h := h.2 c43
  refine aw_iload C dX6_callTo_46 0 rfl ?_
  refine aw_aload_n C dX6_callTo_48 1 rfl ?_
  refine aw_getX6 C K inX6_callTo_6 dX6_callTo_49 6 (by decide) qX6_callTo_fieldLink_RX6_22 0 (wX6_g ..) rfl ?_
  refine aw_iload_n C dX6_callTo_52 2 rfl ?_
  obtain ⟨b53, h⟩ := h
  refine aw_iald C K dX6_callTo_53 5 (wX6_g6 ..) b53 ?_
  obtain ⟨hz54, h⟩ := h
  refine aw_idiv C dX6_callTo_54 hz54 ?_
  refine aw_iload_n C dX6_callTo_55 3 rfl ?_
  refine aw_icmp_ne (tgt := 80) C dX6_callTo_56 (by decide) (fun c56 => ?_) (fun c56 => ?_)
  · have h := h.2 c56
    refine aw_iload C dX6_callTo_80 5 rfl ?_
    refine aw_istore (lv' := [(4, .int x4), (6, .int x6_37), (0, .ref o), (1, .int x1), (2, .int x2), (3, .int x3), (5, .int x5)]) C dX6_callTo_82 (by decide) rfl ?_
    obtain ⟨x5_84, ex5_84⟩ : ∃ y : Int32, y = x5 + 1 := ⟨_, rfl⟩
    have h := h x5_84 ex5_84
    refine aw_iinc (v := x5_84) (lv' := [(5, .int x5_84), (4, .int x4), (6, .int x6_37), (0, .ref o), (1, .int x1), (2, .int x2), (3, .int x3)]) C dX6_callTo_84 6 rfl (by rw [ex5_84]; rfl) (by decide) rfl ?_
    refine aw_goto (tgt := 7) C dX6_callTo_87 (by decide) ?_
    refine aw_lv [3, 4, 5, 6, 1, 0] rfl ?_
    exact hkH x4 x5_84 h
  have h := h.1 c56
  refine aw_aload_n C dX6_callTo_59 1 rfl ?_
  refine aw_getX6 C K inX6_callTo_6 dX6_callTo_60 10 (by decide) qX6_callTo_fieldLink_RX6_35 0 (wX6_g ..) rfl ?_
  refine aw_bipush (v := 36) C dX6_callTo_63 (by decide) ?_
  refine aw_iload_n C dX6_callTo_65 2 rfl ?_
  refine aw_imul C dX6_callTo_66 ?_
  refine aw_iload C dX6_callTo_67 6 rfl ?_
  refine aw_iadd C dX6_callTo_69 ?_
  obtain ⟨b70, h⟩ := h
  refine aw_iald C K dX6_callTo_70 9 (wX6_g10 ..) b70 ?_
  refine aw_iload_n C dX6_callTo_71 4 rfl ?_
  refine aw_icmp_ne (tgt := 80) C dX6_callTo_72 (by decide) (fun c72 => ?_) (fun c72 => ?_)
  · have h := h.2 c72
    refine aw_iload C dX6_callTo_80 5 rfl ?_
    refine aw_istore (lv' := [(4, .int x4), (6, .int x6_37), (0, .ref o), (1, .int x1), (2, .int x2), (3, .int x3), (5, .int x5)]) C dX6_callTo_82 (by decide) rfl ?_
    obtain ⟨x5_84, ex5_84⟩ : ∃ y : Int32, y = x5 + 1 := ⟨_, rfl⟩
    have h := h x5_84 ex5_84
    refine aw_iinc (v := x5_84) (lv' := [(5, .int x5_84), (4, .int x4), (6, .int x6_37), (0, .ref o), (1, .int x1), (2, .int x2), (3, .int x3)]) C dX6_callTo_84 6 rfl (by rw [ex5_84]; rfl) (by decide) rfl ?_
    refine aw_goto (tgt := 7) C dX6_callTo_87 (by decide) ?_
    refine aw_lv [3, 4, 5, 6, 1, 0] rfl ?_
    exact hkH x4 x5_84 h
  have h := h.1 c72
  refine aw_iload C dX6_callTo_75 6 rfl ?_
  refine aw_goto (tgt := 82) C dX6_callTo_77 (by decide) ?_
  refine aw_istore (lv' := [(4, .int x5), (6, .int x6_37), (0, .ref o), (1, .int x1), (2, .int x2), (3, .int x3), (5, .int x5)]) C dX6_callTo_82 (by decide) rfl ?_
  obtain ⟨x5_84, ex5_84⟩ : ∃ y : Int32, y = x5 + 1 := ⟨_, rfl⟩
  have h := h x5_84 ex5_84
  refine aw_iinc (v := x5_84) (lv' := [(5, .int x5_84), (4, .int x5), (6, .int x6_37), (0, .ref o), (1, .int x1), (2, .int x2), (3, .int x3)]) C dX6_callTo_84 6 rfl (by rw [ex5_84]; rfl) (by decide) rfl ?_
  refine aw_goto (tgt := 7) C dX6_callTo_87 (by decide) ?_
  refine aw_lv [3, 4, 5, 6, 1, 0] rfl ?_
  exact hkH x5 x5_84 h
theorem tlX6_callTo_7 (C : ctB p s0 m args c cX6_callTo 7 RX6 wsX6_callTo) (K : ctK s0 D A H0 cy) {o : Nat} {ad : Nat → Nat}  {s : St} {x1 : Int32} {x2 : Int32} {x3 : Int32} {k90 : Int32 → Prop} (hk90 : ∀ (y4 : Int32), k90 y4 → atG p l e rmX6_callTo s0 m args below meth c 0 0 Z 7 (iW D A H0 (wX6 cy o ad s)) [(0, .ref o), (4, .int y4)] [] 90) (x4 : Int32) (x5 : Int32) (h : lX6_callTo_7 s x1 x2 x3 k90 x4 x5) : atG p l e rmX6_callTo s0 m args below meth c 0 0 Z 7 (iW D A H0 (wX6 cy o ad s)) [(0, .ref o), (1, .int x1), (2, .int x2), (3, .int x3), (4, .int x4), (5, .int x5)] [] 7 :=
  lp_W (σ := Int32 × Int32) (P := fun q => atG p l e rmX6_callTo s0 m args below meth c 0 0 Z 7 (iW D A H0 (wX6 cy o ad s)) [(0, .ref o), (1, .int x1), (2, .int x2), (3, .int x3), (4, .int q.1), (5, .int q.2)] [] 7) (fun K2 hK2 q hb => tbX6_callTo_7 C K hk90 (fun x4 x5 hk => hK2 (x4, x5) hk) q.1 q.2 hb) (x4, x5) h
theorem eX6_callTo (C : ctB p s0 m args c cX6_callTo 7 RX6 wsX6_callTo) (K : ctK s0 D A H0 cy) {o : Nat} {ad : Nat → Nat} {Q : Int32 → Prop} (s : St) (hQ : ∀ (v : Int32), Q v → ∀ pc, decode cX6_callTo pc = .ok (.ireturn, 1) → atG p l e rmX6_callTo s0 m args below meth c 0 0 Z 7 (iW D A H0 (wX6 cy o ad s)) [] [.int v] pc) (x1 : Int32) (x2 : Int32) (x3 : Int32) (h : pX6_callTo  s x1 x2 x3 Q) : atG p l e rmX6_callTo s0 m args below meth c 0 0 Z 7 (iW D A H0 (wX6 cy o ad s)) [(0, .ref o), (1, .int x1), (2, .int x2), (3, .int x3)] [] 0 := by
  delta pX6_callTo at h
  refine aw_ldc (v := (-1000000)) C dX6_callTo_0 qX6_callTo_constant_RX6_118_1000000 ?_
  refine aw_istore (lv' := [(4, .int (-1000000)), (0, .ref o), (1, .int x1), (2, .int x2), (3, .int x3)]) C dX6_callTo_2 (by decide) rfl ?_
  refine aw_iconst (v := 0) C dX6_callTo_4 (by decide) ?_
  refine aw_istore (lv' := [(5, .int 0), (4, .int (-1000000)), (0, .ref o), (1, .int x1), (2, .int x2), (3, .int x3)]) C dX6_callTo_5 (by decide) rfl ?_
  refine aw_lv [2, 3, 4, 5, 1, 0] rfl ?_
  refine tlX6_callTo_7 C K ?_ (-1000000) 0 h
  intro z90_4 h
  refine aw_iload C dX6_callTo_90 1 rfl ?_
  refine aw_lv [] rfl ?_
  exact hQ z90_4 h 92 dX6_callTo_92
end SX6_callTo
theorem mtX6_callTo (l : Launch) (D : va_G) (cy : Nat → ClassId) (o : Nat) (ad : Nat → Nat) (s : St) (x1 : Int32) (x2 : Int32) (x3 : Int32) (Q : Int32 → Prop) (hw : pX6_callTo  s x1 x2 x3 Q) : mI l yX6_callTo wsX6_callTo rmX6_callTo D cy [.ref o, .int x1, .int x2, .int x3] (wX6 cy o ad s) (wX6 cy o ad) (fun r u => Q r ∧ u = s) :=
  metI (Wd := wX6 cy o ad) ⟨rfl, rfl⟩ (by decide) rfl (Nat.le_of_ble_eq_true rfl) (fun C K hQ => eX6_callTo C K s (fun v hq => hQ v s ⟨hq, rfl⟩) x1 x2 x3 hw)
def rmX6_isFree : Room := { frames := 1, cells := 0, slots := 0, locals := 26 }
theorem inX6_isFree_6 : ∀ w ∈ wsX60, w ∈ wsX6_isFree := fun w h => (List.mem_cons_of_mem _ (List.mem_append_right _ h))
theorem qX6_isFree_fieldLink_RX6_28 : Cond.fieldLink RX6 28 "StageSwitchModel" "isDead" "[Z" ∈ wsX6_isFree := (List.mem_cons_of_mem _ (List.mem_append_left _ (List.mem_of_getElem? (i := 0) rfl)))
theorem qX6_isFree_constant_RX6_118_1000000 : Cond.constant RX6 118 (-1000000) ∈ wsX6_isFree := (List.mem_cons_of_mem _ (List.mem_append_left _ (List.mem_of_getElem? (i := 1) rfl)))
section SX6_isFree
variable {p : Program} {l : Launch} {e : Env} {s0 : State} {m : MethodId} {args : Array Value} {below : List Frame} {meth : Method} {c : Code} {D : va_G} {A : Nat → Prop} {H0 : Heap} {cy : Nat → ClassId} {Z : State → Prop}
theorem eX6_isFree (C : ctB p s0 m args c cX6_isFree 5 RX6 wsX6_isFree) (K : ctK s0 D A H0 cy) {o : Nat} {ad : Nat → Nat} {Q : Int32 → Prop} (s : St) (hQ : ∀ (v : Int32), narrow .boolean (.int v) = .int v → Q v → ∀ pc, decode cX6_isFree pc = .ok (.ireturn, 1) → atG p l e rmX6_isFree s0 m args below meth c 0 0 Z 5 (iW D A H0 (wX6 cy o ad s)) [] [.int v] pc) (x1 : Int32) (x2 : Int32) (x3 : Int32) (x4 : Int32) (h : pX6_isFree  s x1 x2 x3 x4 Q) : atG p l e rmX6_isFree s0 m args below meth c 0 0 Z 5 (iW D A H0 (wX6 cy o ad s)) [(0, .ref o), (1, .int x1), (2, .int x2), (3, .int x3), (4, .int x4)] [] 0 := by
  delta pX6_isFree at h
  refine aw_aload_n C dX6_isFree_0 0 rfl ?_
  refine aw_getX6 C K inX6_isFree_6 dX6_isFree_1 8 (by decide) qX6_isFree_fieldLink_RX6_28 0 (wX6_g ..) rfl ?_
  refine aw_bipush (v := 12) C dX6_isFree_4 (by decide) ?_
  refine aw_iload_n C dX6_isFree_6 1 rfl ?_
  refine aw_imul C dX6_isFree_7 ?_
  refine aw_iload C dX6_isFree_8 4 rfl ?_
  refine aw_iadd C dX6_isFree_10 ?_
  obtain ⟨b11, h⟩ := h
  refine aw_zald C K dX6_isFree_11 7 (wX6_g8 ..) b11 ?_
  refine aw_if_ne (tgt := 45) C dX6_isFree_12 (by decide) (fun c12 => ?_) (fun c12 => ?_)
  · have h := h.2 c12
    refine aw_iconst (v := 0) C dX6_isFree_45 (by decide) ?_
    refine aw_lv [] rfl ?_
    exact hQ 0 rfl h 46 dX6_isFree_46
  have h := h.1 c12
  refine aw_aload_n C dX6_isFree_15 0 rfl ?_
  refine aw_iload_n C dX6_isFree_16 1 rfl ?_
  refine aw_iload_n C dX6_isFree_17 2 rfl ?_
  refine aw_iload C dX6_isFree_18 4 rfl ?_
  refine aw_callI (As := [.int x1, .int x2, .int x4]) (rest := []) C K (mtX6_callFrom l D cy o ad s x1 x2 x4 _ h) (cwV 3 C.2.2.2.2.1 gX6_isFree_X6_callFrom rfl rfl rfl (by decide +kernel) ⟨Nat.le_of_ble_eq_true rfl, Nat.le_of_ble_eq_true rfl⟩) 0 6 (wX6_g ..) rfl rfl rfl rfl (Nat.le_of_ble_eq_true rfl) ⟨Nat.le_of_ble_eq_true rfl, Nat.le_of_ble_eq_true rfl⟩ dX6_isFree_20 (fun r20 s20 h => ?_)
  obtain ⟨h, hu20⟩ := h
  rw [hu20]
  refine aw_ldc (v := (-1000000)) C dX6_isFree_23 qX6_isFree_constant_RX6_118_1000000 ?_
  refine aw_icmp_ne (tgt := 45) C dX6_isFree_25 (by decide) (fun c25 => ?_) (fun c25 => ?_)
  · have h := h.2 c25
    refine aw_iconst (v := 0) C dX6_isFree_45 (by decide) ?_
    refine aw_lv [] rfl ?_
    exact hQ 0 rfl h 46 dX6_isFree_46
  have h := h.1 c25
  refine aw_aload_n C dX6_isFree_28 0 rfl ?_
  refine aw_iload_n C dX6_isFree_29 1 rfl ?_
  refine aw_iload_n C dX6_isFree_30 3 rfl ?_
  refine aw_iload C dX6_isFree_31 4 rfl ?_
  refine aw_callI (As := [.int x1, .int x3, .int x4]) (rest := []) C K (mtX6_callTo l D cy o ad s x1 x3 x4 _ h) (cwV 3 C.2.2.2.2.1 gX6_isFree_X6_callTo rfl rfl rfl (by decide +kernel) ⟨Nat.le_of_ble_eq_true rfl, Nat.le_of_ble_eq_true rfl⟩) 0 6 (wX6_g ..) rfl rfl rfl rfl (Nat.le_of_ble_eq_true rfl) ⟨Nat.le_of_ble_eq_true rfl, Nat.le_of_ble_eq_true rfl⟩ dX6_isFree_33 (fun r33 s33 h => ?_)
  obtain ⟨h, hu33⟩ := h
  rw [hu33]
  refine aw_ldc (v := (-1000000)) C dX6_isFree_36 qX6_isFree_constant_RX6_118_1000000 ?_
  refine aw_icmp_ne (tgt := 45) C dX6_isFree_38 (by decide) (fun c38 => ?_) (fun c38 => ?_)
  · have h := h.2 c38
    refine aw_iconst (v := 0) C dX6_isFree_45 (by decide) ?_
    refine aw_lv [] rfl ?_
    exact hQ 0 rfl h 46 dX6_isFree_46
  have h := h.1 c38
  refine aw_iconst (v := 1) C dX6_isFree_41 (by decide) ?_
  refine aw_goto (tgt := 46) C dX6_isFree_42 (by decide) ?_
  refine aw_lv [] rfl ?_
  exact hQ 1 rfl h 46 dX6_isFree_46
end SX6_isFree
theorem mtX6_isFree (l : Launch) (D : va_G) (cy : Nat → ClassId) (o : Nat) (ad : Nat → Nat) (s : St) (x1 : Int32) (x2 : Int32) (x3 : Int32) (x4 : Int32) (Q : Int32 → Prop) (hw : pX6_isFree  s x1 x2 x3 x4 Q) : mI l yX6_isFree wsX6_isFree rmX6_isFree D cy [.ref o, .int x1, .int x2, .int x3, .int x4] (wX6 cy o ad s) (wX6 cy o ad) (fun r u => Q r ∧ u = s) :=
  metZ (ty := .boolean) (Wd := wX6 cy o ad) ⟨rfl, rfl⟩ (by decide) rfl (Nat.le_of_ble_eq_true rfl) (fun C K hQ => eX6_isFree C K s (fun v hn hq => hQ v s hn ⟨hq, rfl⟩) x1 x2 x3 x4 hw)
def rmX6_findChain : Room := { frames := 1, cells := 0, slots := 0, locals := 26 }
theorem inX6_findChain_6 : ∀ w ∈ wsX60, w ∈ wsX6_findChain := fun w h => (List.mem_cons_of_mem _ (List.mem_append_right _ h))
theorem qX6_findChain_fieldLink_RX6_157 : Cond.fieldLink RX6 157 "StageSwitchModel" "chained" "I" ∈ wsX6_findChain := (List.mem_cons_of_mem _ (List.mem_append_left _ (List.mem_of_getElem? (i := 0) rfl)))
theorem qX6_findChain_constant_RX6_118_1000000 : Cond.constant RX6 118 (-1000000) ∈ wsX6_findChain := (List.mem_cons_of_mem _ (List.mem_append_left _ (List.mem_of_getElem? (i := 1) rfl)))
theorem qX6_findChain_fieldLink_RX6_41 : Cond.fieldLink RX6 41 "StageSwitchModel" "chain" "[I" ∈ wsX6_findChain := (List.mem_cons_of_mem _ (List.mem_append_left _ (List.mem_of_getElem? (i := 2) rfl)))
theorem qX6_findChain_fieldLink_RX6_32 : Cond.fieldLink RX6 32 "StageSwitchModel" "out" "[I" ∈ wsX6_findChain := (List.mem_cons_of_mem _ (List.mem_append_left _ (List.mem_of_getElem? (i := 4) rfl)))
theorem qX6_findChain_fieldLink_RX6_22 : Cond.fieldLink RX6 22 "StageSwitchModel" "lines" "[I" ∈ wsX6_findChain := (List.mem_cons_of_mem _ (List.mem_append_left _ (List.mem_of_getElem? (i := 3) rfl)))
section SX6_findChain
variable {p : Program} {l : Launch} {e : Env} {s0 : State} {m : MethodId} {args : Array Value} {below : List Frame} {meth : Method} {c : Code} {D : va_G} {A : Nat → Prop} {H0 : Heap} {cy : Nat → ClassId} {Z : State → Prop}
theorem tbX6_findChain_17 (C : ctB p s0 m args c cX6_findChain 7 RX6 wsX6_findChain) (K : ctK s0 D A H0 cy) {o : Nat} {ad : Nat → Nat}  {x1 : Int32} {x3 : Int32} {x4 : Int32} {k111 : St → Prop} (hk111 : ∀ (s : St), k111 s → atG p l e rmX6_findChain s0 m args below meth c 0 0 Z 7 (iW D A H0 (wX6 cy o ad s)) [(0, .ref o)] [] 111) {kH : St → Int32 → Int32 → Prop} (hkH : ∀ (s : St) (y5 : Int32) (y6 : Int32), kH s y5 y6 → atG p l e rmX6_findChain s0 m args below meth c 0 0 Z 7 (iW D A H0 (wX6 cy o ad s)) [(0, .ref o), (1, .int x1), (3, .int x3), (4, .int x4), (5, .int y5), (6, .int y6)] [] 17) (s : St) (x5 : Int32) (x6 : Int32) (h : bX6_findChain_17 x1 x3 x4 k111 kH s x5 x6) : atG p l e rmX6_findChain s0 m args below meth c 0 0 Z 7 (iW D A H0 (wX6 cy o ad s)) [(0, .ref o), (1, .int x1), (3, .int x3), (4, .int x4), (5, .int x5), (6, .int x6)] [] 17 := by
  delta bX6_findChain_17 at h
  refine aw_iload C dX6_findChain_17 4 rfl ?_
  refine aw_ldc (v := (-1000000)) C dX6_findChain_19 qX6_findChain_constant_RX6_118_1000000 ?_
  refine aw_icmp_eq (tgt := 111) C dX6_findChain_21 (by decide) (fun c21 => ?_) (fun c21 => ?_)
  · have h := h.1 c21
    refine aw_lv [0] rfl ?_
    exact hk111 s h
  have h := h.2 c21
  refine aw_aload_n C dX6_findChain_24 0 rfl ?_
  refine aw_getX6 C K inX6_findChain_6 dX6_findChain_25 14 (by decide) qX6_findChain_fieldLink_RX6_41 0 (wX6_g ..) rfl ?_
  refine aw_aload_n C dX6_findChain_28 0 rfl ?_
  refine aw_getX6 C K inX6_findChain_6 dX6_findChain_29 13 (by decide) qX6_findChain_fieldLink_RX6_157 0 (wX6_g ..) rfl ?_
  refine aw_iload C dX6_findChain_32 4 rfl ?_
  obtain ⟨b34, h⟩ := h
  refine aw_iast C K dX6_findChain_34 11 (wX6_g14 ..) (wX6_s14 ..) b34 ?_
  obtain ⟨s34, es34⟩ : ∃ z, z = (uA s 14 (upd (sA s 14) (sF s 13).toNatClampNeg x5)) := ⟨_, rfl⟩
  rw [← es34]
  have h := h s34 es34
  refine aw_aload_n C dX6_findChain_35 0 rfl ?_
  refine aw_dup C dX6_findChain_36 rfl ?_
  refine aw_getX6 C K inX6_findChain_6 dX6_findChain_37 13 (by decide) qX6_findChain_fieldLink_RX6_157 0 (wX6_g ..) rfl ?_
  refine aw_iconst (v := 1) C dX6_findChain_40 (by decide) ?_
  refine aw_iadd C dX6_findChain_41 ?_
  refine aw_putX6 (ty := .int) C K inX6_findChain_6 dX6_findChain_42 13 (by decide) qX6_findChain_fieldLink_RX6_157 0 (wX6_g ..) rfl (by decide +kernel) rfl rfl (Nat.le_of_ble_eq_true rfl) (wX6_p13 ..) ?_
  obtain ⟨s42, es42⟩ : ∃ z, z = (uF s34 13 ((sF s34 13) + 1)) := ⟨_, rfl⟩
  rw [← es42]
  have h := h s42 es42
  refine aw_iload C dX6_findChain_45 5 rfl ?_
  refine aw_if_eq (tgt := 69) C dX6_findChain_47 (by decide) (fun c47 => ?_) (fun c47 => ?_)
  · have h := h.1 c47
    refine aw_aload_n C dX6_findChain_69 0 rfl ?_
    refine aw_iload_n C dX6_findChain_70 1 rfl ?_
    refine aw_aload_n C dX6_findChain_71 0 rfl ?_
    refine aw_getX6 C K inX6_findChain_6 dX6_findChain_72 9 (by decide) qX6_findChain_fieldLink_RX6_32 0 (wX6_g ..) rfl ?_
    refine aw_bipush (v := 36) C dX6_findChain_75 (by decide) ?_
    refine aw_iload_n C dX6_findChain_77 1 rfl ?_
    refine aw_imul C dX6_findChain_78 ?_
    refine aw_iload C dX6_findChain_79 4 rfl ?_
    refine aw_iadd C dX6_findChain_81 ?_
    obtain ⟨b82, h⟩ := h
    refine aw_iald C K dX6_findChain_82 8 (wX6_g9 ..) b82 ?_
    refine aw_aload_n C dX6_findChain_83 0 rfl ?_
    refine aw_getX6 C K inX6_findChain_6 dX6_findChain_84 6 (by decide) qX6_findChain_fieldLink_RX6_22 0 (wX6_g ..) rfl ?_
    refine aw_iload_n C dX6_findChain_87 1 rfl ?_
    obtain ⟨b88, h⟩ := h
    refine aw_iald C K dX6_findChain_88 5 (wX6_g6 ..) b88 ?_
    obtain ⟨hz89, h⟩ := h
    refine aw_idiv C dX6_findChain_89 hz89 ?_
    refine aw_name (fun v89 ev89 => ?_)
    have h := h v89 ev89
    refine aw_iload_n C dX6_findChain_90 2 rfl ?_
    refine aw_callI (As := [.int x1, .int v89, .int x3]) (rest := []) C K (mtX6_callTo l D cy o ad s42 x1 v89 x3 _ h) (cwV 3 C.2.2.2.2.1 gX6_findChain_X6_callTo rfl rfl rfl (by decide +kernel) ⟨Nat.le_of_ble_eq_true rfl, Nat.le_of_ble_eq_true rfl⟩) 0 6 (wX6_g ..) rfl rfl rfl rfl (Nat.le_of_ble_eq_true rfl) ⟨Nat.le_of_ble_eq_true rfl, Nat.le_of_ble_eq_true rfl⟩ dX6_findChain_91 (fun r91 s91 h => ?_)
    obtain ⟨h, hu91⟩ := h
    rw [hu91]
    refine aw_istore (lv' := [(5, .int r91), (0, .ref o), (1, .int x1), (3, .int x3), (4, .int x4), (6, .int x6)]) C dX6_findChain_94 (by decide) rfl ?_
    refine aw_iload C dX6_findChain_96 5 rfl ?_
    refine aw_if_ne (tgt := 105) C dX6_findChain_98 (by decide) (fun c98 => ?_) (fun c98 => ?_)
    · have h := h.2 c98
      refine aw_iconst (v := 0) C dX6_findChain_105 (by decide) ?_
      refine aw_istore (lv' := [(6, .int 0), (5, .int r91), (0, .ref o), (1, .int x1), (3, .int x3), (4, .int x4)]) C dX6_findChain_106 (by decide) rfl ?_
      refine aw_goto (tgt := 17) C dX6_findChain_108 (by decide) ?_
      refine aw_lv [2, 3, 4, 5, 1, 0] rfl ?_
      exact hkH s42 r91 0 h
    have h := h.1 c98
    refine aw_iconst (v := 1) C dX6_findChain_101 (by decide) ?_
    refine aw_goto (tgt := 106) C dX6_findChain_102 (by decide) ?_
    refine aw_istore (lv' := [(6, .int 1), (5, .int r91), (0, .ref o), (1, .int x1), (3, .int x3), (4, .int x4)]) C dX6_findChain_106 (by decide) rfl ?_
    refine aw_goto (tgt := 17) C dX6_findChain_108 (by decide) ?_
    refine aw_lv [2, 3, 4, 5, 1, 0] rfl ?_
    exact hkH s42 r91 1 h
  have h := h.2 c47
  refine aw_aload_n C dX6_findChain_50 0 rfl ?_
  refine aw_iload_n C dX6_findChain_51 1 rfl ?_
  refine aw_iload C dX6_findChain_52 4 rfl ?_
  refine aw_aload_n C dX6_findChain_54 0 rfl ?_
  refine aw_getX6 C K inX6_findChain_6 dX6_findChain_55 6 (by decide) qX6_findChain_fieldLink_RX6_22 0 (wX6_g ..) rfl ?_
  refine aw_iload_n C dX6_findChain_58 1 rfl ?_
  obtain ⟨b59, h⟩ := h
  refine aw_iald C K dX6_findChain_59 5 (wX6_g6 ..) b59 ?_
  obtain ⟨hz60, h⟩ := h
  refine aw_idiv C dX6_findChain_60 hz60 ?_
  refine aw_iload C dX6_findChain_61 3 rfl ?_
  refine aw_callI (As := [.int x1, .int (x5 / (sA s42 6 x1.toNatClampNeg)), .int x4]) (rest := []) C K (mtX6_callFrom l D cy o ad s42 x1 (x5 / (sA s42 6 x1.toNatClampNeg)) x4 _ h) (cwV 3 C.2.2.2.2.1 gX6_findChain_X6_callFrom rfl rfl rfl (by decide +kernel) ⟨Nat.le_of_ble_eq_true rfl, Nat.le_of_ble_eq_true rfl⟩) 0 6 (wX6_g ..) rfl rfl rfl rfl (Nat.le_of_ble_eq_true rfl) ⟨Nat.le_of_ble_eq_true rfl, Nat.le_of_ble_eq_true rfl⟩ dX6_findChain_63 (fun r63 s63 h => ?_)
  obtain ⟨h, hu63⟩ := h
  rw [hu63]
  refine aw_goto (tgt := 94) C dX6_findChain_66 (by decide) ?_
  refine aw_istore (lv' := [(5, .int r63), (0, .ref o), (1, .int x1), (3, .int x3), (4, .int x4), (6, .int x6)]) C dX6_findChain_94 (by decide) rfl ?_
  refine aw_iload C dX6_findChain_96 5 rfl ?_
  refine aw_if_ne (tgt := 105) C dX6_findChain_98 (by decide) (fun c98 => ?_) (fun c98 => ?_)
  · have h := h.2 c98
    refine aw_iconst (v := 0) C dX6_findChain_105 (by decide) ?_
    refine aw_istore (lv' := [(6, .int 0), (5, .int r63), (0, .ref o), (1, .int x1), (3, .int x3), (4, .int x4)]) C dX6_findChain_106 (by decide) rfl ?_
    refine aw_goto (tgt := 17) C dX6_findChain_108 (by decide) ?_
    refine aw_lv [2, 3, 4, 5, 1, 0] rfl ?_
    exact hkH s42 r63 0 h
  have h := h.1 c98
  refine aw_iconst (v := 1) C dX6_findChain_101 (by decide) ?_
  refine aw_goto (tgt := 106) C dX6_findChain_102 (by decide) ?_
  refine aw_istore (lv' := [(6, .int 1), (5, .int r63), (0, .ref o), (1, .int x1), (3, .int x3), (4, .int x4)]) C dX6_findChain_106 (by decide) rfl ?_
  refine aw_goto (tgt := 17) C dX6_findChain_108 (by decide) ?_
  refine aw_lv [2, 3, 4, 5, 1, 0] rfl ?_
  exact hkH s42 r63 1 h
theorem tlX6_findChain_17 (C : ctB p s0 m args c cX6_findChain 7 RX6 wsX6_findChain) (K : ctK s0 D A H0 cy) {o : Nat} {ad : Nat → Nat}  {x1 : Int32} {x3 : Int32} {x4 : Int32} {k111 : St → Prop} (hk111 : ∀ (s : St), k111 s → atG p l e rmX6_findChain s0 m args below meth c 0 0 Z 7 (iW D A H0 (wX6 cy o ad s)) [(0, .ref o)] [] 111) (s : St) (x5 : Int32) (x6 : Int32) (h : lX6_findChain_17 x1 x3 x4 k111 s x5 x6) : atG p l e rmX6_findChain s0 m args below meth c 0 0 Z 7 (iW D A H0 (wX6 cy o ad s)) [(0, .ref o), (1, .int x1), (3, .int x3), (4, .int x4), (5, .int x5), (6, .int x6)] [] 17 :=
  lp_W (σ := St × Int32 × Int32) (P := fun q => atG p l e rmX6_findChain s0 m args below meth c 0 0 Z 7 (iW D A H0 (wX6 cy o ad q.1)) [(0, .ref o), (1, .int x1), (3, .int x3), (4, .int x4), (5, .int q.2.1), (6, .int q.2.2)] [] 17) (fun K2 hK2 q hb => tbX6_findChain_17 C K hk111 (fun s x5 x6 hk => hK2 (s, x5, x6) hk) q.1 q.2.1 q.2.2 hb) (s, x5, x6) h
theorem eX6_findChain (C : ctB p s0 m args c cX6_findChain 7 RX6 wsX6_findChain) (K : ctK s0 D A H0 cy) {o : Nat} {ad : Nat → Nat} {Q : St → Prop} (hQ : ∀ (u : St), Q u → ∀ pc, decode cX6_findChain pc = .ok (.return_, 1) → atG p l e rmX6_findChain s0 m args below meth c 0 0 Z 7 (iW D A H0 (wX6 cy o ad u)) [] [] pc) (s : St) (x1 : Int32) (x2 : Int32) (x3 : Int32) (x4 : Int32) (h : pX6_findChain  s x1 x2 x3 x4 Q) : atG p l e rmX6_findChain s0 m args below meth c 0 0 Z 7 (iW D A H0 (wX6 cy o ad s)) [(0, .ref o), (1, .int x1), (2, .int x2), (3, .int x3), (4, .int x4)] [] 0 := by
  delta pX6_findChain at h
  refine aw_aload_n C dX6_findChain_0 0 rfl ?_
  refine aw_iconst (v := 0) C dX6_findChain_1 (by decide) ?_
  refine aw_putX6 (ty := .int) C K inX6_findChain_6 dX6_findChain_2 13 (by decide) qX6_findChain_fieldLink_RX6_157 0 (wX6_g ..) rfl (by decide +kernel) rfl rfl (Nat.le_of_ble_eq_true rfl) (wX6_p13 ..) ?_
  obtain ⟨s2, es2⟩ : ∃ z, z = (uF s 13 0) := ⟨_, rfl⟩
  rw [← es2]
  have h := h s2 es2
  refine aw_aload_n C dX6_findChain_5 0 rfl ?_
  refine aw_iload_n C dX6_findChain_6 1 rfl ?_
  refine aw_iload_n C dX6_findChain_7 2 rfl ?_
  refine aw_iload_n C dX6_findChain_8 3 rfl ?_
  refine aw_callI (As := [.int x1, .int x2, .int x3]) (rest := []) C K (mtX6_callTo l D cy o ad s2 x1 x2 x3 _ h) (cwV 3 C.2.2.2.2.1 gX6_findChain_X6_callTo rfl rfl rfl (by decide +kernel) ⟨Nat.le_of_ble_eq_true rfl, Nat.le_of_ble_eq_true rfl⟩) 0 6 (wX6_g ..) rfl rfl rfl rfl (Nat.le_of_ble_eq_true rfl) ⟨Nat.le_of_ble_eq_true rfl, Nat.le_of_ble_eq_true rfl⟩ dX6_findChain_9 (fun r9 s9 h => ?_)
  obtain ⟨h, hu9⟩ := h
  rw [hu9]
  refine aw_istore (lv' := [(5, .int r9), (0, .ref o), (1, .int x1), (2, .int x2), (3, .int x3), (4, .int x4)]) C dX6_findChain_12 (by decide) rfl ?_
  refine aw_iconst (v := 1) C dX6_findChain_14 (by decide) ?_
  refine aw_istore (lv' := [(6, .int 1), (5, .int r9), (0, .ref o), (1, .int x1), (2, .int x2), (3, .int x3), (4, .int x4)]) C dX6_findChain_15 (by decide) rfl ?_
  refine aw_lv [2, 3, 5, 6, 1, 0] rfl ?_
  refine tlX6_findChain_17 C K ?_ s2 r9 1 h
  intro s_111 h
  refine aw_lv [] rfl ?_
  exact hQ s_111 h 111 dX6_findChain_111
end SX6_findChain
theorem mtX6_findChain (l : Launch) (D : va_G) (cy : Nat → ClassId) (o : Nat) (ad : Nat → Nat) (s : St) (x1 : Int32) (x2 : Int32) (x3 : Int32) (x4 : Int32) (Q : St → Prop) (hw : pX6_findChain  s x1 x2 x3 x4 Q) : mV l yX6_findChain wsX6_findChain rmX6_findChain D cy [.ref o, .int x1, .int x2, .int x3, .int x4] (wX6 cy o ad s) (wX6 cy o ad) Q :=
  metV (Wd := wX6 cy o ad) ⟨rfl, rfl⟩ (by decide) rfl (Nat.le_of_ble_eq_true rfl) (fun C K hQ => eX6_findChain C K hQ s x1 x2 x3 x4 hw)
def rmX6_best : Room := { frames := 2, cells := 0, slots := 0, locals := 52 }
theorem inX6_best_6 : ∀ w ∈ wsX60, w ∈ wsX6_best := fun w h => (List.mem_cons_of_mem _ (List.mem_append_right _ h))
theorem qX6_best_fieldLink_RX6_19 : Cond.fieldLink RX6 19 "StageSwitchModel" "middles" "[I" ∈ wsX6_best := (List.mem_cons_of_mem _ (List.mem_append_left _ (List.mem_append_left _ (List.mem_of_getElem? (i := 0) rfl))))
theorem qX6_best_fieldLink_RX6_164 : Cond.fieldLink RX6 164 "StageSwitchModel" "bestX" "I" ∈ wsX6_best := (List.mem_cons_of_mem _ (List.mem_append_left _ (List.mem_append_left _ (List.mem_of_getElem? (i := 1) rfl))))
theorem qX6_best_constant_RX6_118_1000000 : Cond.constant RX6 118 (-1000000) ∈ wsX6_best := (List.mem_cons_of_mem _ (List.mem_append_left _ (List.mem_append_left _ (List.mem_of_getElem? (i := 2) rfl))))
theorem qX6_best_fieldLink_RX6_167 : Cond.fieldLink RX6 167 "StageSwitchModel" "bestY" "I" ∈ wsX6_best := (List.mem_cons_of_mem _ (List.mem_append_left _ (List.mem_append_left _ (List.mem_of_getElem? (i := 3) rfl))))
theorem qX6_best_fieldLink_RX6_28 : Cond.fieldLink RX6 28 "StageSwitchModel" "isDead" "[Z" ∈ wsX6_best := (List.mem_cons_of_mem _ (List.mem_append_left _ (List.mem_append_left _ (List.mem_of_getElem? (i := 4) rfl))))
theorem qX6_best_fieldLink_RX6_157 : Cond.fieldLink RX6 157 "StageSwitchModel" "chained" "I" ∈ wsX6_best := (List.mem_cons_of_mem _ (List.mem_append_left _ (List.mem_append_left _ (List.mem_of_getElem? (i := 5) rfl))))
section SX6_best
variable {p : Program} {l : Launch} {e : Env} {s0 : State} {m : MethodId} {args : Array Value} {below : List Frame} {meth : Method} {c : Code} {D : va_G} {A : Nat → Prop} {H0 : Heap} {cy : Nat → ClassId} {Z : State → Prop}
theorem tbX6_best_3 (C : ctB p s0 m args c cX6_best 7 RX6 wsX6_best) (K : ctK s0 D A H0 cy) {o : Nat} {ad : Nat → Nat}  {s : St} {x1 : Int32} {x2 : Int32} {x3 : Int32} {k26 : Int32 → Prop} {k46 : Prop} (hk26 : ∀ (y4 : Int32), k26 y4 → atG p l e rmX6_best s0 m args below meth c 0 0 Z 7 (iW D A H0 (wX6 cy o ad s)) [(0, .ref o), (4, .int y4)] [] 26) (hk46 : k46 → atG p l e rmX6_best s0 m args below meth c 0 0 Z 7 (iW D A H0 (wX6 cy o ad s)) [(0, .ref o), (1, .int x1), (2, .int x2), (3, .int x3)] [] 46) {kH : Int32 → Prop} (hkH : ∀ (y4 : Int32), kH y4 → atG p l e rmX6_best s0 m args below meth c 0 0 Z 7 (iW D A H0 (wX6 cy o ad s)) [(0, .ref o), (1, .int x1), (2, .int x2), (3, .int x3), (4, .int y4)] [] 3) (x4 : Int32) (h : bX6_best_3 s x1 x2 x3 k26 k46 kH x4) : atG p l e rmX6_best s0 m args below meth c 0 0 Z 7 (iW D A H0 (wX6 cy o ad s)) [(0, .ref o), (1, .int x1), (2, .int x2), (3, .int x3), (4, .int x4)] [] 3 := by
  delta bX6_best_3 at h
  refine aw_iload C dX6_best_3 4 rfl ?_
  refine aw_aload_n C dX6_best_5 0 rfl ?_
  refine aw_getX6 C K inX6_best_6 dX6_best_6 5 (by decide) qX6_best_fieldLink_RX6_19 0 (wX6_g ..) rfl ?_
  refine aw_iload_n C dX6_best_9 1 rfl ?_
  obtain ⟨b10, h⟩ := h
  refine aw_iald C K dX6_best_10 4 (wX6_g5 ..) b10 ?_
  refine aw_icmp_ge (tgt := 46) C dX6_best_11 (by decide) (fun c11 => ?_) (fun c11 => ?_)
  · have h := h.1 c11
    refine aw_lv [0, 1, 2, 3] rfl ?_
    exact hk46 h
  have h := h.2 c11
  refine aw_aload_n C dX6_best_14 0 rfl ?_
  refine aw_iload_n C dX6_best_15 1 rfl ?_
  refine aw_iload_n C dX6_best_16 2 rfl ?_
  refine aw_iload_n C dX6_best_17 3 rfl ?_
  refine aw_iload C dX6_best_18 4 rfl ?_
  refine aw_callI (As := [.int x1, .int x2, .int x3, .int x4]) (rest := []) C K (mtX6_isFree l D cy o ad s x1 x2 x3 x4 _ h) (cwV 4 C.2.2.2.2.1 gX6_best_X6_isFree rfl rfl rfl (by decide +kernel) ⟨Nat.le_of_ble_eq_true rfl, Nat.le_of_ble_eq_true rfl⟩) 0 6 (wX6_g ..) rfl rfl rfl rfl (Nat.le_of_ble_eq_true rfl) ⟨Nat.le_of_ble_eq_true rfl, Nat.le_of_ble_eq_true rfl⟩ dX6_best_20 (fun r20 s20 h => ?_)
  obtain ⟨h, hu20⟩ := h
  rw [hu20]
  refine aw_if_eq (tgt := 40) C dX6_best_23 (by decide) (fun c23 => ?_) (fun c23 => ?_)
  · have h := h.1 c23
    obtain ⟨x4_40, ex4_40⟩ : ∃ y : Int32, y = x4 + 1 := ⟨_, rfl⟩
    have h := h x4_40 ex4_40
    refine aw_iinc (v := x4_40) (lv' := [(4, .int x4_40), (0, .ref o), (1, .int x1), (2, .int x2), (3, .int x3)]) C dX6_best_40 4 rfl (by rw [ex4_40]; rfl) (by decide) rfl ?_
    refine aw_goto (tgt := 3) C dX6_best_43 (by decide) ?_
    refine aw_lv [1, 2, 3, 4, 0] rfl ?_
    exact hkH x4_40 h
  have h := h.2 c23
  refine aw_lv [0, 4] rfl ?_
  exact hk26 x4 h
theorem tlX6_best_3 (C : ctB p s0 m args c cX6_best 7 RX6 wsX6_best) (K : ctK s0 D A H0 cy) {o : Nat} {ad : Nat → Nat}  {s : St} {x1 : Int32} {x2 : Int32} {x3 : Int32} {k26 : Int32 → Prop} {k46 : Prop} (hk26 : ∀ (y4 : Int32), k26 y4 → atG p l e rmX6_best s0 m args below meth c 0 0 Z 7 (iW D A H0 (wX6 cy o ad s)) [(0, .ref o), (4, .int y4)] [] 26) (hk46 : k46 → atG p l e rmX6_best s0 m args below meth c 0 0 Z 7 (iW D A H0 (wX6 cy o ad s)) [(0, .ref o), (1, .int x1), (2, .int x2), (3, .int x3)] [] 46) (x4 : Int32) (h : lX6_best_3 s x1 x2 x3 k26 k46 x4) : atG p l e rmX6_best s0 m args below meth c 0 0 Z 7 (iW D A H0 (wX6 cy o ad s)) [(0, .ref o), (1, .int x1), (2, .int x2), (3, .int x3), (4, .int x4)] [] 3 :=
  lp_W (σ := Int32) (P := fun q => atG p l e rmX6_best s0 m args below meth c 0 0 Z 7 (iW D A H0 (wX6 cy o ad s)) [(0, .ref o), (1, .int x1), (2, .int x2), (3, .int x3), (4, .int q)] [] 3) (fun K2 hK2 q hb => tbX6_best_3 C K hk26 hk46 (fun x4 hk => hK2 x4 hk) q hb) x4 h
theorem tbX6_best_67 (C : ctB p s0 m args c cX6_best 7 RX6 wsX6_best) (K : ctK s0 D A H0 cy) {o : Nat} {ad : Nat → Nat}  {x1 : Int32} {x2 : Int32} {x3 : Int32} {x5 : Int32} {k184 : St → Int32 → Prop} (hk184 : ∀ (s : St) (y4 : Int32), k184 s y4 → atG p l e rmX6_best s0 m args below meth c 0 0 Z 7 (iW D A H0 (wX6 cy o ad s)) [(0, .ref o), (1, .int x1), (2, .int x2), (3, .int x3), (4, .int y4), (5, .int x5)] [] 184) {kH : St → Int32 → Int32 → Prop} (hkH : ∀ (s : St) (y4 : Int32) (y6 : Int32), kH s y4 y6 → atG p l e rmX6_best s0 m args below meth c 0 0 Z 7 (iW D A H0 (wX6 cy o ad s)) [(0, .ref o), (1, .int x1), (2, .int x2), (3, .int x3), (4, .int y4), (5, .int x5), (6, .int y6)] [] 67) (s : St) (x4 : Int32) (x6 : Int32) (h : bX6_best_67 x1 x2 x3 x5 k184 kH s x4 x6) : atG p l e rmX6_best s0 m args below meth c 0 0 Z 7 (iW D A H0 (wX6 cy o ad s)) [(0, .ref o), (1, .int x1), (2, .int x2), (3, .int x3), (4, .int x4), (5, .int x5), (6, .int x6)] [] 67 := by
  delta bX6_best_67 at h
  refine aw_iload C dX6_best_67 6 rfl ?_
  refine aw_aload_n C dX6_best_69 0 rfl ?_
  refine aw_getX6 C K inX6_best_6 dX6_best_70 5 (by decide) qX6_best_fieldLink_RX6_19 0 (wX6_g ..) rfl ?_
  refine aw_iload_n C dX6_best_73 1 rfl ?_
  obtain ⟨b74, h⟩ := h
  refine aw_iald C K dX6_best_74 4 (wX6_g5 ..) b74 ?_
  refine aw_icmp_ge (tgt := 184) C dX6_best_75 (by decide) (fun c75 => ?_) (fun c75 => ?_)
  · have h := h.1 c75
    refine aw_lv [0, 1, 2, 3, 4, 5] rfl ?_
    exact hk184 s x4 h
  have h := h.2 c75
  refine aw_aload_n C dX6_best_78 0 rfl ?_
  refine aw_getX6 C K inX6_best_6 dX6_best_79 8 (by decide) qX6_best_fieldLink_RX6_28 0 (wX6_g ..) rfl ?_
  refine aw_bipush (v := 12) C dX6_best_82 (by decide) ?_
  refine aw_iload_n C dX6_best_84 1 rfl ?_
  refine aw_imul C dX6_best_85 ?_
  refine aw_iload C dX6_best_86 5 rfl ?_
  refine aw_iadd C dX6_best_88 ?_
  obtain ⟨b89, h⟩ := h
  refine aw_zald C K dX6_best_89 7 (wX6_g8 ..) b89 ?_
  refine aw_if_ne (tgt := 178) C dX6_best_90 (by decide) (fun c90 => ?_) (fun c90 => ?_)
  · have h := h.2 c90
    obtain ⟨x6_178, ex6_178⟩ : ∃ y : Int32, y = x6 + 1 := ⟨_, rfl⟩
    have h := h x6_178 ex6_178
    refine aw_iinc (v := x6_178) (lv' := [(6, .int x6_178), (0, .ref o), (1, .int x1), (2, .int x2), (3, .int x3), (4, .int x4), (5, .int x5)]) C dX6_best_178 6 rfl (by rw [ex6_178]; rfl) (by decide) rfl ?_
    refine aw_goto (tgt := 67) C dX6_best_181 (by decide) ?_
    refine aw_lv [1, 2, 3, 4, 5, 6, 0] rfl ?_
    exact hkH s x4 x6_178 h
  have h := h.1 c90
  refine aw_aload_n C dX6_best_93 0 rfl ?_
  refine aw_getX6 C K inX6_best_6 dX6_best_94 8 (by decide) qX6_best_fieldLink_RX6_28 0 (wX6_g ..) rfl ?_
  refine aw_bipush (v := 12) C dX6_best_97 (by decide) ?_
  refine aw_iload_n C dX6_best_99 1 rfl ?_
  refine aw_imul C dX6_best_100 ?_
  refine aw_iload C dX6_best_101 6 rfl ?_
  refine aw_iadd C dX6_best_103 ?_
  obtain ⟨b104, h⟩ := h
  refine aw_zald C K dX6_best_104 7 (wX6_g8 ..) b104 ?_
  refine aw_if_ne (tgt := 178) C dX6_best_105 (by decide) (fun c105 => ?_) (fun c105 => ?_)
  · have h := h.2 c105
    obtain ⟨x6_178, ex6_178⟩ : ∃ y : Int32, y = x6 + 1 := ⟨_, rfl⟩
    have h := h x6_178 ex6_178
    refine aw_iinc (v := x6_178) (lv' := [(6, .int x6_178), (0, .ref o), (1, .int x1), (2, .int x2), (3, .int x3), (4, .int x4), (5, .int x5)]) C dX6_best_178 6 rfl (by rw [ex6_178]; rfl) (by decide) rfl ?_
    refine aw_goto (tgt := 67) C dX6_best_181 (by decide) ?_
    refine aw_lv [1, 2, 3, 4, 5, 6, 0] rfl ?_
    exact hkH s x4 x6_178 h
  have h := h.1 c105
  refine aw_aload_n C dX6_best_108 0 rfl ?_
  refine aw_iload_n C dX6_best_109 1 rfl ?_
  refine aw_iload_n C dX6_best_110 2 rfl ?_
  refine aw_iload C dX6_best_111 5 rfl ?_
  refine aw_callI (As := [.int x1, .int x2, .int x5]) (rest := []) C K (mtX6_callFrom l D cy o ad s x1 x2 x5 _ h) (cwV 3 C.2.2.2.2.1 gX6_best_X6_callFrom rfl rfl rfl (by decide +kernel) ⟨Nat.le_of_ble_eq_true rfl, Nat.le_of_ble_eq_true rfl⟩) 0 6 (wX6_g ..) rfl rfl rfl rfl (Nat.le_of_ble_eq_true rfl) ⟨Nat.le_of_ble_eq_true rfl, Nat.le_of_ble_eq_true rfl⟩ dX6_best_113 (fun r113 s113 h => ?_)
  obtain ⟨h, hu113⟩ := h
  rw [hu113]
  refine aw_ldc (v := (-1000000)) C dX6_best_116 qX6_best_constant_RX6_118_1000000 ?_
  refine aw_icmp_ne (tgt := 178) C dX6_best_118 (by decide) (fun c118 => ?_) (fun c118 => ?_)
  · have h := h.2 c118
    obtain ⟨x6_178, ex6_178⟩ : ∃ y : Int32, y = x6 + 1 := ⟨_, rfl⟩
    have h := h x6_178 ex6_178
    refine aw_iinc (v := x6_178) (lv' := [(6, .int x6_178), (0, .ref o), (1, .int x1), (2, .int x2), (3, .int x3), (4, .int x4), (5, .int x5)]) C dX6_best_178 6 rfl (by rw [ex6_178]; rfl) (by decide) rfl ?_
    refine aw_goto (tgt := 67) C dX6_best_181 (by decide) ?_
    refine aw_lv [1, 2, 3, 4, 5, 6, 0] rfl ?_
    exact hkH s x4 x6_178 h
  have h := h.1 c118
  refine aw_aload_n C dX6_best_121 0 rfl ?_
  refine aw_iload_n C dX6_best_122 1 rfl ?_
  refine aw_iload_n C dX6_best_123 3 rfl ?_
  refine aw_iload C dX6_best_124 6 rfl ?_
  refine aw_callI (As := [.int x1, .int x3, .int x6]) (rest := []) C K (mtX6_callTo l D cy o ad s x1 x3 x6 _ h) (cwV 3 C.2.2.2.2.1 gX6_best_X6_callTo rfl rfl rfl (by decide +kernel) ⟨Nat.le_of_ble_eq_true rfl, Nat.le_of_ble_eq_true rfl⟩) 0 6 (wX6_g ..) rfl rfl rfl rfl (Nat.le_of_ble_eq_true rfl) ⟨Nat.le_of_ble_eq_true rfl, Nat.le_of_ble_eq_true rfl⟩ dX6_best_126 (fun r126 s126 h => ?_)
  obtain ⟨h, hu126⟩ := h
  rw [hu126]
  refine aw_ldc (v := (-1000000)) C dX6_best_129 qX6_best_constant_RX6_118_1000000 ?_
  refine aw_icmp_ne (tgt := 178) C dX6_best_131 (by decide) (fun c131 => ?_) (fun c131 => ?_)
  · have h := h.2 c131
    obtain ⟨x6_178, ex6_178⟩ : ∃ y : Int32, y = x6 + 1 := ⟨_, rfl⟩
    have h := h x6_178 ex6_178
    refine aw_iinc (v := x6_178) (lv' := [(6, .int x6_178), (0, .ref o), (1, .int x1), (2, .int x2), (3, .int x3), (4, .int x4), (5, .int x5)]) C dX6_best_178 6 rfl (by rw [ex6_178]; rfl) (by decide) rfl ?_
    refine aw_goto (tgt := 67) C dX6_best_181 (by decide) ?_
    refine aw_lv [1, 2, 3, 4, 5, 6, 0] rfl ?_
    exact hkH s x4 x6_178 h
  have h := h.1 c131
  refine aw_aload_n C dX6_best_134 0 rfl ?_
  refine aw_iload_n C dX6_best_135 1 rfl ?_
  refine aw_iload_n C dX6_best_136 3 rfl ?_
  refine aw_iload C dX6_best_137 5 rfl ?_
  refine aw_iload C dX6_best_139 6 rfl ?_
  refine aw_callV (As := [.int x1, .int x3, .int x5, .int x6]) (rest := []) C K (mtX6_findChain l D cy o ad s x1 x3 x5 x6 _ h) (cwV 4 C.2.2.2.2.1 gX6_best_X6_findChain rfl rfl rfl (by decide +kernel) ⟨Nat.le_of_ble_eq_true rfl, Nat.le_of_ble_eq_true rfl⟩) 0 6 (wX6_g ..) rfl rfl rfl rfl (Nat.le_of_ble_eq_true rfl) ⟨Nat.le_of_ble_eq_true rfl, Nat.le_of_ble_eq_true rfl⟩ dX6_best_141 (fun s141 h => ?_)
  refine aw_iload C dX6_best_144 4 rfl ?_
  refine aw_ldc (v := (-1000000)) C dX6_best_146 qX6_best_constant_RX6_118_1000000 ?_
  refine aw_icmp_eq (tgt := 160) C dX6_best_148 (by decide) (fun c148 => ?_) (fun c148 => ?_)
  · have h := h.1 c148
    refine aw_aload_n C dX6_best_160 0 rfl ?_
    refine aw_getX6 C K inX6_best_6 dX6_best_161 13 (by decide) qX6_best_fieldLink_RX6_157 0 (wX6_g ..) rfl ?_
    refine aw_name (fun x4_164 ex4_164 => ?_)
    have h := h x4_164 ex4_164
    refine aw_istore (lv' := [(4, .int x4_164), (0, .ref o), (1, .int x1), (2, .int x2), (3, .int x3), (5, .int x5), (6, .int x6)]) C dX6_best_164 (by decide) rfl ?_
    refine aw_aload_n C dX6_best_166 1 rfl ?_
    refine aw_iload C dX6_best_167 5 rfl ?_
    refine aw_putX6 (ty := .int) C K inX6_best_6 dX6_best_169 15 (by decide) qX6_best_fieldLink_RX6_164 0 (wX6_g ..) rfl (by decide +kernel) rfl rfl (Nat.le_of_ble_eq_true rfl) (wX6_p15 ..) ?_
    obtain ⟨s169, es169⟩ : ∃ z, z = (uF s141 15 x5) := ⟨_, rfl⟩
    rw [← es169]
    have h := h s169 es169
    refine aw_aload_n C dX6_best_172 1 rfl ?_
    refine aw_iload C dX6_best_173 6 rfl ?_
    refine aw_putX6 (ty := .int) C K inX6_best_6 dX6_best_175 16 (by decide) qX6_best_fieldLink_RX6_167 0 (wX6_g ..) rfl (by decide +kernel) rfl rfl (Nat.le_of_ble_eq_true rfl) (wX6_p16 ..) ?_
    obtain ⟨s175, es175⟩ : ∃ z, z = (uF s169 16 x6) := ⟨_, rfl⟩
    rw [← es175]
    have h := h s175 es175
    obtain ⟨x6_178, ex6_178⟩ : ∃ y : Int32, y = x6 + 1 := ⟨_, rfl⟩
    have h := h x6_178 ex6_178
    refine aw_iinc (v := x6_178) (lv' := [(6, .int x6_178), (4, .int x4_164), (0, .ref o), (1, .int x1), (2, .int x2), (3, .int x3), (5, .int x5)]) C dX6_best_178 6 rfl (by rw [ex6_178]; rfl) (by decide) rfl ?_
    refine aw_goto (tgt := 67) C dX6_best_181 (by decide) ?_
    refine aw_lv [2, 3, 4, 5, 1, 6, 0] rfl ?_
    exact hkH s175 x4_164 x6_178 h
  have h := h.2 c148
  refine aw_aload_n C dX6_best_151 0 rfl ?_
  refine aw_getX6 C K inX6_best_6 dX6_best_152 13 (by decide) qX6_best_fieldLink_RX6_157 0 (wX6_g ..) rfl ?_
  refine aw_iload C dX6_best_155 4 rfl ?_
  refine aw_icmp_ge (tgt := 178) C dX6_best_157 (by decide) (fun c157 => ?_) (fun c157 => ?_)
  · have h := h.1 c157
    obtain ⟨x6_178, ex6_178⟩ : ∃ y : Int32, y = x6 + 1 := ⟨_, rfl⟩
    have h := h x6_178 ex6_178
    refine aw_iinc (v := x6_178) (lv' := [(6, .int x6_178), (0, .ref o), (1, .int x1), (2, .int x2), (3, .int x3), (4, .int x4), (5, .int x5)]) C dX6_best_178 6 rfl (by rw [ex6_178]; rfl) (by decide) rfl ?_
    refine aw_goto (tgt := 67) C dX6_best_181 (by decide) ?_
    refine aw_lv [1, 2, 3, 4, 5, 6, 0] rfl ?_
    exact hkH s141 x4 x6_178 h
  have h := h.2 c157
  refine aw_aload_n C dX6_best_160 0 rfl ?_
  refine aw_getX6 C K inX6_best_6 dX6_best_161 13 (by decide) qX6_best_fieldLink_RX6_157 0 (wX6_g ..) rfl ?_
  refine aw_name (fun x4_164 ex4_164 => ?_)
  have h := h x4_164 ex4_164
  refine aw_istore (lv' := [(4, .int x4_164), (0, .ref o), (1, .int x1), (2, .int x2), (3, .int x3), (5, .int x5), (6, .int x6)]) C dX6_best_164 (by decide) rfl ?_
  refine aw_aload_n C dX6_best_166 1 rfl ?_
  refine aw_iload C dX6_best_167 5 rfl ?_
  refine aw_putX6 (ty := .int) C K inX6_best_6 dX6_best_169 15 (by decide) qX6_best_fieldLink_RX6_164 0 (wX6_g ..) rfl (by decide +kernel) rfl rfl (Nat.le_of_ble_eq_true rfl) (wX6_p15 ..) ?_
  obtain ⟨s169, es169⟩ : ∃ z, z = (uF s141 15 x5) := ⟨_, rfl⟩
  rw [← es169]
  have h := h s169 es169
  refine aw_aload_n C dX6_best_172 1 rfl ?_
  refine aw_iload C dX6_best_173 6 rfl ?_
  refine aw_putX6 (ty := .int) C K inX6_best_6 dX6_best_175 16 (by decide) qX6_best_fieldLink_RX6_167 0 (wX6_g ..) rfl (by decide +kernel) rfl rfl (Nat.le_of_ble_eq_true rfl) (wX6_p16 ..) ?_
  obtain ⟨s175, es175⟩ : ∃ z, z = (uF s169 16 x6) := ⟨_, rfl⟩
  rw [← es175]
  have h := h s175 es175
  obtain ⟨x6_178, ex6_178⟩ : ∃ y : Int32, y = x6 + 1 := ⟨_, rfl⟩
  have h := h x6_178 ex6_178
  refine aw_iinc (v := x6_178) (lv' := [(6, .int x6_178), (4, .int x4_164), (0, .ref o), (1, .int x1), (2, .int x2), (3, .int x3), (5, .int x5)]) C dX6_best_178 6 rfl (by rw [ex6_178]; rfl) (by decide) rfl ?_
  refine aw_goto (tgt := 67) C dX6_best_181 (by decide) ?_
  refine aw_lv [2, 3, 4, 5, 1, 6, 0] rfl ?_
  exact hkH s175 x4_164 x6_178 h
theorem tlX6_best_67 (C : ctB p s0 m args c cX6_best 7 RX6 wsX6_best) (K : ctK s0 D A H0 cy) {o : Nat} {ad : Nat → Nat}  {x1 : Int32} {x2 : Int32} {x3 : Int32} {x5 : Int32} {k184 : St → Int32 → Prop} (hk184 : ∀ (s : St) (y4 : Int32), k184 s y4 → atG p l e rmX6_best s0 m args below meth c 0 0 Z 7 (iW D A H0 (wX6 cy o ad s)) [(0, .ref o), (1, .int x1), (2, .int x2), (3, .int x3), (4, .int y4), (5, .int x5)] [] 184) (s : St) (x4 : Int32) (x6 : Int32) (h : lX6_best_67 x1 x2 x3 x5 k184 s x4 x6) : atG p l e rmX6_best s0 m args below meth c 0 0 Z 7 (iW D A H0 (wX6 cy o ad s)) [(0, .ref o), (1, .int x1), (2, .int x2), (3, .int x3), (4, .int x4), (5, .int x5), (6, .int x6)] [] 67 :=
  lp_W (σ := St × Int32 × Int32) (P := fun q => atG p l e rmX6_best s0 m args below meth c 0 0 Z 7 (iW D A H0 (wX6 cy o ad q.1)) [(0, .ref o), (1, .int x1), (2, .int x2), (3, .int x3), (4, .int q.2.1), (5, .int x5), (6, .int q.2.2)] [] 67) (fun K2 hK2 q hb => tbX6_best_67 C K hk184 (fun s x4 x6 hk => hK2 (s, x4, x6) hk) q.1 q.2.1 q.2.2 hb) (s, x4, x6) h
theorem tbX6_best_53 (C : ctB p s0 m args c cX6_best 7 RX6 wsX6_best) (K : ctK s0 D A H0 cy) {o : Nat} {ad : Nat → Nat}  {x1 : Int32} {x2 : Int32} {x3 : Int32} {k190 : St → Int32 → Prop} (hk190 : ∀ (s : St) (y4 : Int32), k190 s y4 → atG p l e rmX6_best s0 m args below meth c 0 0 Z 7 (iW D A H0 (wX6 cy o ad s)) [(0, .ref o), (4, .int y4)] [] 190) {kH : St → Int32 → Int32 → Prop} (hkH : ∀ (s : St) (y4 : Int32) (y5 : Int32), kH s y4 y5 → atG p l e rmX6_best s0 m args below meth c 0 0 Z 7 (iW D A H0 (wX6 cy o ad s)) [(0, .ref o), (1, .int x1), (2, .int x2), (3, .int x3), (4, .int y4), (5, .int y5)] [] 53) (s : St) (x4 : Int32) (x5 : Int32) (h : bX6_best_53 x1 x2 x3 k190 kH s x4 x5) : atG p l e rmX6_best s0 m args below meth c 0 0 Z 7 (iW D A H0 (wX6 cy o ad s)) [(0, .ref o), (1, .int x1), (2, .int x2), (3, .int x3), (4, .int x4), (5, .int x5)] [] 53 := by
  delta bX6_best_53 at h
  refine aw_iload C dX6_best_53 5 rfl ?_
  refine aw_aload_n C dX6_best_55 0 rfl ?_
  refine aw_getX6 C K inX6_best_6 dX6_best_56 5 (by decide) qX6_best_fieldLink_RX6_19 0 (wX6_g ..) rfl ?_
  refine aw_iload_n C dX6_best_59 1 rfl ?_
  obtain ⟨b60, h⟩ := h
  refine aw_iald C K dX6_best_60 4 (wX6_g5 ..) b60 ?_
  refine aw_icmp_ge (tgt := 190) C dX6_best_61 (by decide) (fun c61 => ?_) (fun c61 => ?_)
  · have h := h.1 c61
    refine aw_lv [0, 4] rfl ?_
    exact hk190 s x4 h
  have h := h.2 c61
  refine aw_iconst (v := 0) C dX6_best_64 (by decide) ?_
  refine aw_istore (lv' := [(6, .int 0), (0, .ref o), (1, .int x1), (2, .int x2), (3, .int x3), (4, .int x4), (5, .int x5)]) C dX6_best_65 (by decide) rfl ?_
  refine aw_lv [1, 2, 3, 4, 5, 6, 0] rfl ?_
  refine tlX6_best_67 C K ?_ s x4 0 h
  intro s_184 z184_4 h
  obtain ⟨x5_184, ex5_184⟩ : ∃ y : Int32, y = x5 + 1 := ⟨_, rfl⟩
  have h := h x5_184 ex5_184
  refine aw_iinc (v := x5_184) (lv' := [(5, .int x5_184), (0, .ref o), (1, .int x1), (2, .int x2), (3, .int x3), (4, .int z184_4)]) C dX6_best_184 5 rfl (by rw [ex5_184]; rfl) (by decide) rfl ?_
  refine aw_goto (tgt := 53) C dX6_best_187 (by decide) ?_
  refine aw_lv [1, 2, 3, 4, 5, 0] rfl ?_
  exact hkH s_184 z184_4 x5_184 h
theorem tlX6_best_53 (C : ctB p s0 m args c cX6_best 7 RX6 wsX6_best) (K : ctK s0 D A H0 cy) {o : Nat} {ad : Nat → Nat}  {x1 : Int32} {x2 : Int32} {x3 : Int32} {k190 : St → Int32 → Prop} (hk190 : ∀ (s : St) (y4 : Int32), k190 s y4 → atG p l e rmX6_best s0 m args below meth c 0 0 Z 7 (iW D A H0 (wX6 cy o ad s)) [(0, .ref o), (4, .int y4)] [] 190) (s : St) (x4 : Int32) (x5 : Int32) (h : lX6_best_53 x1 x2 x3 k190 s x4 x5) : atG p l e rmX6_best s0 m args below meth c 0 0 Z 7 (iW D A H0 (wX6 cy o ad s)) [(0, .ref o), (1, .int x1), (2, .int x2), (3, .int x3), (4, .int x4), (5, .int x5)] [] 53 :=
  lp_W (σ := St × Int32 × Int32) (P := fun q => atG p l e rmX6_best s0 m args below meth c 0 0 Z 7 (iW D A H0 (wX6 cy o ad q.1)) [(0, .ref o), (1, .int x1), (2, .int x2), (3, .int x3), (4, .int q.2.1), (5, .int q.2.2)] [] 53) (fun K2 hK2 q hb => tbX6_best_53 C K hk190 (fun s x4 x5 hk => hK2 (s, x4, x5) hk) q.1 q.2.1 q.2.2 hb) (s, x4, x5) h
theorem eX6_best (C : ctB p s0 m args c cX6_best 7 RX6 wsX6_best) (K : ctK s0 D A H0 cy) {o : Nat} {ad : Nat → Nat} {Q : Int32 → St → Prop} (hQ : ∀ (v : Int32) (u : St), Q v u → ∀ pc, decode cX6_best pc = .ok (.ireturn, 1) → atG p l e rmX6_best s0 m args below meth c 0 0 Z 7 (iW D A H0 (wX6 cy o ad u)) [] [.int v] pc) (s : St) (x1 : Int32) (x2 : Int32) (x3 : Int32) (h : pX6_best  s x1 x2 x3 Q) : atG p l e rmX6_best s0 m args below meth c 0 0 Z 7 (iW D A H0 (wX6 cy o ad s)) [(0, .ref o), (1, .int x1), (2, .int x2), (3, .int x3)] [] 0 := by
  delta pX6_best at h
  refine aw_iconst (v := 0) C dX6_best_0 (by decide) ?_
  refine aw_istore (lv' := [(4, .int 0), (0, .ref o), (1, .int x1), (2, .int x2), (3, .int x3)]) C dX6_best_1 (by decide) rfl ?_
  refine aw_lv [1, 2, 3, 4, 0] rfl ?_
  refine tlX6_best_3 C K ?_ ?_ 0 h
  · intro z26_4 h
    refine aw_aload_n C dX6_best_26 0 rfl ?_
    refine aw_iload C dX6_best_27 1 rfl ?_
    refine aw_putX6 (ty := .int) C K inX6_best_6 dX6_best_29 15 (by decide) qX6_best_fieldLink_RX6_164 0 (wX6_g ..) rfl (by decide +kernel) rfl rfl (Nat.le_of_ble_eq_true rfl) (wX6_p15 ..) ?_
    obtain ⟨s29, es29⟩ : ∃ z, z = (uF s 15 z26_4) := ⟨_, rfl⟩
    rw [← es29]
    have h := h s29 es29
    refine aw_aload_n C dX6_best_32 0 rfl ?_
    refine aw_ldc (v := (-1000000)) C dX6_best_33 qX6_best_constant_RX6_118_1000000 ?_
    refine aw_putX6 (ty := .int) C K inX6_best_6 dX6_best_35 16 (by decide) qX6_best_fieldLink_RX6_167 0 (wX6_g ..) rfl (by decide +kernel) rfl rfl (Nat.le_of_ble_eq_true rfl) (wX6_p16 ..) ?_
    obtain ⟨s35, es35⟩ : ∃ z, z = (uF s29 16 (-1000000)) := ⟨_, rfl⟩
    rw [← es35]
    have h := h s35 es35
    refine aw_iconst (v := 0) C dX6_best_38 (by decide) ?_
    refine aw_lv [] rfl ?_
    exact hQ 0 s35 h 39 dX6_best_39
  intro h
  refine aw_ldc (v := (-1000000)) C dX6_best_46 qX6_best_constant_RX6_118_1000000 ?_
  refine aw_istore (lv' := [(4, .int (-1000000)), (0, .ref o), (1, .int x1), (2, .int x2), (3, .int x3)]) C dX6_best_48 (by decide) rfl ?_
  refine aw_iconst (v := 0) C dX6_best_50 (by decide) ?_
  refine aw_istore (lv' := [(5, .int 0), (4, .int (-1000000)), (0, .ref o), (1, .int x1), (2, .int x2), (3, .int x3)]) C dX6_best_51 (by decide) rfl ?_
  refine aw_lv [2, 3, 4, 5, 1, 0] rfl ?_
  refine tlX6_best_53 C K ?_ s (-1000000) 0 h
  intro s_190 z190_4 h
  refine aw_iload C dX6_best_190 1 rfl ?_
  refine aw_lv [] rfl ?_
  exact hQ z190_4 s_190 h 192 dX6_best_192
end SX6_best
theorem mtX6_best (l : Launch) (D : va_G) (cy : Nat → ClassId) (o : Nat) (ad : Nat → Nat) (s : St) (x1 : Int32) (x2 : Int32) (x3 : Int32) (Q : Int32 → St → Prop) (hw : pX6_best  s x1 x2 x3 Q) : mI l yX6_best wsX6_best rmX6_best D cy [.ref o, .int x1, .int x2, .int x3] (wX6 cy o ad s) (wX6 cy o ad) Q :=
  metI (Wd := wX6 cy o ad) ⟨rfl, rfl⟩ (by decide) rfl (Nat.le_of_ble_eq_true rfl) (fun C K hQ => eX6_best C K hQ s x1 x2 x3 hw)
def rmX6_setUp : Room := { frames := 3, cells := 0, slots := 0, locals := 78 }
theorem inX6_setUp_6 : ∀ w ∈ wsX60, w ∈ wsX6_setUp := fun w h => (List.mem_cons_of_mem _ (List.mem_append_right _ h))
theorem qX6_setUp_fieldLink_RX6_22 : Cond.fieldLink RX6 22 "StageSwitchModel" "lines" "[I" ∈ wsX6_setUp := (List.mem_cons_of_mem _ (List.mem_append_left _ (List.mem_append_left _ (List.mem_of_getElem? (i := 0) rfl))))
theorem qX6_setUp_constant_RX6_118_1000000 : Cond.constant RX6 118 (-1000000) ∈ wsX6_setUp := (List.mem_cons_of_mem _ (List.mem_append_left _ (List.mem_append_left _ (List.mem_of_getElem? (i := 1) rfl))))
theorem qX6_setUp_fieldLink_RX6_32 : Cond.fieldLink RX6 32 "StageSwitchModel" "out" "[I" ∈ wsX6_setUp := (List.mem_cons_of_mem _ (List.mem_append_left _ (List.mem_append_left _ (List.mem_of_getElem? (i := 7) rfl))))
theorem qX6_setUp_fieldLink_RX6_35 : Cond.fieldLink RX6 35 "StageSwitchModel" "by" "[I" ∈ wsX6_setUp := (List.mem_cons_of_mem _ (List.mem_append_left _ (List.mem_append_left _ (List.mem_of_getElem? (i := 5) rfl))))
theorem qX6_setUp_fieldLink_RX6_164 : Cond.fieldLink RX6 164 "StageSwitchModel" "bestX" "I" ∈ wsX6_setUp := (List.mem_cons_of_mem _ (List.mem_append_left _ (List.mem_append_left _ (List.mem_of_getElem? (i := 2) rfl))))
theorem qX6_setUp_fieldLink_RX6_167 : Cond.fieldLink RX6 167 "StageSwitchModel" "bestY" "I" ∈ wsX6_setUp := (List.mem_cons_of_mem _ (List.mem_append_left _ (List.mem_append_left _ (List.mem_of_getElem? (i := 3) rfl))))
theorem qX6_setUp_fieldLink_RX6_157 : Cond.fieldLink RX6 157 "StageSwitchModel" "chained" "I" ∈ wsX6_setUp := (List.mem_cons_of_mem _ (List.mem_append_left _ (List.mem_append_left _ (List.mem_of_getElem? (i := 4) rfl))))
theorem qX6_setUp_fieldLink_RX6_41 : Cond.fieldLink RX6 41 "StageSwitchModel" "chain" "[I" ∈ wsX6_setUp := (List.mem_cons_of_mem _ (List.mem_append_left _ (List.mem_append_left _ (List.mem_of_getElem? (i := 6) rfl))))
section SX6_setUp
variable {p : Program} {l : Launch} {e : Env} {s0 : State} {m : MethodId} {args : Array Value} {below : List Frame} {meth : Method} {c : Code} {D : va_G} {A : Nat → Prop} {H0 : Heap} {cy : Nat → ClassId} {Z : State → Prop}
theorem tbX6_setUp_62 (C : ctB p s0 m args c cX6_setUp 6 RX6 wsX6_setUp) (K : ctK s0 D A H0 cy) {o : Nat} {ad : Nat → Nat}  {x1 : Int32} {x2 : Int32} {x3 : Int32} {x4 : Int32} {k129 : St → Prop} (hk129 : ∀ (s : St), k129 s → atG p l e rmX6_setUp s0 m args below meth c 0 0 Z 6 (iW D A H0 (wX6 cy o ad s)) [(0, .ref o), (1, .int x1), (2, .int x2), (3, .int x3), (4, .int x4)] [] 129) {kH : St → Int32 → Prop} (hkH : ∀ (s : St) (y5 : Int32), kH s y5 → atG p l e rmX6_setUp s0 m args below meth c 0 0 Z 6 (iW D A H0 (wX6 cy o ad s)) [(0, .ref o), (1, .int x1), (2, .int x2), (3, .int x3), (4, .int x4), (5, .int y5)] [] 62) (s : St) (x5 : Int32) (h : bX6_setUp_62 x1 x2 x3 x4 k129 kH s x5) : atG p l e rmX6_setUp s0 m args below meth c 0 0 Z 6 (iW D A H0 (wX6 cy o ad s)) [(0, .ref o), (1, .int x1), (2, .int x2), (3, .int x3), (4, .int x4), (5, .int x5)] [] 62 := by
  delta bX6_setUp_62 at h
  refine aw_iload C dX6_setUp_62 5 rfl ?_
  refine aw_aload_n C dX6_setUp_64 0 rfl ?_
  refine aw_getX6 C K inX6_setUp_6 dX6_setUp_65 13 (by decide) qX6_setUp_fieldLink_RX6_157 0 (wX6_g ..) rfl ?_
  refine aw_icmp_ge (tgt := 129) C dX6_setUp_68 (by decide) (fun c68 => ?_) (fun c68 => ?_)
  · have h := h.1 c68
    refine aw_lv [0, 1, 2, 3, 4] rfl ?_
    exact hk129 s h
  have h := h.2 c68
  refine aw_aload_n C dX6_setUp_71 0 rfl ?_
  refine aw_getX6 C K inX6_setUp_6 dX6_setUp_72 10 (by decide) qX6_setUp_fieldLink_RX6_35 0 (wX6_g ..) rfl ?_
  refine aw_bipush (v := 36) C dX6_setUp_75 (by decide) ?_
  refine aw_iload_n C dX6_setUp_77 1 rfl ?_
  refine aw_imul C dX6_setUp_78 ?_
  refine aw_aload_n C dX6_setUp_79 0 rfl ?_
  refine aw_getX6 C K inX6_setUp_6 dX6_setUp_80 14 (by decide) qX6_setUp_fieldLink_RX6_41 0 (wX6_g ..) rfl ?_
  refine aw_iload C dX6_setUp_83 5 rfl ?_
  obtain ⟨b85, h⟩ := h
  refine aw_iald C K dX6_setUp_85 11 (wX6_g14 ..) b85 ?_
  refine aw_iadd C dX6_setUp_86 ?_
  refine aw_aload_n C dX6_setUp_87 0 rfl ?_
  refine aw_getX6 C K inX6_setUp_6 dX6_setUp_88 10 (by decide) qX6_setUp_fieldLink_RX6_35 0 (wX6_g ..) rfl ?_
  refine aw_bipush (v := 36) C dX6_setUp_91 (by decide) ?_
  refine aw_iload_n C dX6_setUp_93 1 rfl ?_
  refine aw_imul C dX6_setUp_94 ?_
  refine aw_aload_n C dX6_setUp_95 0 rfl ?_
  refine aw_getX6 C K inX6_setUp_6 dX6_setUp_96 14 (by decide) qX6_setUp_fieldLink_RX6_41 0 (wX6_g ..) rfl ?_
  refine aw_iload C dX6_setUp_99 5 rfl ?_
  obtain ⟨b101, h⟩ := h
  refine aw_iald C K dX6_setUp_101 11 (wX6_g14 ..) b101 ?_
  refine aw_iadd C dX6_setUp_102 ?_
  obtain ⟨b103, h⟩ := h
  refine aw_iald C K dX6_setUp_103 9 (wX6_g10 ..) b103 ?_
  refine aw_aload_n C dX6_setUp_104 0 rfl ?_
  refine aw_getX6 C K inX6_setUp_6 dX6_setUp_105 15 (by decide) qX6_setUp_fieldLink_RX6_164 0 (wX6_g ..) rfl ?_
  refine aw_icmp_ne (tgt := 118) C dX6_setUp_108 (by decide) (fun c108 => ?_) (fun c108 => ?_)
  · have h := h.2 c108
    refine aw_aload_n C dX6_setUp_118 0 rfl ?_
    refine aw_getX6 C K inX6_setUp_6 dX6_setUp_119 15 (by decide) qX6_setUp_fieldLink_RX6_164 0 (wX6_g ..) rfl ?_
    obtain ⟨b122, h⟩ := h
    refine aw_iast C K dX6_setUp_122 9 (wX6_g10 ..) (wX6_s10 ..) b122 ?_
    obtain ⟨s122, es122⟩ : ∃ z, z = (uA s 10 (upd (sA s 10) ((36 * x1) + (sA s 14 x5.toNatClampNeg)).toNatClampNeg (sF s 15))) := ⟨_, rfl⟩
    rw [← es122]
    have h := h s122 es122
    obtain ⟨x5_123, ex5_123⟩ : ∃ y : Int32, y = x5 + 1 := ⟨_, rfl⟩
    have h := h x5_123 ex5_123
    refine aw_iinc (v := x5_123) (lv' := [(5, .int x5_123), (0, .ref o), (1, .int x1), (2, .int x2), (3, .int x3), (4, .int x4)]) C dX6_setUp_123 5 rfl (by rw [ex5_123]; rfl) (by decide) rfl ?_
    refine aw_goto (tgt := 62) C dX6_setUp_126 (by decide) ?_
    refine aw_lv [1, 2, 3, 4, 5, 0] rfl ?_
    exact hkH s122 x5_123 h
  have h := h.1 c108
  refine aw_aload_n C dX6_setUp_111 0 rfl ?_
  refine aw_getX6 C K inX6_setUp_6 dX6_setUp_112 16 (by decide) qX6_setUp_fieldLink_RX6_167 0 (wX6_g ..) rfl ?_
  refine aw_goto (tgt := 122) C dX6_setUp_115 (by decide) ?_
  obtain ⟨b122, h⟩ := h
  refine aw_iast C K dX6_setUp_122 9 (wX6_g10 ..) (wX6_s10 ..) b122 ?_
  obtain ⟨s122, es122⟩ : ∃ z, z = (uA s 10 (upd (sA s 10) ((36 * x1) + (sA s 14 x5.toNatClampNeg)).toNatClampNeg (sF s 16))) := ⟨_, rfl⟩
  rw [← es122]
  have h := h s122 es122
  obtain ⟨x5_123, ex5_123⟩ : ∃ y : Int32, y = x5 + 1 := ⟨_, rfl⟩
  have h := h x5_123 ex5_123
  refine aw_iinc (v := x5_123) (lv' := [(5, .int x5_123), (0, .ref o), (1, .int x1), (2, .int x2), (3, .int x3), (4, .int x4)]) C dX6_setUp_123 5 rfl (by rw [ex5_123]; rfl) (by decide) rfl ?_
  refine aw_goto (tgt := 62) C dX6_setUp_126 (by decide) ?_
  refine aw_lv [1, 2, 3, 4, 5, 0] rfl ?_
  exact hkH s122 x5_123 h
theorem tlX6_setUp_62 (C : ctB p s0 m args c cX6_setUp 6 RX6 wsX6_setUp) (K : ctK s0 D A H0 cy) {o : Nat} {ad : Nat → Nat}  {x1 : Int32} {x2 : Int32} {x3 : Int32} {x4 : Int32} {k129 : St → Prop} (hk129 : ∀ (s : St), k129 s → atG p l e rmX6_setUp s0 m args below meth c 0 0 Z 6 (iW D A H0 (wX6 cy o ad s)) [(0, .ref o), (1, .int x1), (2, .int x2), (3, .int x3), (4, .int x4)] [] 129) (s : St) (x5 : Int32) (h : lX6_setUp_62 x1 x2 x3 x4 k129 s x5) : atG p l e rmX6_setUp s0 m args below meth c 0 0 Z 6 (iW D A H0 (wX6 cy o ad s)) [(0, .ref o), (1, .int x1), (2, .int x2), (3, .int x3), (4, .int x4), (5, .int x5)] [] 62 :=
  lp_W (σ := St × Int32) (P := fun q => atG p l e rmX6_setUp s0 m args below meth c 0 0 Z 6 (iW D A H0 (wX6 cy o ad q.1)) [(0, .ref o), (1, .int x1), (2, .int x2), (3, .int x3), (4, .int x4), (5, .int q.2)] [] 62) (fun K2 hK2 q hb => tbX6_setUp_62 C K hk129 (fun s x5 hk => hK2 (s, x5) hk) q.1 q.2 hb) (s, x5) h
theorem eX6_setUp (C : ctB p s0 m args c cX6_setUp 6 RX6 wsX6_setUp) (K : ctK s0 D A H0 cy) {o : Nat} {ad : Nat → Nat} {Q : Int32 → St → Prop} (hQ : ∀ (v : Int32) (u : St), Q v u → ∀ pc, decode cX6_setUp pc = .ok (.ireturn, 1) → atG p l e rmX6_setUp s0 m args below meth c 0 0 Z 6 (iW D A H0 (wX6 cy o ad u)) [] [.int v] pc) (s : St) (x1 : Int32) (x2 : Int32) (x3 : Int32) (h : pX6_setUp  s x1 x2 x3 Q) : atG p l e rmX6_setUp s0 m args below meth c 0 0 Z 6 (iW D A H0 (wX6 cy o ad s)) [(0, .ref o), (1, .int x1), (2, .int x2), (3, .int x3)] [] 0 := by
  delta pX6_setUp at h
  refine aw_aload_n C dX6_setUp_0 0 rfl ?_
  refine aw_iload_n C dX6_setUp_1 1 rfl ?_
  refine aw_iload_n C dX6_setUp_2 2 rfl ?_
  refine aw_aload_n C dX6_setUp_3 0 rfl ?_
  refine aw_getX6 C K inX6_setUp_6 dX6_setUp_4 6 (by decide) qX6_setUp_fieldLink_RX6_22 0 (wX6_g ..) rfl ?_
  refine aw_iload_n C dX6_setUp_7 1 rfl ?_
  obtain ⟨b8, h⟩ := h
  refine aw_iald C K dX6_setUp_8 5 (wX6_g6 ..) b8 ?_
  obtain ⟨hz9, h⟩ := h
  refine aw_idiv C dX6_setUp_9 hz9 ?_
  refine aw_iload_n C dX6_setUp_10 3 rfl ?_
  refine aw_aload_n C dX6_setUp_11 0 rfl ?_
  refine aw_getX6 C K inX6_setUp_6 dX6_setUp_12 6 (by decide) qX6_setUp_fieldLink_RX6_22 0 (wX6_g ..) rfl ?_
  refine aw_iload_n C dX6_setUp_15 1 rfl ?_
  obtain ⟨b16, h⟩ := h
  refine aw_iald C K dX6_setUp_16 5 (wX6_g6 ..) b16 ?_
  obtain ⟨hz17, h⟩ := h
  refine aw_idiv C dX6_setUp_17 hz17 ?_
  refine aw_callI (As := [.int x1, .int (x2 / (sA s 6 x1.toNatClampNeg)), .int (x3 / (sA s 6 x1.toNatClampNeg))]) (rest := []) C K (mtX6_best l D cy o ad s x1 (x2 / (sA s 6 x1.toNatClampNeg)) (x3 / (sA s 6 x1.toNatClampNeg)) _ h) (cwV 3 C.2.2.2.2.1 gX6_setUp_X6_best rfl rfl rfl (by decide +kernel) ⟨Nat.le_of_ble_eq_true rfl, Nat.le_of_ble_eq_true rfl⟩) 0 6 (wX6_g ..) rfl rfl rfl rfl (Nat.le_of_ble_eq_true rfl) ⟨Nat.le_of_ble_eq_true rfl, Nat.le_of_ble_eq_true rfl⟩ dX6_setUp_18 (fun r18 s18 h => ?_)
  refine aw_istore (lv' := [(4, .int r18), (0, .ref o), (1, .int x1), (2, .int x2), (3, .int x3)]) C dX6_setUp_21 (by decide) rfl ?_
  refine aw_iload C dX6_setUp_23 0 rfl ?_
  refine aw_ldc (v := (-1000000)) C dX6_setUp_25 qX6_setUp_constant_RX6_118_1000000 ?_
  refine aw_icmp_ne (tgt := 33) C dX6_setUp_27 (by decide) (fun c27 => ?_) (fun c27 => ?_)
  · have h := h.2 c27
    refine aw_iload C dX6_setUp_33 0 rfl ?_
    refine aw_if_le (tgt := 129) C dX6_setUp_35 (by decide) (fun c35 => ?_) (fun c35 => ?_)
    · have h := h.1 c35
      refine aw_aload_n C dX6_setUp_129 1 rfl ?_
      refine aw_getX6 C K inX6_setUp_6 dX6_setUp_130 9 (by decide) qX6_setUp_fieldLink_RX6_32 0 (wX6_g ..) rfl ?_
      refine aw_bipush (v := 36) C dX6_setUp_133 (by decide) ?_
      refine aw_iload_n C dX6_setUp_135 2 rfl ?_
      refine aw_imul C dX6_setUp_136 ?_
      refine aw_iload_n C dX6_setUp_137 3 rfl ?_
      refine aw_iadd C dX6_setUp_138 ?_
      refine aw_iload_n C dX6_setUp_139 4 rfl ?_
      obtain ⟨b140, h⟩ := h
      refine aw_iast C K dX6_setUp_140 8 (wX6_g9 ..) (wX6_s9 ..) b140 ?_
      obtain ⟨s140, es140⟩ : ∃ z, z = (uA s18 9 (upd (sA s18 9) ((36 * x1) + x2).toNatClampNeg x3)) := ⟨_, rfl⟩
      rw [← es140]
      have h := h s140 es140
      refine aw_aload_n C dX6_setUp_141 1 rfl ?_
      refine aw_getX6 C K inX6_setUp_6 dX6_setUp_142 10 (by decide) qX6_setUp_fieldLink_RX6_35 0 (wX6_g ..) rfl ?_
      refine aw_bipush (v := 36) C dX6_setUp_145 (by decide) ?_
      refine aw_iload_n C dX6_setUp_147 2 rfl ?_
      refine aw_imul C dX6_setUp_148 ?_
      refine aw_iload_n C dX6_setUp_149 3 rfl ?_
      refine aw_iadd C dX6_setUp_150 ?_
      refine aw_aload_n C dX6_setUp_151 1 rfl ?_
      refine aw_getX6 C K inX6_setUp_6 dX6_setUp_152 15 (by decide) qX6_setUp_fieldLink_RX6_164 0 (wX6_g ..) rfl ?_
      obtain ⟨b155, h⟩ := h
      refine aw_iast C K dX6_setUp_155 9 (wX6_g10 ..) (wX6_s10 ..) b155 ?_
      obtain ⟨s155, es155⟩ : ∃ z, z = (uA s140 10 (upd (sA s140 10) ((36 * x1) + x2).toNatClampNeg (sF s140 15))) := ⟨_, rfl⟩
      rw [← es155]
      have h := h s155 es155
      refine aw_iload C dX6_setUp_156 0 rfl ?_
      refine aw_lv [] rfl ?_
      exact hQ r18 s155 h 158 dX6_setUp_158
    have h := h.2 c35
    refine aw_aload_n C dX6_setUp_38 1 rfl ?_
    refine aw_iload_n C dX6_setUp_39 2 rfl ?_
    refine aw_iload_n C dX6_setUp_40 4 rfl ?_
    refine aw_aload_n C dX6_setUp_41 1 rfl ?_
    refine aw_getX6 C K inX6_setUp_6 dX6_setUp_42 6 (by decide) qX6_setUp_fieldLink_RX6_22 0 (wX6_g ..) rfl ?_
    refine aw_iload_n C dX6_setUp_45 2 rfl ?_
    obtain ⟨b46, h⟩ := h
    refine aw_iald C K dX6_setUp_46 5 (wX6_g6 ..) b46 ?_
    obtain ⟨hz47, h⟩ := h
    refine aw_idiv C dX6_setUp_47 hz47 ?_
    refine aw_aload_n C dX6_setUp_48 1 rfl ?_
    refine aw_getX6 C K inX6_setUp_6 dX6_setUp_49 15 (by decide) qX6_setUp_fieldLink_RX6_164 0 (wX6_g ..) rfl ?_
    refine aw_aload_n C dX6_setUp_52 1 rfl ?_
    refine aw_getX6 C K inX6_setUp_6 dX6_setUp_53 16 (by decide) qX6_setUp_fieldLink_RX6_167 0 (wX6_g ..) rfl ?_
    refine aw_callV (As := [.int x1, .int (x3 / (sA s18 6 x1.toNatClampNeg)), .int (sF s18 15), .int (sF s18 16)]) (rest := []) C K (mtX6_findChain l D cy o ad s18 x1 (x3 / (sA s18 6 x1.toNatClampNeg)) (sF s18 15) (sF s18 16) _ h) (cwV 4 C.2.2.2.2.1 gX6_setUp_X6_findChain rfl rfl rfl (by decide +kernel) ⟨Nat.le_of_ble_eq_true rfl, Nat.le_of_ble_eq_true rfl⟩) 0 6 (wX6_g ..) rfl rfl rfl rfl (Nat.le_of_ble_eq_true rfl) ⟨Nat.le_of_ble_eq_true rfl, Nat.le_of_ble_eq_true rfl⟩ dX6_setUp_56 (fun s56 h => ?_)
    refine aw_iconst (v := 0) C dX6_setUp_59 (by decide) ?_
    refine aw_istore (lv' := [(5, .int 0), (4, .int r18), (0, .ref o), (1, .int x1), (2, .int x2), (3, .int x3)]) C dX6_setUp_60 (by decide) rfl ?_
    refine aw_lv [2, 3, 4, 5, 1, 0] rfl ?_
    refine tlX6_setUp_62 C K ?_ s56 0 h
    intro s_129 h
    refine aw_aload_n C dX6_setUp_129 0 rfl ?_
    refine aw_getX6 C K inX6_setUp_6 dX6_setUp_130 9 (by decide) qX6_setUp_fieldLink_RX6_32 0 (wX6_g ..) rfl ?_
    refine aw_bipush (v := 36) C dX6_setUp_133 (by decide) ?_
    refine aw_iload_n C dX6_setUp_135 1 rfl ?_
    refine aw_imul C dX6_setUp_136 ?_
    refine aw_iload_n C dX6_setUp_137 2 rfl ?_
    refine aw_iadd C dX6_setUp_138 ?_
    refine aw_iload_n C dX6_setUp_139 3 rfl ?_
    obtain ⟨b140, h⟩ := h
    refine aw_iast C K dX6_setUp_140 8 (wX6_g9 ..) (wX6_s9 ..) b140 ?_
    obtain ⟨s140, es140⟩ : ∃ z, z = (uA s_129 9 (upd (sA s_129 9) ((36 * x1) + x2).toNatClampNeg x3)) := ⟨_, rfl⟩
    rw [← es140]
    have h := h s140 es140
    refine aw_aload_n C dX6_setUp_141 0 rfl ?_
    refine aw_getX6 C K inX6_setUp_6 dX6_setUp_142 10 (by decide) qX6_setUp_fieldLink_RX6_35 0 (wX6_g ..) rfl ?_
    refine aw_bipush (v := 36) C dX6_setUp_145 (by decide) ?_
    refine aw_iload_n C dX6_setUp_147 1 rfl ?_
    refine aw_imul C dX6_setUp_148 ?_
    refine aw_iload_n C dX6_setUp_149 2 rfl ?_
    refine aw_iadd C dX6_setUp_150 ?_
    refine aw_aload_n C dX6_setUp_151 0 rfl ?_
    refine aw_getX6 C K inX6_setUp_6 dX6_setUp_152 15 (by decide) qX6_setUp_fieldLink_RX6_164 0 (wX6_g ..) rfl ?_
    obtain ⟨b155, h⟩ := h
    refine aw_iast C K dX6_setUp_155 9 (wX6_g10 ..) (wX6_s10 ..) b155 ?_
    obtain ⟨s155, es155⟩ : ∃ z, z = (uA s140 10 (upd (sA s140 10) ((36 * x1) + x2).toNatClampNeg (sF s140 15))) := ⟨_, rfl⟩
    rw [← es155]
    have h := h s155 es155
    refine aw_iload C dX6_setUp_156 4 rfl ?_
    refine aw_lv [] rfl ?_
    exact hQ r18 s155 h 158 dX6_setUp_158
  have h := h.1 c27
  refine aw_ldc (v := (-1000000)) C dX6_setUp_30 qX6_setUp_constant_RX6_118_1000000 ?_
  refine aw_lv [] rfl ?_
  exact hQ (-1000000) s18 h 32 dX6_setUp_32
end SX6_setUp
theorem mtX6_setUp (l : Launch) (D : va_G) (cy : Nat → ClassId) (o : Nat) (ad : Nat → Nat) (s : St) (x1 : Int32) (x2 : Int32) (x3 : Int32) (Q : Int32 → St → Prop) (hw : pX6_setUp  s x1 x2 x3 Q) : mI l yX6_setUp wsX6_setUp rmX6_setUp D cy [.ref o, .int x1, .int x2, .int x3] (wX6 cy o ad s) (wX6 cy o ad) Q :=
  metI (Wd := wX6 cy o ad) ⟨rfl, rfl⟩ (by decide) rfl (Nat.le_of_ble_eq_true rfl) (fun C K hQ => eX6_setUp C K hQ s x1 x2 x3 hw)
def rmX6_isLine : Room := { frames := 1, cells := 0, slots := 0, locals := 25 }
theorem inX6_isLine_6 : ∀ w ∈ wsX60, w ∈ wsX6_isLine := fun w h => (List.mem_cons_of_mem _ (List.mem_append_right _ h))
theorem qX6_isLine_fieldLink_RX6_25 : Cond.fieldLink RX6 25 "StageSwitchModel" "outer" "[I" ∈ wsX6_isLine := (List.mem_cons_of_mem _ (List.mem_append_left _ (List.mem_of_getElem? (i := 0) rfl)))
theorem qX6_isLine_fieldLink_RX6_22 : Cond.fieldLink RX6 22 "StageSwitchModel" "lines" "[I" ∈ wsX6_isLine := (List.mem_cons_of_mem _ (List.mem_append_left _ (List.mem_of_getElem? (i := 1) rfl)))
section SX6_isLine
variable {p : Program} {l : Launch} {e : Env} {s0 : State} {m : MethodId} {args : Array Value} {below : List Frame} {meth : Method} {c : Code} {D : va_G} {A : Nat → Prop} {H0 : Heap} {cy : Nat → ClassId} {Z : State → Prop}
theorem eX6_isLine (C : ctB p s0 m args c cX6_isLine 3 RX6 wsX6_isLine) (K : ctK s0 D A H0 cy) {o : Nat} {ad : Nat → Nat} {Q : Int32 → Prop} (s : St) (hQ : ∀ (v : Int32), narrow .boolean (.int v) = .int v → Q v → ∀ pc, decode cX6_isLine pc = .ok (.ireturn, 1) → atG p l e rmX6_isLine s0 m args below meth c 0 0 Z 3 (iW D A H0 (wX6 cy o ad s)) [] [.int v] pc) (x1 : Int32) (x2 : Int32) (h : pX6_isLine  s x1 x2 Q) : atG p l e rmX6_isLine s0 m args below meth c 0 0 Z 3 (iW D A H0 (wX6 cy o ad s)) [(0, .ref o), (1, .int x1), (2, .int x2)] [] 0 := by
  delta pX6_isLine at h
  refine aw_iload_n C dX6_isLine_0 2 rfl ?_
  refine aw_i2l C dX6_isLine_1 ?_
  refine aw_lconst (v := 0) C dX6_isLine_2 (by decide) ?_
  refine aw_aload_n C dX6_isLine_3 0 rfl ?_
  refine aw_getX6 C K inX6_isLine_6 dX6_isLine_4 7 (by decide) qX6_isLine_fieldLink_RX6_25 0 (wX6_g ..) rfl ?_
  refine aw_iload_n C dX6_isLine_7 1 rfl ?_
  obtain ⟨b8, h⟩ := h
  refine aw_iald C K dX6_isLine_8 6 (wX6_g7 ..) b8 ?_
  refine aw_aload_n C dX6_isLine_9 0 rfl ?_
  refine aw_getX6 C K inX6_isLine_6 dX6_isLine_10 6 (by decide) qX6_isLine_fieldLink_RX6_22 0 (wX6_g ..) rfl ?_
  refine aw_iload_n C dX6_isLine_13 1 rfl ?_
  obtain ⟨b14, h⟩ := h
  refine aw_iald C K dX6_isLine_14 5 (wX6_g6 ..) b14 ?_
  refine aw_imul C dX6_isLine_15 ?_
  refine aw_iconst (v := 1) C dX6_isLine_16 (by decide) ?_
  refine aw_isub C dX6_isLine_17 ?_
  refine aw_i2l C dX6_isLine_18 ?_
  refine aw_callS (As := [.long x2.toInt64, .long 0, .long ((((sA s 7 x1.toNatClampNeg) * (sA s 6 x1.toNatClampNeg)) - 1).toInt64)]) (rest := []) C (mtX6_in l x2.toInt64 0 ((((sA s 7 x1.toNatClampNeg) * (sA s 6 x1.toNatClampNeg)) - 1).toInt64) _ h) (va_cwS 3 C.2.2.2.2.1 gX6_isLine_X6_in rfl rfl rfl (by decide +kernel) ⟨Nat.le_of_ble_eq_true rfl, Nat.le_of_ble_eq_true rfl⟩) rfl rfl (Nat.le_of_ble_eq_true rfl) ⟨rfl, rfl⟩ ⟨Nat.zero_le _, Nat.zero_le _⟩ dX6_isLine_19 (fun r19 h => ?_)
  refine aw_lv [] rfl ?_
  exact hQ r19 h.1 h.2 22 dX6_isLine_22
end SX6_isLine
theorem mtX6_isLine (l : Launch) (D : va_G) (cy : Nat → ClassId) (o : Nat) (ad : Nat → Nat) (s : St) (x1 : Int32) (x2 : Int32) (Q : Int32 → Prop) (hw : pX6_isLine  s x1 x2 Q) : mI l yX6_isLine wsX6_isLine rmX6_isLine D cy [.ref o, .int x1, .int x2] (wX6 cy o ad s) (wX6 cy o ad) (fun r u => Q r ∧ u = s) :=
  metZ (ty := .boolean) (Wd := wX6 cy o ad) ⟨rfl, rfl⟩ (by decide) rfl (Nat.le_of_ble_eq_true rfl) (fun C K hQ => eX6_isLine C K s (fun v hn hq => hQ v s hn ⟨hq, rfl⟩) x1 x2 hw)
def rmX6_isTaken : Room := { frames := 0, cells := 0, slots := 0, locals := 0 }
theorem inX6_isTaken_6 : ∀ w ∈ wsX60, w ∈ wsX6_isTaken := fun w h => (List.mem_cons_of_mem _ (List.mem_append_right _ h))
theorem qX6_isTaken_fieldLink_RX6_32 : Cond.fieldLink RX6 32 "StageSwitchModel" "out" "[I" ∈ wsX6_isTaken := (List.mem_cons_of_mem _ (List.mem_append_left _ (List.mem_of_getElem? (i := 0) rfl)))
theorem qX6_isTaken_constant_RX6_118_1000000 : Cond.constant RX6 118 (-1000000) ∈ wsX6_isTaken := (List.mem_cons_of_mem _ (List.mem_append_left _ (List.mem_of_getElem? (i := 1) rfl)))
section SX6_isTaken
variable {p : Program} {l : Launch} {e : Env} {s0 : State} {m : MethodId} {args : Array Value} {below : List Frame} {meth : Method} {c : Code} {D : va_G} {A : Nat → Prop} {H0 : Heap} {cy : Nat → ClassId} {Z : State → Prop}
theorem tbX6_isTaken_26 (C : ctB p s0 m args c cX6_isTaken 6 RX6 wsX6_isTaken) (K : ctK s0 D A H0 cy) {o : Nat} {ad : Nat → Nat}  {s : St} {x1 : Int32} {x3 : Int32} {k67 : Int32 → Prop} (hk67 : ∀ (y4 : Int32), k67 y4 → atG p l e rmX6_isTaken s0 m args below meth c 0 0 Z 6 (iW D A H0 (wX6 cy o ad s)) [(0, .ref o), (4, .int y4)] [] 67) {kH : Int32 → Int32 → Prop} (hkH : ∀ (y4 : Int32) (y5 : Int32), kH y4 y5 → atG p l e rmX6_isTaken s0 m args below meth c 0 0 Z 6 (iW D A H0 (wX6 cy o ad s)) [(0, .ref o), (1, .int x1), (3, .int x3), (4, .int y4), (5, .int y5)] [] 26) (x4 : Int32) (x5 : Int32) (h : bX6_isTaken_26 s x1 x3 k67 kH x4 x5) : atG p l e rmX6_isTaken s0 m args below meth c 0 0 Z 6 (iW D A H0 (wX6 cy o ad s)) [(0, .ref o), (1, .int x1), (3, .int x3), (4, .int x4), (5, .int x5)] [] 26 := by
  delta bX6_isTaken_26 at h
  refine aw_iload C dX6_isTaken_26 4 rfl ?_
  refine aw_bipush (v := 36) C dX6_isTaken_28 (by decide) ?_
  refine aw_icmp_ge (tgt := 67) C dX6_isTaken_30 (by decide) (fun c30 => ?_) (fun c30 => ?_)
  · have h := h.1 c30
    refine aw_lv [0, 3] rfl ?_
    exact hk67 x4 h
  have h := h.2 c30
  refine aw_iload C dX6_isTaken_33 3 rfl ?_
  refine aw_if_ne (tgt := 54) C dX6_isTaken_35 (by decide) (fun c35 => ?_) (fun c35 => ?_)
  · have h := h.2 c35
    refine aw_iconst (v := 1) C dX6_isTaken_54 (by decide) ?_
    refine aw_goto (tgt := 59) C dX6_isTaken_55 (by decide) ?_
    refine aw_istore (lv' := [(4, .int 1), (0, .ref o), (1, .int x1), (3, .int x3), (5, .int x5)]) C dX6_isTaken_59 (by decide) rfl ?_
    obtain ⟨x5_61, ex5_61⟩ : ∃ y : Int32, y = x5 + 1 := ⟨_, rfl⟩
    have h := h x5_61 ex5_61
    refine aw_iinc (v := x5_61) (lv' := [(5, .int x5_61), (4, .int 1), (0, .ref o), (1, .int x1), (3, .int x3)]) C dX6_isTaken_61 4 rfl (by rw [ex5_61]; rfl) (by decide) rfl ?_
    refine aw_goto (tgt := 26) C dX6_isTaken_64 (by decide) ?_
    refine aw_lv [2, 3, 4, 1, 0] rfl ?_
    exact hkH 1 x5_61 h
  have h := h.1 c35
  refine aw_aload_n C dX6_isTaken_38 0 rfl ?_
  refine aw_getX6 C K inX6_isTaken_6 dX6_isTaken_39 9 (by decide) qX6_isTaken_fieldLink_RX6_32 0 (wX6_g ..) rfl ?_
  refine aw_bipush (v := 36) C dX6_isTaken_42 (by decide) ?_
  refine aw_iload_n C dX6_isTaken_44 1 rfl ?_
  refine aw_imul C dX6_isTaken_45 ?_
  refine aw_iload C dX6_isTaken_46 4 rfl ?_
  refine aw_iadd C dX6_isTaken_48 ?_
  obtain ⟨b49, h⟩ := h
  refine aw_iald C K dX6_isTaken_49 8 (wX6_g9 ..) b49 ?_
  refine aw_iload_n C dX6_isTaken_50 2 rfl ?_
  refine aw_icmp_ne (tgt := 58) C dX6_isTaken_51 (by decide) (fun c51 => ?_) (fun c51 => ?_)
  · have h := h.2 c51
    refine aw_iconst (v := 0) C dX6_isTaken_58 (by decide) ?_
    refine aw_istore (lv' := [(4, .int 0), (0, .ref o), (1, .int x1), (3, .int x3), (5, .int x5)]) C dX6_isTaken_59 (by decide) rfl ?_
    obtain ⟨x5_61, ex5_61⟩ : ∃ y : Int32, y = x5 + 1 := ⟨_, rfl⟩
    have h := h x5_61 ex5_61
    refine aw_iinc (v := x5_61) (lv' := [(5, .int x5_61), (4, .int 0), (0, .ref o), (1, .int x1), (3, .int x3)]) C dX6_isTaken_61 4 rfl (by rw [ex5_61]; rfl) (by decide) rfl ?_
    refine aw_goto (tgt := 26) C dX6_isTaken_64 (by decide) ?_
    refine aw_lv [2, 3, 4, 1, 0] rfl ?_
    exact hkH 0 x5_61 h
  have h := h.1 c51
  refine aw_iconst (v := 1) C dX6_isTaken_54 (by decide) ?_
  refine aw_goto (tgt := 59) C dX6_isTaken_55 (by decide) ?_
  refine aw_istore (lv' := [(4, .int 1), (0, .ref o), (1, .int x1), (3, .int x3), (5, .int x5)]) C dX6_isTaken_59 (by decide) rfl ?_
  obtain ⟨x5_61, ex5_61⟩ : ∃ y : Int32, y = x5 + 1 := ⟨_, rfl⟩
  have h := h x5_61 ex5_61
  refine aw_iinc (v := x5_61) (lv' := [(5, .int x5_61), (4, .int 1), (0, .ref o), (1, .int x1), (3, .int x3)]) C dX6_isTaken_61 4 rfl (by rw [ex5_61]; rfl) (by decide) rfl ?_
  refine aw_goto (tgt := 26) C dX6_isTaken_64 (by decide) ?_
  refine aw_lv [2, 3, 4, 1, 0] rfl ?_
  exact hkH 1 x5_61 h
theorem tlX6_isTaken_26 (C : ctB p s0 m args c cX6_isTaken 6 RX6 wsX6_isTaken) (K : ctK s0 D A H0 cy) {o : Nat} {ad : Nat → Nat}  {s : St} {x1 : Int32} {x3 : Int32} {k67 : Int32 → Prop} (hk67 : ∀ (y4 : Int32), k67 y4 → atG p l e rmX6_isTaken s0 m args below meth c 0 0 Z 6 (iW D A H0 (wX6 cy o ad s)) [(0, .ref o), (4, .int y4)] [] 67) (x4 : Int32) (x5 : Int32) (h : lX6_isTaken_26 s x1 x3 k67 x4 x5) : atG p l e rmX6_isTaken s0 m args below meth c 0 0 Z 6 (iW D A H0 (wX6 cy o ad s)) [(0, .ref o), (1, .int x1), (3, .int x3), (4, .int x4), (5, .int x5)] [] 26 :=
  lp_W (σ := Int32 × Int32) (P := fun q => atG p l e rmX6_isTaken s0 m args below meth c 0 0 Z 6 (iW D A H0 (wX6 cy o ad s)) [(0, .ref o), (1, .int x1), (3, .int x3), (4, .int q.1), (5, .int q.2)] [] 26) (fun K2 hK2 q hb => tbX6_isTaken_26 C K hk67 (fun x4 x5 hk => hK2 (x4, x5) hk) q.1 q.2 hb) (x4, x5) h
theorem eX6_isTaken (C : ctB p s0 m args c cX6_isTaken 6 RX6 wsX6_isTaken) (K : ctK s0 D A H0 cy) {o : Nat} {ad : Nat → Nat} {Q : Int32 → Prop} (s : St) (hQ : ∀ (v : Int32), narrow .boolean (.int v) = .int v → Q v → ∀ pc, decode cX6_isTaken pc = .ok (.ireturn, 1) → atG p l e rmX6_isTaken s0 m args below meth c 0 0 Z 6 (iW D A H0 (wX6 cy o ad s)) [] [.int v] pc) (x1 : Int32) (x2 : Int32) (x3 : Int32) (h : pX6_isTaken  s x1 x2 x3 Q) : atG p l e rmX6_isTaken s0 m args below meth c 0 0 Z 6 (iW D A H0 (wX6 cy o ad s)) [(0, .ref o), (1, .int x1), (2, .int x2), (3, .int x3)] [] 0 := by
  delta pX6_isTaken at h
  refine aw_aload_n C dX6_isTaken_0 0 rfl ?_
  refine aw_getX6 C K inX6_isTaken_6 dX6_isTaken_1 9 (by decide) qX6_isTaken_fieldLink_RX6_32 0 (wX6_g ..) rfl ?_
  refine aw_bipush (v := 36) C dX6_isTaken_4 (by decide) ?_
  refine aw_iload_n C dX6_isTaken_6 1 rfl ?_
  refine aw_imul C dX6_isTaken_7 ?_
  refine aw_iload_n C dX6_isTaken_8 2 rfl ?_
  refine aw_iadd C dX6_isTaken_9 ?_
  obtain ⟨b10, h⟩ := h
  refine aw_iald C K dX6_isTaken_10 8 (wX6_g9 ..) b10 ?_
  refine aw_ldc (v := (-1000000)) C dX6_isTaken_11 qX6_isTaken_constant_RX6_118_1000000 ?_
  refine aw_icmp_eq (tgt := 20) C dX6_isTaken_13 (by decide) (fun c13 => ?_) (fun c13 => ?_)
  · have h := h.1 c13
    refine aw_iconst (v := 0) C dX6_isTaken_20 (by decide) ?_
    refine aw_istore (lv' := [(4, .int 0), (0, .ref o), (1, .int x1), (2, .int x2), (3, .int x3)]) C dX6_isTaken_21 (by decide) rfl ?_
    refine aw_iconst (v := 0) C dX6_isTaken_23 (by decide) ?_
    refine aw_istore (lv' := [(5, .int 0), (4, .int 0), (0, .ref o), (1, .int x1), (2, .int x2), (3, .int x3)]) C dX6_isTaken_24 (by decide) rfl ?_
    refine aw_lv [2, 3, 5, 1, 0] rfl ?_
    refine tlX6_isTaken_26 C K ?_ 0 0 h
    intro z67_4 h
    refine aw_iload C dX6_isTaken_67 1 rfl ?_
    refine aw_lv [] rfl ?_
    exact hQ z67_4 h.1 h.2 69 dX6_isTaken_69
  have h := h.2 c13
  refine aw_iconst (v := 1) C dX6_isTaken_16 (by decide) ?_
  refine aw_goto (tgt := 21) C dX6_isTaken_17 (by decide) ?_
  refine aw_istore (lv' := [(4, .int 1), (0, .ref o), (1, .int x1), (2, .int x2), (3, .int x3)]) C dX6_isTaken_21 (by decide) rfl ?_
  refine aw_iconst (v := 0) C dX6_isTaken_23 (by decide) ?_
  refine aw_istore (lv' := [(5, .int 0), (4, .int 1), (0, .ref o), (1, .int x1), (2, .int x2), (3, .int x3)]) C dX6_isTaken_24 (by decide) rfl ?_
  refine aw_lv [2, 3, 5, 1, 0] rfl ?_
  refine tlX6_isTaken_26 C K ?_ 1 0 h
  intro z67_4 h
  refine aw_iload C dX6_isTaken_67 1 rfl ?_
  refine aw_lv [] rfl ?_
  exact hQ z67_4 h.1 h.2 69 dX6_isTaken_69
end SX6_isTaken
theorem mtX6_isTaken (l : Launch) (D : va_G) (cy : Nat → ClassId) (o : Nat) (ad : Nat → Nat) (s : St) (x1 : Int32) (x2 : Int32) (x3 : Int32) (Q : Int32 → Prop) (hw : pX6_isTaken  s x1 x2 x3 Q) : mI l yX6_isTaken wsX6_isTaken rmX6_isTaken D cy [.ref o, .int x1, .int x2, .int x3] (wX6 cy o ad s) (wX6 cy o ad) (fun r u => Q r ∧ u = s) :=
  metZ (ty := .boolean) (Wd := wX6 cy o ad) ⟨rfl, rfl⟩ (by decide) rfl (Nat.le_of_ble_eq_true rfl) (fun C K hQ => eX6_isTaken C K s (fun v hn hq => hQ v s hn ⟨hq, rfl⟩) x1 x2 x3 hw)
def rmX6_call : Room := { frames := 4, cells := 0, slots := 0, locals := 103 }
theorem inX6_call_6 : ∀ w ∈ wsX60, w ∈ wsX6_call := fun w h => (List.mem_cons_of_mem _ (List.mem_append_right _ h))
theorem qX6_call_fieldLink_RX6_81 : Cond.fieldLink RX6 81 "StageSwitchModel" "thrown" "I" ∈ wsX6_call := (List.mem_cons_of_mem _ (List.mem_append_left _ (List.mem_append_left _ (List.mem_of_getElem? (i := 0) rfl))))
theorem qX6_call_constant_RX6_101_1000001 : Cond.constant RX6 101 (-1000001) ∈ wsX6_call := (List.mem_cons_of_mem _ (List.mem_append_left _ (List.mem_append_left _ (List.mem_of_getElem? (i := 1) rfl))))
theorem qX6_call_fieldLink_RX6_85 : Cond.fieldLink RX6 85 "StageSwitchModel" "status" "I" ∈ wsX6_call := (List.mem_cons_of_mem _ (List.mem_append_left _ (List.mem_append_left _ (List.mem_of_getElem? (i := 2) rfl))))
theorem qX6_call_fieldLink_RX6_22 : Cond.fieldLink RX6 22 "StageSwitchModel" "lines" "[I" ∈ wsX6_call := (List.mem_cons_of_mem _ (List.mem_append_left _ (List.mem_append_left _ (List.mem_of_getElem? (i := 4) rfl))))
theorem qX6_call_constant_RX6_118_1000000 : Cond.constant RX6 118 (-1000000) ∈ wsX6_call := (List.mem_cons_of_mem _ (List.mem_append_left _ (List.mem_append_left _ (List.mem_of_getElem? (i := 5) rfl))))
theorem qX6_call_constant_RX6_184_1000002 : Cond.constant RX6 184 (-1000002) ∈ wsX6_call := (List.mem_cons_of_mem _ (List.mem_append_left _ (List.mem_append_left _ (List.mem_of_getElem? (i := 3) rfl))))
section SX6_call
variable {p : Program} {l : Launch} {e : Env} {s0 : State} {m : MethodId} {args : Array Value} {below : List Frame} {meth : Method} {c : Code} {D : va_G} {A : Nat → Prop} {H0 : Heap} {cy : Nat → ClassId} {Z : State → Prop}
theorem eX6_call (C : ctB p s0 m args c cX6_call 8 RX6 wsX6_call) (K : ctK s0 D A H0 cy) {o : Nat} {ad : Nat → Nat} {Q : Int32 → St → Prop} (hQ : ∀ (v : Int32) (u : St), Q v u → ∀ pc, decode cX6_call pc = .ok (.ireturn, 1) → atG p l e rmX6_call s0 m args below meth c 0 0 Z 8 (iW D A H0 (wX6 cy o ad u)) [] [.int v] pc) (s : St) (x1 : Int32) (x2 : Int32) (x3 : Int32) (x4 : Int32) (h : pX6_call  s x1 x2 x3 x4 Q) : atG p l e rmX6_call s0 m args below meth c 0 0 Z 8 (iW D A H0 (wX6 cy o ad s)) [(0, .ref o), (1, .int x1), (2, .int x2), (3, .int x3), (4, .int x4)] [] 0 := by
  delta pX6_call at h
  refine aw_aload_n C dX6_call_0 0 rfl ?_
  refine aw_iconst (v := 0) C dX6_call_1 (by decide) ?_
  refine aw_putX6 (ty := .int) C K inX6_call_6 dX6_call_2 0 (by decide) qX6_call_fieldLink_RX6_81 0 (wX6_g ..) rfl (by decide +kernel) rfl rfl (Nat.le_of_ble_eq_true rfl) (wX6_p0 ..) ?_
  obtain ⟨s2, es2⟩ : ∃ z, z = (uF s 0 0) := ⟨_, rfl⟩
  rw [← es2]
  have h := h s2 es2
  refine aw_iload_n C dX6_call_5 1 rfl ?_
  refine aw_callS (As := [.int x1]) (rest := []) C (mtX6_isPlace l x1 _ h) (va_cwS 1 C.2.2.2.2.1 gX6_call_X6_isPlace rfl rfl rfl (by decide +kernel) ⟨Nat.le_of_ble_eq_true rfl, Nat.le_of_ble_eq_true rfl⟩) rfl rfl (Nat.le_of_ble_eq_true rfl) ⟨rfl, rfl⟩ ⟨Nat.zero_le _, Nat.zero_le _⟩ dX6_call_6 (fun r6 h => ?_)
  refine aw_if_eq (tgt := 23) C dX6_call_9 (by decide) (fun c9 => ?_) (fun c9 => ?_)
  · have h := h.1 c9
    refine aw_ldc (v := (-1000001)) C dX6_call_23 qX6_call_constant_RX6_101_1000001 ?_
    refine aw_lv [] rfl ?_
    exact hQ (-1000001) s2 h 25 dX6_call_25
  have h := h.2 c9
  refine aw_iload C dX6_call_12 4 rfl ?_
  refine aw_i2l C dX6_call_14 ?_
  refine aw_lconst (v := 0) C dX6_call_15 (by decide) ?_
  refine aw_lconst (v := 1) C dX6_call_16 (by decide) ?_
  refine aw_callS (As := [.long x4.toInt64, .long 0, .long 1]) (rest := []) C (mtX6_in l x4.toInt64 0 1 _ h) (va_cwS 3 C.2.2.2.2.1 gX6_call_X6_in rfl rfl rfl (by decide +kernel) ⟨Nat.le_of_ble_eq_true rfl, Nat.le_of_ble_eq_true rfl⟩) rfl rfl (Nat.le_of_ble_eq_true rfl) ⟨rfl, rfl⟩ ⟨Nat.zero_le _, Nat.zero_le _⟩ dX6_call_17 (fun r17 h => ?_)
  refine aw_if_ne (tgt := 26) C dX6_call_20 (by decide) (fun c20 => ?_) (fun c20 => ?_)
  · have h := h.2 c20
    refine aw_aload_n C dX6_call_26 0 rfl ?_
    refine aw_getX6 C K inX6_call_6 dX6_call_27 1 (by decide) qX6_call_fieldLink_RX6_85 0 (wX6_g ..) rfl ?_
    refine aw_name (fun x5_30 ex5_30 => ?_)
    have h := h x5_30 ex5_30
    refine aw_istore (lv' := [(5, .int x5_30), (0, .ref o), (1, .int x1), (2, .int x2), (3, .int x3), (4, .int x4)]) C dX6_call_30 (by decide) rfl ?_
    refine aw_aload_n C dX6_call_32 1 rfl ?_
    refine aw_iload_n C dX6_call_33 2 rfl ?_
    refine aw_callI (As := [.int x1]) (rest := []) C K (mtX6_look l D cy o ad s2 x1 _ h) (cwV 1 C.2.2.2.2.1 gX6_call_X6_look rfl rfl rfl (by decide +kernel) ⟨Nat.le_of_ble_eq_true rfl, Nat.le_of_ble_eq_true rfl⟩) 0 6 (wX6_g ..) rfl rfl rfl rfl (Nat.le_of_ble_eq_true rfl) ⟨Nat.le_of_ble_eq_true rfl, Nat.le_of_ble_eq_true rfl⟩ dX6_call_34 (fun r34 s34 h => ?_)
    refine aw_istore (lv' := [(6, .int r34), (5, .int x5_30), (0, .ref o), (1, .int x1), (2, .int x2), (3, .int x3), (4, .int x4)]) C dX6_call_37 (by decide) rfl ?_
    refine aw_iload C dX6_call_39 0 rfl ?_
    refine aw_if_ge (tgt := 47) C dX6_call_41 (by decide) (fun c41 => ?_) (fun c41 => ?_)
    · have h := h.1 c41
      refine aw_aload_n C dX6_call_47 2 rfl ?_
      refine aw_iload_n C dX6_call_48 3 rfl ?_
      refine aw_iload_n C dX6_call_49 4 rfl ?_
      refine aw_callI (As := [.int x1, .int x2]) (rest := []) C K (mtX6_isLine l D cy o ad s34 x1 x2 _ h) (cwV 2 C.2.2.2.2.1 gX6_call_X6_isLine rfl rfl rfl (by decide +kernel) ⟨Nat.le_of_ble_eq_true rfl, Nat.le_of_ble_eq_true rfl⟩) 0 6 (wX6_g ..) rfl rfl rfl rfl (Nat.le_of_ble_eq_true rfl) ⟨Nat.le_of_ble_eq_true rfl, Nat.le_of_ble_eq_true rfl⟩ dX6_call_50 (fun r50 s50 h => ?_)
      obtain ⟨h, hu50⟩ := h
      rw [hu50]
      refine aw_if_eq (tgt := 65) C dX6_call_53 (by decide) (fun c53 => ?_) (fun c53 => ?_)
      · have h := h.1 c53
        refine aw_aload_n C dX6_call_65 2 rfl ?_
        refine aw_iload C dX6_call_66 1 rfl ?_
        refine aw_putX6 (ty := .int) C K inX6_call_6 dX6_call_68 1 (by decide) qX6_call_fieldLink_RX6_85 0 (wX6_g ..) rfl (by decide +kernel) rfl rfl (Nat.le_of_ble_eq_true rfl) (wX6_p1 ..) ?_
        obtain ⟨s68, es68⟩ : ∃ z, z = (uF s34 1 x5_30) := ⟨_, rfl⟩
        rw [← es68]
        have h := h s68 es68
        refine aw_ldc (v := (-1000001)) C dX6_call_71 qX6_call_constant_RX6_101_1000001 ?_
        refine aw_lv [] rfl ?_
        exact hQ (-1000001) s68 h 73 dX6_call_73
      have h := h.2 c53
      refine aw_aload_n C dX6_call_56 2 rfl ?_
      refine aw_iload_n C dX6_call_57 3 rfl ?_
      refine aw_iload_n C dX6_call_58 5 rfl ?_
      refine aw_callI (As := [.int x1, .int x3]) (rest := []) C K (mtX6_isLine l D cy o ad s34 x1 x3 _ h) (cwV 2 C.2.2.2.2.1 gX6_call_X6_isLine rfl rfl rfl (by decide +kernel) ⟨Nat.le_of_ble_eq_true rfl, Nat.le_of_ble_eq_true rfl⟩) 0 6 (wX6_g ..) rfl rfl rfl rfl (Nat.le_of_ble_eq_true rfl) ⟨Nat.le_of_ble_eq_true rfl, Nat.le_of_ble_eq_true rfl⟩ dX6_call_59 (fun r59 s59 h => ?_)
      obtain ⟨h, hu59⟩ := h
      rw [hu59]
      refine aw_if_ne (tgt := 74) C dX6_call_62 (by decide) (fun c62 => ?_) (fun c62 => ?_)
      · have h := h.2 c62
        refine aw_aload_n C dX6_call_74 2 rfl ?_
        refine aw_iload_n C dX6_call_75 3 rfl ?_
        refine aw_iload_n C dX6_call_76 4 rfl ?_
        refine aw_iload_n C dX6_call_77 5 rfl ?_
        refine aw_callI (As := [.int x1, .int x2, .int x3]) (rest := []) C K (mtX6_isTaken l D cy o ad s34 x1 x2 x3 _ h) (cwV 3 C.2.2.2.2.1 gX6_call_X6_isTaken rfl rfl rfl (by decide +kernel) ⟨Nat.le_of_ble_eq_true rfl, Nat.le_of_ble_eq_true rfl⟩) 0 6 (wX6_g ..) rfl rfl rfl rfl (Nat.le_of_ble_eq_true rfl) ⟨Nat.le_of_ble_eq_true rfl, Nat.le_of_ble_eq_true rfl⟩ dX6_call_78 (fun r78 s78 h => ?_)
        obtain ⟨h, hu78⟩ := h
        rw [hu78]
        refine aw_if_eq (tgt := 93) C dX6_call_81 (by decide) (fun c81 => ?_) (fun c81 => ?_)
        · have h := h.1 c81
          refine aw_aload_n C dX6_call_93 2 rfl ?_
          refine aw_iload_n C dX6_call_94 3 rfl ?_
          refine aw_iload_n C dX6_call_95 4 rfl ?_
          refine aw_aload_n C dX6_call_96 2 rfl ?_
          refine aw_getX6 C K inX6_call_6 dX6_call_97 6 (by decide) qX6_call_fieldLink_RX6_22 0 (wX6_g ..) rfl ?_
          refine aw_iload_n C dX6_call_100 3 rfl ?_
          obtain ⟨b101, h⟩ := h
          refine aw_iald C K dX6_call_101 5 (wX6_g6 ..) b101 ?_
          obtain ⟨hz102, h⟩ := h
          refine aw_idiv C dX6_call_102 hz102 ?_
          refine aw_iload_n C dX6_call_103 5 rfl ?_
          refine aw_aload_n C dX6_call_104 2 rfl ?_
          refine aw_getX6 C K inX6_call_6 dX6_call_105 6 (by decide) qX6_call_fieldLink_RX6_22 0 (wX6_g ..) rfl ?_
          refine aw_iload_n C dX6_call_108 3 rfl ?_
          obtain ⟨b109, h⟩ := h
          refine aw_iald C K dX6_call_109 5 (wX6_g6 ..) b109 ?_
          obtain ⟨hz110, h⟩ := h
          refine aw_idiv C dX6_call_110 hz110 ?_
          refine aw_callI (As := [.int x1, .int (x2 / (sA s34 6 x1.toNatClampNeg)), .int (x3 / (sA s34 6 x1.toNatClampNeg))]) (rest := []) C K (mtX6_best l D cy o ad s34 x1 (x2 / (sA s34 6 x1.toNatClampNeg)) (x3 / (sA s34 6 x1.toNatClampNeg)) _ h) (cwV 3 C.2.2.2.2.1 gX6_call_X6_best rfl rfl rfl (by decide +kernel) ⟨Nat.le_of_ble_eq_true rfl, Nat.le_of_ble_eq_true rfl⟩) 0 6 (wX6_g ..) rfl rfl rfl rfl (Nat.le_of_ble_eq_true rfl) ⟨Nat.le_of_ble_eq_true rfl, Nat.le_of_ble_eq_true rfl⟩ dX6_call_111 (fun r111 s111 h => ?_)
          refine aw_istore (lv' := [(7, .int r111), (6, .int r34), (5, .int x5_30), (0, .ref o), (1, .int x1), (2, .int x2), (3, .int x3), (4, .int x4)]) C dX6_call_114 (by decide) rfl ?_
          refine aw_iload C dX6_call_116 0 rfl ?_
          refine aw_ldc (v := (-1000000)) C dX6_call_118 qX6_call_constant_RX6_118_1000000 ?_
          refine aw_icmp_eq (tgt := 133) C dX6_call_120 (by decide) (fun c120 => ?_) (fun c120 => ?_)
          · have h := h.1 c120
            refine aw_ldc (v := (-1000000)) C dX6_call_133 qX6_call_constant_RX6_118_1000000 ?_
            refine aw_goto (tgt := 145) C dX6_call_135 (by decide) ?_
            refine aw_lv [] rfl ?_
            exact hQ (-1000000) s111 h 145 dX6_call_145
          have h := h.2 c120
          refine aw_iload C dX6_call_123 0 rfl ?_
          refine aw_if_le (tgt := 138) C dX6_call_125 (by decide) (fun c125 => ?_) (fun c125 => ?_)
          · have h := h.1 c125
            refine aw_aload_n C dX6_call_138 3 rfl ?_
            refine aw_iload_n C dX6_call_139 4 rfl ?_
            refine aw_iload_n C dX6_call_140 5 rfl ?_
            refine aw_iload_n C dX6_call_141 6 rfl ?_
            refine aw_callI (As := [.int x1, .int x2, .int x3]) (rest := []) C K (mtX6_setUp l D cy o ad s111 x1 x2 x3 _ h) (cwV 3 C.2.2.2.2.1 gX6_call_X6_setUp rfl rfl rfl (by decide +kernel) ⟨Nat.le_of_ble_eq_true rfl, Nat.le_of_ble_eq_true rfl⟩) 0 6 (wX6_g ..) rfl rfl rfl rfl (Nat.le_of_ble_eq_true rfl) ⟨Nat.le_of_ble_eq_true rfl, Nat.le_of_ble_eq_true rfl⟩ dX6_call_142 (fun r142 s142 h => ?_)
            refine aw_lv [] rfl ?_
            exact hQ r142 s142 h 145 dX6_call_145
          have h := h.2 c125
          refine aw_iload C dX6_call_128 7 rfl ?_
          refine aw_if_ne (tgt := 138) C dX6_call_130 (by decide) (fun c130 => ?_) (fun c130 => ?_)
          · have h := h.2 c130
            refine aw_aload_n C dX6_call_138 3 rfl ?_
            refine aw_iload_n C dX6_call_139 4 rfl ?_
            refine aw_iload_n C dX6_call_140 5 rfl ?_
            refine aw_iload_n C dX6_call_141 6 rfl ?_
            refine aw_callI (As := [.int x1, .int x2, .int x3]) (rest := []) C K (mtX6_setUp l D cy o ad s111 x1 x2 x3 _ h) (cwV 3 C.2.2.2.2.1 gX6_call_X6_setUp rfl rfl rfl (by decide +kernel) ⟨Nat.le_of_ble_eq_true rfl, Nat.le_of_ble_eq_true rfl⟩) 0 6 (wX6_g ..) rfl rfl rfl rfl (Nat.le_of_ble_eq_true rfl) ⟨Nat.le_of_ble_eq_true rfl, Nat.le_of_ble_eq_true rfl⟩ dX6_call_142 (fun r142 s142 h => ?_)
            refine aw_lv [] rfl ?_
            exact hQ r142 s142 h 145 dX6_call_145
          have h := h.1 c130
          refine aw_ldc (v := (-1000000)) C dX6_call_133 qX6_call_constant_RX6_118_1000000 ?_
          refine aw_goto (tgt := 145) C dX6_call_135 (by decide) ?_
          refine aw_lv [] rfl ?_
          exact hQ (-1000000) s111 h 145 dX6_call_145
        have h := h.2 c81
        refine aw_aload_n C dX6_call_84 2 rfl ?_
        refine aw_iload C dX6_call_85 1 rfl ?_
        refine aw_putX6 (ty := .int) C K inX6_call_6 dX6_call_87 1 (by decide) qX6_call_fieldLink_RX6_85 0 (wX6_g ..) rfl (by decide +kernel) rfl rfl (Nat.le_of_ble_eq_true rfl) (wX6_p1 ..) ?_
        obtain ⟨s87, es87⟩ : ∃ z, z = (uF s34 1 x5_30) := ⟨_, rfl⟩
        rw [← es87]
        have h := h s87 es87
        refine aw_ldc (v := (-1000002)) C dX6_call_90 qX6_call_constant_RX6_184_1000002 ?_
        refine aw_lv [] rfl ?_
        exact hQ (-1000002) s87 h 92 dX6_call_92
      have h := h.1 c62
      refine aw_aload_n C dX6_call_65 2 rfl ?_
      refine aw_iload C dX6_call_66 1 rfl ?_
      refine aw_putX6 (ty := .int) C K inX6_call_6 dX6_call_68 1 (by decide) qX6_call_fieldLink_RX6_85 0 (wX6_g ..) rfl (by decide +kernel) rfl rfl (Nat.le_of_ble_eq_true rfl) (wX6_p1 ..) ?_
      obtain ⟨s68, es68⟩ : ∃ z, z = (uF s34 1 x5_30) := ⟨_, rfl⟩
      rw [← es68]
      have h := h s68 es68
      refine aw_ldc (v := (-1000001)) C dX6_call_71 qX6_call_constant_RX6_101_1000001 ?_
      refine aw_lv [] rfl ?_
      exact hQ (-1000001) s68 h 73 dX6_call_73
    have h := h.2 c41
    refine aw_iload C dX6_call_44 0 rfl ?_
    refine aw_lv [] rfl ?_
    exact hQ r34 s34 h 46 dX6_call_46
  have h := h.1 c20
  refine aw_ldc (v := (-1000001)) C dX6_call_23 qX6_call_constant_RX6_101_1000001 ?_
  refine aw_lv [] rfl ?_
  exact hQ (-1000001) s2 h 25 dX6_call_25
end SX6_call
theorem mtX6_call (l : Launch) (D : va_G) (cy : Nat → ClassId) (o : Nat) (ad : Nat → Nat) (s : St) (x1 : Int32) (x2 : Int32) (x3 : Int32) (x4 : Int32) (Q : Int32 → St → Prop) (hw : pX6_call  s x1 x2 x3 x4 Q) : mI l yX6_call wsX6_call rmX6_call D cy [.ref o, .int x1, .int x2, .int x3, .int x4] (wX6 cy o ad s) (wX6 cy o ad) Q :=
  metI (Wd := wX6 cy o ad) ⟨rfl, rfl⟩ (by decide) rfl (Nat.le_of_ble_eq_true rfl) (fun C K hQ => eX6_call C K hQ s x1 x2 x3 x4 hw)
def rmX6_end : Room := { frames := 2, cells := 0, slots := 0, locals := 47 }
theorem inX6_end_6 : ∀ w ∈ wsX60, w ∈ wsX6_end := fun w h => (List.mem_cons_of_mem _ (List.mem_append_right _ h))
theorem qX6_end_fieldLink_RX6_81 : Cond.fieldLink RX6 81 "StageSwitchModel" "thrown" "I" ∈ wsX6_end := (List.mem_cons_of_mem _ (List.mem_append_left _ (List.mem_append_left _ (List.mem_of_getElem? (i := 0) rfl))))
theorem qX6_end_fieldLink_RX6_85 : Cond.fieldLink RX6 85 "StageSwitchModel" "status" "I" ∈ wsX6_end := (List.mem_cons_of_mem _ (List.mem_append_left _ (List.mem_append_left _ (List.mem_of_getElem? (i := 2) rfl))))
theorem qX6_end_fieldLink_RX6_32 : Cond.fieldLink RX6 32 "StageSwitchModel" "out" "[I" ∈ wsX6_end := (List.mem_cons_of_mem _ (List.mem_append_left _ (List.mem_append_left _ (List.mem_of_getElem? (i := 3) rfl))))
theorem qX6_end_constant_RX6_118_1000000 : Cond.constant RX6 118 (-1000000) ∈ wsX6_end := (List.mem_cons_of_mem _ (List.mem_append_left _ (List.mem_append_left _ (List.mem_of_getElem? (i := 4) rfl))))
theorem qX6_end_constant_RX6_101_1000001 : Cond.constant RX6 101 (-1000001) ∈ wsX6_end := (List.mem_cons_of_mem _ (List.mem_append_left _ (List.mem_append_left _ (List.mem_of_getElem? (i := 1) rfl))))
section SX6_end
variable {p : Program} {l : Launch} {e : Env} {s0 : State} {m : MethodId} {args : Array Value} {below : List Frame} {meth : Method} {c : Code} {D : va_G} {A : Nat → Prop} {H0 : Heap} {cy : Nat → ClassId} {Z : State → Prop}
theorem eX6_end (C : ctB p s0 m args c cX6_end 6 RX6 wsX6_end) (K : ctK s0 D A H0 cy) {o : Nat} {ad : Nat → Nat} {Q : Int32 → St → Prop} (hQ : ∀ (v : Int32) (u : St), Q v u → ∀ pc, decode cX6_end pc = .ok (.ireturn, 1) → atG p l e rmX6_end s0 m args below meth c 0 0 Z 6 (iW D A H0 (wX6 cy o ad u)) [] [.int v] pc) (s : St) (x1 : Int32) (x2 : Int32) (h : pX6_end  s x1 x2 Q) : atG p l e rmX6_end s0 m args below meth c 0 0 Z 6 (iW D A H0 (wX6 cy o ad s)) [(0, .ref o), (1, .int x1), (2, .int x2)] [] 0 := by
  delta pX6_end at h
  refine aw_aload_n C dX6_end_0 0 rfl ?_
  refine aw_iconst (v := 0) C dX6_end_1 (by decide) ?_
  refine aw_putX6 (ty := .int) C K inX6_end_6 dX6_end_2 0 (by decide) qX6_end_fieldLink_RX6_81 0 (wX6_g ..) rfl (by decide +kernel) rfl rfl (Nat.le_of_ble_eq_true rfl) (wX6_p0 ..) ?_
  obtain ⟨s2, es2⟩ : ∃ z, z = (uF s 0 0) := ⟨_, rfl⟩
  rw [← es2]
  have h := h s2 es2
  refine aw_iload_n C dX6_end_5 1 rfl ?_
  refine aw_callS (As := [.int x1]) (rest := []) C (mtX6_isPlace l x1 _ h) (va_cwS 1 C.2.2.2.2.1 gX6_end_X6_isPlace rfl rfl rfl (by decide +kernel) ⟨Nat.le_of_ble_eq_true rfl, Nat.le_of_ble_eq_true rfl⟩) rfl rfl (Nat.le_of_ble_eq_true rfl) ⟨rfl, rfl⟩ ⟨Nat.zero_le _, Nat.zero_le _⟩ dX6_end_6 (fun r6 h => ?_)
  refine aw_if_ne (tgt := 15) C dX6_end_9 (by decide) (fun c9 => ?_) (fun c9 => ?_)
  · have h := h.2 c9
    refine aw_aload_n C dX6_end_15 0 rfl ?_
    refine aw_getX6 C K inX6_end_6 dX6_end_16 1 (by decide) qX6_end_fieldLink_RX6_85 0 (wX6_g ..) rfl ?_
    refine aw_name (fun x3_19 ex3_19 => ?_)
    have h := h x3_19 ex3_19
    refine aw_istore_n (lv' := [(3, .int x3_19), (0, .ref o), (1, .int x1), (2, .int x2)]) C dX6_end_19 (by decide) rfl ?_
    refine aw_aload_n C dX6_end_20 1 rfl ?_
    refine aw_iload_n C dX6_end_21 2 rfl ?_
    refine aw_callI (As := [.int x1]) (rest := []) C K (mtX6_look l D cy o ad s2 x1 _ h) (cwV 1 C.2.2.2.2.1 gX6_end_X6_look rfl rfl rfl (by decide +kernel) ⟨Nat.le_of_ble_eq_true rfl, Nat.le_of_ble_eq_true rfl⟩) 0 6 (wX6_g ..) rfl rfl rfl rfl (Nat.le_of_ble_eq_true rfl) ⟨Nat.le_of_ble_eq_true rfl, Nat.le_of_ble_eq_true rfl⟩ dX6_end_22 (fun r22 s22 h => ?_)
    refine aw_istore (lv' := [(4, .int r22), (3, .int x3_19), (0, .ref o), (1, .int x1), (2, .int x2)]) C dX6_end_25 (by decide) rfl ?_
    refine aw_iload C dX6_end_27 0 rfl ?_
    refine aw_if_ge (tgt := 35) C dX6_end_29 (by decide) (fun c29 => ?_) (fun c29 => ?_)
    · have h := h.1 c29
      refine aw_aload_n C dX6_end_35 2 rfl ?_
      refine aw_iload_n C dX6_end_36 3 rfl ?_
      refine aw_iload_n C dX6_end_37 4 rfl ?_
      refine aw_callI (As := [.int x1, .int x2]) (rest := []) C K (mtX6_isLine l D cy o ad s22 x1 x2 _ h) (cwV 2 C.2.2.2.2.1 gX6_end_X6_isLine rfl rfl rfl (by decide +kernel) ⟨Nat.le_of_ble_eq_true rfl, Nat.le_of_ble_eq_true rfl⟩) 0 6 (wX6_g ..) rfl rfl rfl rfl (Nat.le_of_ble_eq_true rfl) ⟨Nat.le_of_ble_eq_true rfl, Nat.le_of_ble_eq_true rfl⟩ dX6_end_38 (fun r38 s38 h => ?_)
      obtain ⟨h, hu38⟩ := h
      rw [hu38]
      refine aw_if_ne (tgt := 52) C dX6_end_41 (by decide) (fun c41 => ?_) (fun c41 => ?_)
      · have h := h.2 c41
        refine aw_aload_n C dX6_end_52 2 rfl ?_
        refine aw_getX6 C K inX6_end_6 dX6_end_53 9 (by decide) qX6_end_fieldLink_RX6_32 0 (wX6_g ..) rfl ?_
        refine aw_bipush (v := 36) C dX6_end_56 (by decide) ?_
        refine aw_iload_n C dX6_end_58 3 rfl ?_
        refine aw_imul C dX6_end_59 ?_
        refine aw_iload_n C dX6_end_60 4 rfl ?_
        refine aw_iadd C dX6_end_61 ?_
        obtain ⟨b62, h⟩ := h
        refine aw_iald C K dX6_end_62 8 (wX6_g9 ..) b62 ?_
        refine aw_name (fun x5_63 ex5_63 => ?_)
        have h := h x5_63 ex5_63
        refine aw_istore (lv' := [(5, .int x5_63), (4, .int r22), (3, .int x3_19), (0, .ref o), (1, .int x1), (2, .int x2)]) C dX6_end_63 (by decide) rfl ?_
        refine aw_aload_n C dX6_end_65 3 rfl ?_
        refine aw_getX6 C K inX6_end_6 dX6_end_66 9 (by decide) qX6_end_fieldLink_RX6_32 0 (wX6_g ..) rfl ?_
        refine aw_bipush (v := 36) C dX6_end_69 (by decide) ?_
        refine aw_iload_n C dX6_end_71 4 rfl ?_
        refine aw_imul C dX6_end_72 ?_
        refine aw_iload_n C dX6_end_73 5 rfl ?_
        refine aw_iadd C dX6_end_74 ?_
        refine aw_ldc (v := (-1000000)) C dX6_end_75 qX6_end_constant_RX6_118_1000000 ?_
        obtain ⟨b77, h⟩ := h
        refine aw_iast C K dX6_end_77 8 (wX6_g9 ..) (wX6_s9 ..) b77 ?_
        obtain ⟨s77, es77⟩ : ∃ z, z = (uA s22 9 (upd (sA s22 9) ((36 * x1) + x2).toNatClampNeg (-1000000))) := ⟨_, rfl⟩
        rw [← es77]
        have h := h s77 es77
        refine aw_iload C dX6_end_78 0 rfl ?_
        refine aw_lv [] rfl ?_
        exact hQ x5_63 s77 h 80 dX6_end_80
      have h := h.1 c41
      refine aw_aload_n C dX6_end_44 2 rfl ?_
      refine aw_iload_n C dX6_end_45 1 rfl ?_
      refine aw_putX6 (ty := .int) C K inX6_end_6 dX6_end_46 1 (by decide) qX6_end_fieldLink_RX6_85 0 (wX6_g ..) rfl (by decide +kernel) rfl rfl (Nat.le_of_ble_eq_true rfl) (wX6_p1 ..) ?_
      obtain ⟨s46, es46⟩ : ∃ z, z = (uF s22 1 x3_19) := ⟨_, rfl⟩
      rw [← es46]
      have h := h s46 es46
      refine aw_ldc (v := (-1000001)) C dX6_end_49 qX6_end_constant_RX6_101_1000001 ?_
      refine aw_lv [] rfl ?_
      exact hQ (-1000001) s46 h 51 dX6_end_51
    have h := h.2 c29
    refine aw_iload C dX6_end_32 0 rfl ?_
    refine aw_lv [] rfl ?_
    exact hQ r22 s22 h 34 dX6_end_34
  have h := h.1 c9
  refine aw_ldc (v := (-1000001)) C dX6_end_12 qX6_end_constant_RX6_101_1000001 ?_
  refine aw_lv [] rfl ?_
  exact hQ (-1000001) s2 h 14 dX6_end_14
end SX6_end
theorem mtX6_end (l : Launch) (D : va_G) (cy : Nat → ClassId) (o : Nat) (ad : Nat → Nat) (s : St) (x1 : Int32) (x2 : Int32) (Q : Int32 → St → Prop) (hw : pX6_end  s x1 x2 Q) : mI l yX6_end wsX6_end rmX6_end D cy [.ref o, .int x1, .int x2] (wX6 cy o ad s) (wX6 cy o ad) Q :=
  metI (Wd := wX6 cy o ad) ⟨rfl, rfl⟩ (by decide) rfl (Nat.le_of_ble_eq_true rfl) (fun C K hQ => eX6_end C K hQ s x1 x2 hw)
def rmX6_line : Room := { frames := 2, cells := 0, slots := 0, locals := 47 }
theorem inX6_line_6 : ∀ w ∈ wsX60, w ∈ wsX6_line := fun w h => (List.mem_cons_of_mem _ (List.mem_append_right _ h))
theorem qX6_line_fieldLink_RX6_81 : Cond.fieldLink RX6 81 "StageSwitchModel" "thrown" "I" ∈ wsX6_line := (List.mem_cons_of_mem _ (List.mem_append_left _ (List.mem_append_left _ (List.mem_of_getElem? (i := 0) rfl))))
theorem qX6_line_constant_RX6_101_1000001 : Cond.constant RX6 101 (-1000001) ∈ wsX6_line := (List.mem_cons_of_mem _ (List.mem_append_left _ (List.mem_append_left _ (List.mem_of_getElem? (i := 1) rfl))))
theorem qX6_line_fieldLink_RX6_85 : Cond.fieldLink RX6 85 "StageSwitchModel" "status" "I" ∈ wsX6_line := (List.mem_cons_of_mem _ (List.mem_append_left _ (List.mem_append_left _ (List.mem_of_getElem? (i := 2) rfl))))
theorem qX6_line_fieldLink_RX6_32 : Cond.fieldLink RX6 32 "StageSwitchModel" "out" "[I" ∈ wsX6_line := (List.mem_cons_of_mem _ (List.mem_append_left _ (List.mem_append_left _ (List.mem_of_getElem? (i := 3) rfl))))
theorem qX6_line_constant_RX6_118_1000000 : Cond.constant RX6 118 (-1000000) ∈ wsX6_line := (List.mem_cons_of_mem _ (List.mem_append_left _ (List.mem_append_left _ (List.mem_of_getElem? (i := 4) rfl))))
theorem qX6_line_fieldLink_RX6_35 : Cond.fieldLink RX6 35 "StageSwitchModel" "by" "[I" ∈ wsX6_line := (List.mem_cons_of_mem _ (List.mem_append_left _ (List.mem_append_left _ (List.mem_of_getElem? (i := 5) rfl))))
section SX6_line
variable {p : Program} {l : Launch} {e : Env} {s0 : State} {m : MethodId} {args : Array Value} {below : List Frame} {meth : Method} {c : Code} {D : va_G} {A : Nat → Prop} {H0 : Heap} {cy : Nat → ClassId} {Z : State → Prop}
theorem eX6_line (C : ctB p s0 m args c cX6_line 6 RX6 wsX6_line) (K : ctK s0 D A H0 cy) {o : Nat} {ad : Nat → Nat} {Q : Int32 → St → Prop} (hQ : ∀ (v : Int32) (u : St), Q v u → ∀ pc, decode cX6_line pc = .ok (.ireturn, 1) → atG p l e rmX6_line s0 m args below meth c 0 0 Z 6 (iW D A H0 (wX6 cy o ad u)) [] [.int v] pc) (s : St) (x1 : Int32) (x2 : Int32) (x3 : Int32) (h : pX6_line  s x1 x2 x3 Q) : atG p l e rmX6_line s0 m args below meth c 0 0 Z 6 (iW D A H0 (wX6 cy o ad s)) [(0, .ref o), (1, .int x1), (2, .int x2), (3, .int x3)] [] 0 := by
  delta pX6_line at h
  refine aw_aload_n C dX6_line_0 0 rfl ?_
  refine aw_iconst (v := 0) C dX6_line_1 (by decide) ?_
  refine aw_putX6 (ty := .int) C K inX6_line_6 dX6_line_2 0 (by decide) qX6_line_fieldLink_RX6_81 0 (wX6_g ..) rfl (by decide +kernel) rfl rfl (Nat.le_of_ble_eq_true rfl) (wX6_p0 ..) ?_
  obtain ⟨s2, es2⟩ : ∃ z, z = (uF s 0 0) := ⟨_, rfl⟩
  rw [← es2]
  have h := h s2 es2
  refine aw_iload_n C dX6_line_5 1 rfl ?_
  refine aw_callS (As := [.int x1]) (rest := []) C (mtX6_isPlace l x1 _ h) (va_cwS 1 C.2.2.2.2.1 gX6_line_X6_isPlace rfl rfl rfl (by decide +kernel) ⟨Nat.le_of_ble_eq_true rfl, Nat.le_of_ble_eq_true rfl⟩) rfl rfl (Nat.le_of_ble_eq_true rfl) ⟨rfl, rfl⟩ ⟨Nat.zero_le _, Nat.zero_le _⟩ dX6_line_6 (fun r6 h => ?_)
  refine aw_if_eq (tgt := 22) C dX6_line_9 (by decide) (fun c9 => ?_) (fun c9 => ?_)
  · have h := h.1 c9
    refine aw_ldc (v := (-1000001)) C dX6_line_22 qX6_line_constant_RX6_101_1000001 ?_
    refine aw_lv [] rfl ?_
    exact hQ (-1000001) s2 h 24 dX6_line_24
  have h := h.2 c9
  refine aw_iload_n C dX6_line_12 3 rfl ?_
  refine aw_i2l C dX6_line_13 ?_
  refine aw_lconst (v := 0) C dX6_line_14 (by decide) ?_
  refine aw_lconst (v := 1) C dX6_line_15 (by decide) ?_
  refine aw_callS (As := [.long x3.toInt64, .long 0, .long 1]) (rest := []) C (mtX6_in l x3.toInt64 0 1 _ h) (va_cwS 3 C.2.2.2.2.1 gX6_line_X6_in rfl rfl rfl (by decide +kernel) ⟨Nat.le_of_ble_eq_true rfl, Nat.le_of_ble_eq_true rfl⟩) rfl rfl (Nat.le_of_ble_eq_true rfl) ⟨rfl, rfl⟩ ⟨Nat.zero_le _, Nat.zero_le _⟩ dX6_line_16 (fun r16 h => ?_)
  refine aw_if_ne (tgt := 25) C dX6_line_19 (by decide) (fun c19 => ?_) (fun c19 => ?_)
  · have h := h.2 c19
    refine aw_aload_n C dX6_line_25 0 rfl ?_
    refine aw_getX6 C K inX6_line_6 dX6_line_26 1 (by decide) qX6_line_fieldLink_RX6_85 0 (wX6_g ..) rfl ?_
    refine aw_name (fun x4_29 ex4_29 => ?_)
    have h := h x4_29 ex4_29
    refine aw_istore (lv' := [(4, .int x4_29), (0, .ref o), (1, .int x1), (2, .int x2), (3, .int x3)]) C dX6_line_29 (by decide) rfl ?_
    refine aw_aload_n C dX6_line_31 1 rfl ?_
    refine aw_iload_n C dX6_line_32 2 rfl ?_
    refine aw_callI (As := [.int x1]) (rest := []) C K (mtX6_look l D cy o ad s2 x1 _ h) (cwV 1 C.2.2.2.2.1 gX6_line_X6_look rfl rfl rfl (by decide +kernel) ⟨Nat.le_of_ble_eq_true rfl, Nat.le_of_ble_eq_true rfl⟩) 0 6 (wX6_g ..) rfl rfl rfl rfl (Nat.le_of_ble_eq_true rfl) ⟨Nat.le_of_ble_eq_true rfl, Nat.le_of_ble_eq_true rfl⟩ dX6_line_33 (fun r33 s33 h => ?_)
    refine aw_istore (lv' := [(5, .int r33), (4, .int x4_29), (0, .ref o), (1, .int x1), (2, .int x2), (3, .int x3)]) C dX6_line_36 (by decide) rfl ?_
    refine aw_iload C dX6_line_38 0 rfl ?_
    refine aw_if_ge (tgt := 46) C dX6_line_40 (by decide) (fun c40 => ?_) (fun c40 => ?_)
    · have h := h.1 c40
      refine aw_aload_n C dX6_line_46 2 rfl ?_
      refine aw_iload_n C dX6_line_47 3 rfl ?_
      refine aw_iload_n C dX6_line_48 4 rfl ?_
      refine aw_callI (As := [.int x1, .int x2]) (rest := []) C K (mtX6_isLine l D cy o ad s33 x1 x2 _ h) (cwV 2 C.2.2.2.2.1 gX6_line_X6_isLine rfl rfl rfl (by decide +kernel) ⟨Nat.le_of_ble_eq_true rfl, Nat.le_of_ble_eq_true rfl⟩) 0 6 (wX6_g ..) rfl rfl rfl rfl (Nat.le_of_ble_eq_true rfl) ⟨Nat.le_of_ble_eq_true rfl, Nat.le_of_ble_eq_true rfl⟩ dX6_line_49 (fun r49 s49 h => ?_)
      obtain ⟨h, hu49⟩ := h
      rw [hu49]
      refine aw_if_ne (tgt := 64) C dX6_line_52 (by decide) (fun c52 => ?_) (fun c52 => ?_)
      · have h := h.2 c52
        refine aw_aload_n C dX6_line_64 2 rfl ?_
        refine aw_getX6 C K inX6_line_6 dX6_line_65 9 (by decide) qX6_line_fieldLink_RX6_32 0 (wX6_g ..) rfl ?_
        refine aw_bipush (v := 36) C dX6_line_68 (by decide) ?_
        refine aw_iload_n C dX6_line_70 3 rfl ?_
        refine aw_imul C dX6_line_71 ?_
        refine aw_iload_n C dX6_line_72 4 rfl ?_
        refine aw_iadd C dX6_line_73 ?_
        obtain ⟨b74, h⟩ := h
        refine aw_iald C K dX6_line_74 8 (wX6_g9 ..) b74 ?_
        refine aw_ldc (v := (-1000000)) C dX6_line_75 qX6_line_constant_RX6_118_1000000 ?_
        refine aw_icmp_ne (tgt := 85) C dX6_line_77 (by decide) (fun c77 => ?_) (fun c77 => ?_)
        · have h := h.2 c77
          refine aw_iload_n C dX6_line_85 5 rfl ?_
          refine aw_if_ne (tgt := 103) C dX6_line_86 (by decide) (fun c86 => ?_) (fun c86 => ?_)
          · have h := h.2 c86
            refine aw_aload_n C dX6_line_103 2 rfl ?_
            refine aw_getX6 C K inX6_line_6 dX6_line_104 10 (by decide) qX6_line_fieldLink_RX6_35 0 (wX6_g ..) rfl ?_
            refine aw_bipush (v := 36) C dX6_line_107 (by decide) ?_
            refine aw_iload_n C dX6_line_109 3 rfl ?_
            refine aw_imul C dX6_line_110 ?_
            refine aw_iload_n C dX6_line_111 4 rfl ?_
            refine aw_iadd C dX6_line_112 ?_
            obtain ⟨b113, h⟩ := h
            refine aw_iald C K dX6_line_113 9 (wX6_g10 ..) b113 ?_
            refine aw_lv [] rfl ?_
            exact hQ (sA s33 10 ((36 * x1) + x2).toNatClampNeg) s33 h 114 dX6_line_114
          have h := h.1 c86
          refine aw_aload_n C dX6_line_89 2 rfl ?_
          refine aw_getX6 C K inX6_line_6 dX6_line_90 9 (by decide) qX6_line_fieldLink_RX6_32 0 (wX6_g ..) rfl ?_
          refine aw_bipush (v := 36) C dX6_line_93 (by decide) ?_
          refine aw_iload_n C dX6_line_95 3 rfl ?_
          refine aw_imul C dX6_line_96 ?_
          refine aw_iload_n C dX6_line_97 4 rfl ?_
          refine aw_iadd C dX6_line_98 ?_
          obtain ⟨b99, h⟩ := h
          refine aw_iald C K dX6_line_99 8 (wX6_g9 ..) b99 ?_
          refine aw_goto (tgt := 114) C dX6_line_100 (by decide) ?_
          refine aw_lv [] rfl ?_
          exact hQ (sA s33 9 ((36 * x1) + x2).toNatClampNeg) s33 h 114 dX6_line_114
        have h := h.1 c77
        refine aw_ldc (v := (-1000000)) C dX6_line_80 qX6_line_constant_RX6_118_1000000 ?_
        refine aw_goto (tgt := 114) C dX6_line_82 (by decide) ?_
        refine aw_lv [] rfl ?_
        exact hQ (-1000000) s33 h 114 dX6_line_114
      have h := h.1 c52
      refine aw_aload_n C dX6_line_55 2 rfl ?_
      refine aw_iload C dX6_line_56 1 rfl ?_
      refine aw_putX6 (ty := .int) C K inX6_line_6 dX6_line_58 1 (by decide) qX6_line_fieldLink_RX6_85 0 (wX6_g ..) rfl (by decide +kernel) rfl rfl (Nat.le_of_ble_eq_true rfl) (wX6_p1 ..) ?_
      obtain ⟨s58, es58⟩ : ∃ z, z = (uF s33 1 x4_29) := ⟨_, rfl⟩
      rw [← es58]
      have h := h s58 es58
      refine aw_ldc (v := (-1000001)) C dX6_line_61 qX6_line_constant_RX6_101_1000001 ?_
      refine aw_lv [] rfl ?_
      exact hQ (-1000001) s58 h 63 dX6_line_63
    have h := h.2 c40
    refine aw_iload C dX6_line_43 0 rfl ?_
    refine aw_lv [] rfl ?_
    exact hQ r33 s33 h 45 dX6_line_45
  have h := h.1 c19
  refine aw_ldc (v := (-1000001)) C dX6_line_22 qX6_line_constant_RX6_101_1000001 ?_
  refine aw_lv [] rfl ?_
  exact hQ (-1000001) s2 h 24 dX6_line_24
end SX6_line
theorem mtX6_line (l : Launch) (D : va_G) (cy : Nat → ClassId) (o : Nat) (ad : Nat → Nat) (s : St) (x1 : Int32) (x2 : Int32) (x3 : Int32) (Q : Int32 → St → Prop) (hw : pX6_line  s x1 x2 x3 Q) : mI l yX6_line wsX6_line rmX6_line D cy [.ref o, .int x1, .int x2, .int x3] (wX6 cy o ad s) (wX6 cy o ad) Q :=
  metI (Wd := wX6 cy o ad) ⟨rfl, rfl⟩ (by decide) rfl (Nat.le_of_ble_eq_true rfl) (fun C K hQ => eX6_line C K hQ s x1 x2 x3 hw)
def rmX6_free : Room := { frames := 3, cells := 0, slots := 0, locals := 78 }
theorem inX6_free_6 : ∀ w ∈ wsX60, w ∈ wsX6_free := fun w h => (List.mem_cons_of_mem _ (List.mem_append_right _ h))
theorem qX6_free_fieldLink_RX6_81 : Cond.fieldLink RX6 81 "StageSwitchModel" "thrown" "I" ∈ wsX6_free := (List.mem_cons_of_mem _ (List.mem_append_left _ (List.mem_append_left _ (List.mem_of_getElem? (i := 0) rfl))))
theorem qX6_free_constant_RX6_101_1000001 : Cond.constant RX6 101 (-1000001) ∈ wsX6_free := (List.mem_cons_of_mem _ (List.mem_append_left _ (List.mem_append_left _ (List.mem_of_getElem? (i := 1) rfl))))
theorem qX6_free_fieldLink_RX6_85 : Cond.fieldLink RX6 85 "StageSwitchModel" "status" "I" ∈ wsX6_free := (List.mem_cons_of_mem _ (List.mem_append_left _ (List.mem_append_left _ (List.mem_of_getElem? (i := 2) rfl))))
theorem qX6_free_fieldLink_RX6_22 : Cond.fieldLink RX6 22 "StageSwitchModel" "lines" "[I" ∈ wsX6_free := (List.mem_cons_of_mem _ (List.mem_append_left _ (List.mem_append_left _ (List.mem_of_getElem? (i := 4) rfl))))
theorem qX6_free_fieldLink_RX6_19 : Cond.fieldLink RX6 19 "StageSwitchModel" "middles" "[I" ∈ wsX6_free := (List.mem_cons_of_mem _ (List.mem_append_left _ (List.mem_append_left _ (List.mem_of_getElem? (i := 5) rfl))))
theorem qX6_free_constant_RX6_184_1000002 : Cond.constant RX6 184 (-1000002) ∈ wsX6_free := (List.mem_cons_of_mem _ (List.mem_append_left _ (List.mem_append_left _ (List.mem_of_getElem? (i := 3) rfl))))
section SX6_free
variable {p : Program} {l : Launch} {e : Env} {s0 : State} {m : MethodId} {args : Array Value} {below : List Frame} {meth : Method} {c : Code} {D : va_G} {A : Nat → Prop} {H0 : Heap} {cy : Nat → ClassId} {Z : State → Prop}
theorem tbX6_free_119 (C : ctB p s0 m args c cX6_free 11 RX6 wsX6_free) (K : ctK s0 D A H0 cy) {o : Nat} {ad : Nat → Nat}  {s : St} {x1 : Int32} {x4 : Int32} {x7 : Int32} {x8 : Int32} {k160 : Int32 → Prop} (hk160 : ∀ (y9 : Int32), k160 y9 → atG p l e rmX6_free s0 m args below meth c 0 0 Z 11 (iW D A H0 (wX6 cy o ad s)) [(0, .ref o), (1, .int x1), (4, .int x4), (7, .int x7), (8, .int x8), (9, .int y9)] [] 160) {kH : Int32 → Int32 → Prop} (hkH : ∀ (y9 : Int32) (y10 : Int32), kH y9 y10 → atG p l e rmX6_free s0 m args below meth c 0 0 Z 11 (iW D A H0 (wX6 cy o ad s)) [(0, .ref o), (1, .int x1), (4, .int x4), (7, .int x7), (8, .int x8), (9, .int y9), (10, .int y10)] [] 119) (x9 : Int32) (x10 : Int32) (h : bX6_free_119 s x1 x4 x7 x8 k160 kH x9 x10) : atG p l e rmX6_free s0 m args below meth c 0 0 Z 11 (iW D A H0 (wX6 cy o ad s)) [(0, .ref o), (1, .int x1), (4, .int x4), (7, .int x7), (8, .int x8), (9, .int x9), (10, .int x10)] [] 119 := by
  delta bX6_free_119 at h
  refine aw_iload C dX6_free_119 6 rfl ?_
  refine aw_aload_n C dX6_free_121 0 rfl ?_
  refine aw_getX6 C K inX6_free_6 dX6_free_122 5 (by decide) qX6_free_fieldLink_RX6_19 0 (wX6_g ..) rfl ?_
  refine aw_iload_n C dX6_free_125 1 rfl ?_
  obtain ⟨b126, h⟩ := h
  refine aw_iald C K dX6_free_126 4 (wX6_g5 ..) b126 ?_
  refine aw_icmp_ge (tgt := 160) C dX6_free_127 (by decide) (fun c127 => ?_) (fun c127 => ?_)
  · have h := h.1 c127
    refine aw_lv [0, 1, 2, 3, 4, 5] rfl ?_
    exact hk160 x9 h
  have h := h.2 c127
  refine aw_iload C dX6_free_130 5 rfl ?_
  refine aw_aload_n C dX6_free_132 0 rfl ?_
  refine aw_iload_n C dX6_free_133 1 rfl ?_
  refine aw_iload C dX6_free_134 3 rfl ?_
  refine aw_iload C dX6_free_136 4 rfl ?_
  refine aw_iload C dX6_free_138 6 rfl ?_
  refine aw_callI (As := [.int x1, .int x7, .int x8, .int x10]) (rest := [.int x9]) C K (mtX6_isFree l D cy o ad s x1 x7 x8 x10 _ h) (cwV 4 C.2.2.2.2.1 gX6_free_X6_isFree rfl rfl rfl (by decide +kernel) ⟨Nat.le_of_ble_eq_true rfl, Nat.le_of_ble_eq_true rfl⟩) 0 6 (wX6_g ..) rfl rfl rfl rfl (Nat.le_of_ble_eq_true rfl) ⟨Nat.le_of_ble_eq_true rfl, Nat.le_of_ble_eq_true rfl⟩ dX6_free_140 (fun r140 s140 h => ?_)
  obtain ⟨h, hu140⟩ := h
  rw [hu140]
  refine aw_if_eq (tgt := 150) C dX6_free_143 (by decide) (fun c143 => ?_) (fun c143 => ?_)
  · have h := h.1 c143
    refine aw_iconst (v := 0) C dX6_free_150 (by decide) ?_
    refine aw_iadd C dX6_free_151 ?_
    refine aw_name (fun x9_152 ex9_152 => ?_)
    have h := h x9_152 ex9_152
    refine aw_istore (lv' := [(9, .int x9_152), (0, .ref o), (1, .int x1), (4, .int x4), (7, .int x7), (8, .int x8), (10, .int x10)]) C dX6_free_152 (by decide) rfl ?_
    obtain ⟨x10_154, ex10_154⟩ : ∃ y : Int32, y = x10 + 1 := ⟨_, rfl⟩
    have h := h x10_154 ex10_154
    refine aw_iinc (v := x10_154) (lv' := [(10, .int x10_154), (9, .int x9_152), (0, .ref o), (1, .int x1), (4, .int x4), (7, .int x7), (8, .int x8)]) C dX6_free_154 6 rfl (by rw [ex10_154]; rfl) (by decide) rfl ?_
    refine aw_goto (tgt := 119) C dX6_free_157 (by decide) ?_
    refine aw_lv [2, 3, 4, 5, 6, 1, 0] rfl ?_
    exact hkH x9_152 x10_154 h
  have h := h.2 c143
  refine aw_iconst (v := 1) C dX6_free_146 (by decide) ?_
  refine aw_goto (tgt := 151) C dX6_free_147 (by decide) ?_
  refine aw_iadd C dX6_free_151 ?_
  refine aw_name (fun x9_152 ex9_152 => ?_)
  have h := h x9_152 ex9_152
  refine aw_istore (lv' := [(9, .int x9_152), (0, .ref o), (1, .int x1), (4, .int x4), (7, .int x7), (8, .int x8), (10, .int x10)]) C dX6_free_152 (by decide) rfl ?_
  obtain ⟨x10_154, ex10_154⟩ : ∃ y : Int32, y = x10 + 1 := ⟨_, rfl⟩
  have h := h x10_154 ex10_154
  refine aw_iinc (v := x10_154) (lv' := [(10, .int x10_154), (9, .int x9_152), (0, .ref o), (1, .int x1), (4, .int x4), (7, .int x7), (8, .int x8)]) C dX6_free_154 6 rfl (by rw [ex10_154]; rfl) (by decide) rfl ?_
  refine aw_goto (tgt := 119) C dX6_free_157 (by decide) ?_
  refine aw_lv [2, 3, 4, 5, 6, 1, 0] rfl ?_
  exact hkH x9_152 x10_154 h
theorem tlX6_free_119 (C : ctB p s0 m args c cX6_free 11 RX6 wsX6_free) (K : ctK s0 D A H0 cy) {o : Nat} {ad : Nat → Nat}  {s : St} {x1 : Int32} {x4 : Int32} {x7 : Int32} {x8 : Int32} {k160 : Int32 → Prop} (hk160 : ∀ (y9 : Int32), k160 y9 → atG p l e rmX6_free s0 m args below meth c 0 0 Z 11 (iW D A H0 (wX6 cy o ad s)) [(0, .ref o), (1, .int x1), (4, .int x4), (7, .int x7), (8, .int x8), (9, .int y9)] [] 160) (x9 : Int32) (x10 : Int32) (h : lX6_free_119 s x1 x4 x7 x8 k160 x9 x10) : atG p l e rmX6_free s0 m args below meth c 0 0 Z 11 (iW D A H0 (wX6 cy o ad s)) [(0, .ref o), (1, .int x1), (4, .int x4), (7, .int x7), (8, .int x8), (9, .int x9), (10, .int x10)] [] 119 :=
  lp_W (σ := Int32 × Int32) (P := fun q => atG p l e rmX6_free s0 m args below meth c 0 0 Z 11 (iW D A H0 (wX6 cy o ad s)) [(0, .ref o), (1, .int x1), (4, .int x4), (7, .int x7), (8, .int x8), (9, .int q.1), (10, .int q.2)] [] 119) (fun K2 hK2 q hb => tbX6_free_119 C K hk160 (fun x9 x10 hk => hK2 (x9, x10) hk) q.1 q.2 hb) (x9, x10) h
theorem eX6_free (C : ctB p s0 m args c cX6_free 11 RX6 wsX6_free) (K : ctK s0 D A H0 cy) {o : Nat} {ad : Nat → Nat} {Q : Int32 → St → Prop} (hQ : ∀ (v : Int32) (u : St), Q v u → ∀ pc, decode cX6_free pc = .ok (.ireturn, 1) → atG p l e rmX6_free s0 m args below meth c 0 0 Z 11 (iW D A H0 (wX6 cy o ad u)) [] [.int v] pc) (s : St) (x1 : Int32) (x2 : Int32) (x3 : Int32) (x4 : Int32) (h : pX6_free  s x1 x2 x3 x4 Q) : atG p l e rmX6_free s0 m args below meth c 0 0 Z 11 (iW D A H0 (wX6 cy o ad s)) [(0, .ref o), (1, .int x1), (2, .int x2), (3, .int x3), (4, .int x4)] [] 0 := by
  delta pX6_free at h
  refine aw_aload_n C dX6_free_0 0 rfl ?_
  refine aw_iconst (v := 0) C dX6_free_1 (by decide) ?_
  refine aw_putX6 (ty := .int) C K inX6_free_6 dX6_free_2 0 (by decide) qX6_free_fieldLink_RX6_81 0 (wX6_g ..) rfl (by decide +kernel) rfl rfl (Nat.le_of_ble_eq_true rfl) (wX6_p0 ..) ?_
  obtain ⟨s2, es2⟩ : ∃ z, z = (uF s 0 0) := ⟨_, rfl⟩
  rw [← es2]
  have h := h s2 es2
  refine aw_iload_n C dX6_free_5 1 rfl ?_
  refine aw_callS (As := [.int x1]) (rest := []) C (mtX6_isPlace l x1 _ h) (va_cwS 1 C.2.2.2.2.1 gX6_free_X6_isPlace rfl rfl rfl (by decide +kernel) ⟨Nat.le_of_ble_eq_true rfl, Nat.le_of_ble_eq_true rfl⟩) rfl rfl (Nat.le_of_ble_eq_true rfl) ⟨rfl, rfl⟩ ⟨Nat.zero_le _, Nat.zero_le _⟩ dX6_free_6 (fun r6 h => ?_)
  refine aw_if_eq (tgt := 23) C dX6_free_9 (by decide) (fun c9 => ?_) (fun c9 => ?_)
  · have h := h.1 c9
    refine aw_ldc (v := (-1000001)) C dX6_free_23 qX6_free_constant_RX6_101_1000001 ?_
    refine aw_lv [] rfl ?_
    exact hQ (-1000001) s2 h 25 dX6_free_25
  have h := h.2 c9
  refine aw_iload C dX6_free_12 4 rfl ?_
  refine aw_i2l C dX6_free_14 ?_
  refine aw_lconst (v := 0) C dX6_free_15 (by decide) ?_
  refine aw_lconst (v := 1) C dX6_free_16 (by decide) ?_
  refine aw_callS (As := [.long x4.toInt64, .long 0, .long 1]) (rest := []) C (mtX6_in l x4.toInt64 0 1 _ h) (va_cwS 3 C.2.2.2.2.1 gX6_free_X6_in rfl rfl rfl (by decide +kernel) ⟨Nat.le_of_ble_eq_true rfl, Nat.le_of_ble_eq_true rfl⟩) rfl rfl (Nat.le_of_ble_eq_true rfl) ⟨rfl, rfl⟩ ⟨Nat.zero_le _, Nat.zero_le _⟩ dX6_free_17 (fun r17 h => ?_)
  refine aw_if_ne (tgt := 26) C dX6_free_20 (by decide) (fun c20 => ?_) (fun c20 => ?_)
  · have h := h.2 c20
    refine aw_aload_n C dX6_free_26 0 rfl ?_
    refine aw_getX6 C K inX6_free_6 dX6_free_27 1 (by decide) qX6_free_fieldLink_RX6_85 0 (wX6_g ..) rfl ?_
    refine aw_name (fun x5_30 ex5_30 => ?_)
    have h := h x5_30 ex5_30
    refine aw_istore (lv' := [(5, .int x5_30), (0, .ref o), (1, .int x1), (2, .int x2), (3, .int x3), (4, .int x4)]) C dX6_free_30 (by decide) rfl ?_
    refine aw_aload_n C dX6_free_32 1 rfl ?_
    refine aw_iload_n C dX6_free_33 2 rfl ?_
    refine aw_callI (As := [.int x1]) (rest := []) C K (mtX6_look l D cy o ad s2 x1 _ h) (cwV 1 C.2.2.2.2.1 gX6_free_X6_look rfl rfl rfl (by decide +kernel) ⟨Nat.le_of_ble_eq_true rfl, Nat.le_of_ble_eq_true rfl⟩) 0 6 (wX6_g ..) rfl rfl rfl rfl (Nat.le_of_ble_eq_true rfl) ⟨Nat.le_of_ble_eq_true rfl, Nat.le_of_ble_eq_true rfl⟩ dX6_free_34 (fun r34 s34 h => ?_)
    refine aw_istore (lv' := [(6, .int r34), (5, .int x5_30), (0, .ref o), (1, .int x1), (2, .int x2), (3, .int x3), (4, .int x4)]) C dX6_free_37 (by decide) rfl ?_
    refine aw_iload C dX6_free_39 0 rfl ?_
    refine aw_if_ge (tgt := 47) C dX6_free_41 (by decide) (fun c41 => ?_) (fun c41 => ?_)
    · have h := h.1 c41
      refine aw_aload_n C dX6_free_47 2 rfl ?_
      refine aw_iload_n C dX6_free_48 3 rfl ?_
      refine aw_iload_n C dX6_free_49 4 rfl ?_
      refine aw_callI (As := [.int x1, .int x2]) (rest := []) C K (mtX6_isLine l D cy o ad s34 x1 x2 _ h) (cwV 2 C.2.2.2.2.1 gX6_free_X6_isLine rfl rfl rfl (by decide +kernel) ⟨Nat.le_of_ble_eq_true rfl, Nat.le_of_ble_eq_true rfl⟩) 0 6 (wX6_g ..) rfl rfl rfl rfl (Nat.le_of_ble_eq_true rfl) ⟨Nat.le_of_ble_eq_true rfl, Nat.le_of_ble_eq_true rfl⟩ dX6_free_50 (fun r50 s50 h => ?_)
      obtain ⟨h, hu50⟩ := h
      rw [hu50]
      refine aw_if_eq (tgt := 65) C dX6_free_53 (by decide) (fun c53 => ?_) (fun c53 => ?_)
      · have h := h.1 c53
        refine aw_aload_n C dX6_free_65 2 rfl ?_
        refine aw_iload C dX6_free_66 1 rfl ?_
        refine aw_putX6 (ty := .int) C K inX6_free_6 dX6_free_68 1 (by decide) qX6_free_fieldLink_RX6_85 0 (wX6_g ..) rfl (by decide +kernel) rfl rfl (Nat.le_of_ble_eq_true rfl) (wX6_p1 ..) ?_
        obtain ⟨s68, es68⟩ : ∃ z, z = (uF s34 1 x5_30) := ⟨_, rfl⟩
        rw [← es68]
        have h := h s68 es68
        refine aw_ldc (v := (-1000001)) C dX6_free_71 qX6_free_constant_RX6_101_1000001 ?_
        refine aw_lv [] rfl ?_
        exact hQ (-1000001) s68 h 73 dX6_free_73
      have h := h.2 c53
      refine aw_aload_n C dX6_free_56 2 rfl ?_
      refine aw_iload_n C dX6_free_57 3 rfl ?_
      refine aw_iload_n C dX6_free_58 5 rfl ?_
      refine aw_callI (As := [.int x1, .int x3]) (rest := []) C K (mtX6_isLine l D cy o ad s34 x1 x3 _ h) (cwV 2 C.2.2.2.2.1 gX6_free_X6_isLine rfl rfl rfl (by decide +kernel) ⟨Nat.le_of_ble_eq_true rfl, Nat.le_of_ble_eq_true rfl⟩) 0 6 (wX6_g ..) rfl rfl rfl rfl (Nat.le_of_ble_eq_true rfl) ⟨Nat.le_of_ble_eq_true rfl, Nat.le_of_ble_eq_true rfl⟩ dX6_free_59 (fun r59 s59 h => ?_)
      obtain ⟨h, hu59⟩ := h
      rw [hu59]
      refine aw_if_ne (tgt := 74) C dX6_free_62 (by decide) (fun c62 => ?_) (fun c62 => ?_)
      · have h := h.2 c62
        refine aw_aload_n C dX6_free_74 2 rfl ?_
        refine aw_iload_n C dX6_free_75 3 rfl ?_
        refine aw_iload_n C dX6_free_76 4 rfl ?_
        refine aw_iload_n C dX6_free_77 5 rfl ?_
        refine aw_callI (As := [.int x1, .int x2, .int x3]) (rest := []) C K (mtX6_isTaken l D cy o ad s34 x1 x2 x3 _ h) (cwV 3 C.2.2.2.2.1 gX6_free_X6_isTaken rfl rfl rfl (by decide +kernel) ⟨Nat.le_of_ble_eq_true rfl, Nat.le_of_ble_eq_true rfl⟩) 0 6 (wX6_g ..) rfl rfl rfl rfl (Nat.le_of_ble_eq_true rfl) ⟨Nat.le_of_ble_eq_true rfl, Nat.le_of_ble_eq_true rfl⟩ dX6_free_78 (fun r78 s78 h => ?_)
        obtain ⟨h, hu78⟩ := h
        rw [hu78]
        refine aw_if_eq (tgt := 93) C dX6_free_81 (by decide) (fun c81 => ?_) (fun c81 => ?_)
        · have h := h.1 c81
          refine aw_iload_n C dX6_free_93 4 rfl ?_
          refine aw_aload_n C dX6_free_94 2 rfl ?_
          refine aw_getX6 C K inX6_free_6 dX6_free_95 6 (by decide) qX6_free_fieldLink_RX6_22 0 (wX6_g ..) rfl ?_
          refine aw_iload_n C dX6_free_98 3 rfl ?_
          obtain ⟨b99, h⟩ := h
          refine aw_iald C K dX6_free_99 5 (wX6_g6 ..) b99 ?_
          obtain ⟨hz100, h⟩ := h
          refine aw_idiv C dX6_free_100 hz100 ?_
          refine aw_name (fun x7_101 ex7_101 => ?_)
          have h := h x7_101 ex7_101
          refine aw_istore (lv' := [(7, .int x7_101), (6, .int r34), (5, .int x5_30), (0, .ref o), (1, .int x1), (2, .int x2), (3, .int x3), (4, .int x4)]) C dX6_free_101 (by decide) rfl ?_
          refine aw_iload_n C dX6_free_103 6 rfl ?_
          refine aw_aload_n C dX6_free_104 3 rfl ?_
          refine aw_getX6 C K inX6_free_6 dX6_free_105 6 (by decide) qX6_free_fieldLink_RX6_22 0 (wX6_g ..) rfl ?_
          refine aw_iload_n C dX6_free_108 4 rfl ?_
          obtain ⟨b109, h⟩ := h
          refine aw_iald C K dX6_free_109 5 (wX6_g6 ..) b109 ?_
          obtain ⟨hz110, h⟩ := h
          refine aw_idiv C dX6_free_110 hz110 ?_
          refine aw_name (fun x8_111 ex8_111 => ?_)
          have h := h x8_111 ex8_111
          refine aw_istore (lv' := [(8, .int x8_111), (7, .int x7_101), (6, .int r34), (5, .int x5_30), (0, .ref o), (1, .int x1), (2, .int x2), (3, .int x3), (4, .int x4)]) C dX6_free_111 (by decide) rfl ?_
          refine aw_iconst (v := 0) C dX6_free_113 (by decide) ?_
          refine aw_istore (lv' := [(9, .int 0), (8, .int x8_111), (7, .int x7_101), (6, .int r34), (5, .int x5_30), (0, .ref o), (1, .int x1), (2, .int x2), (3, .int x3), (4, .int x4)]) C dX6_free_114 (by decide) rfl ?_
          refine aw_iconst (v := 0) C dX6_free_116 (by decide) ?_
          refine aw_istore (lv' := [(10, .int 0), (9, .int 0), (8, .int x8_111), (7, .int x7_101), (6, .int r34), (5, .int x5_30), (0, .ref o), (1, .int x1), (2, .int x2), (3, .int x3), (4, .int x4)]) C dX6_free_117 (by decide) rfl ?_
          refine aw_lv [6, 7, 10, 3, 2, 1, 0] rfl ?_
          refine tlX6_free_119 C K ?_ 0 0 h
          intro z160_9 h
          refine aw_iload C dX6_free_160 2 rfl ?_
          refine aw_if_ne (tgt := 170) C dX6_free_162 (by decide) (fun c162 => ?_) (fun c162 => ?_)
          · have h := h.2 c162
            refine aw_aload_n C dX6_free_170 0 rfl ?_
            refine aw_iload_n C dX6_free_171 1 rfl ?_
            refine aw_iload C dX6_free_172 3 rfl ?_
            refine aw_iload C dX6_free_174 4 rfl ?_
            refine aw_callI (As := [.int x1, .int x7_101, .int x8_111]) (rest := []) C K (mtX6_best l D cy o ad s34 x1 x7_101 x8_111 _ h) (cwV 3 C.2.2.2.2.1 gX6_free_X6_best rfl rfl rfl (by decide +kernel) ⟨Nat.le_of_ble_eq_true rfl, Nat.le_of_ble_eq_true rfl⟩) 0 6 (wX6_g ..) rfl rfl rfl rfl (Nat.le_of_ble_eq_true rfl) ⟨Nat.le_of_ble_eq_true rfl, Nat.le_of_ble_eq_true rfl⟩ dX6_free_176 (fun r176 s176 h => ?_)
            refine aw_lv [] rfl ?_
            exact hQ r176 s176 h 179 dX6_free_179
          have h := h.1 c162
          refine aw_iload C dX6_free_165 5 rfl ?_
          refine aw_goto (tgt := 179) C dX6_free_167 (by decide) ?_
          refine aw_lv [] rfl ?_
          exact hQ z160_9 s34 h 179 dX6_free_179
        have h := h.2 c81
        refine aw_aload_n C dX6_free_84 2 rfl ?_
        refine aw_iload C dX6_free_85 1 rfl ?_
        refine aw_putX6 (ty := .int) C K inX6_free_6 dX6_free_87 1 (by decide) qX6_free_fieldLink_RX6_85 0 (wX6_g ..) rfl (by decide +kernel) rfl rfl (Nat.le_of_ble_eq_true rfl) (wX6_p1 ..) ?_
        obtain ⟨s87, es87⟩ : ∃ z, z = (uF s34 1 x5_30) := ⟨_, rfl⟩
        rw [← es87]
        have h := h s87 es87
        refine aw_ldc (v := (-1000002)) C dX6_free_90 qX6_free_constant_RX6_184_1000002 ?_
        refine aw_lv [] rfl ?_
        exact hQ (-1000002) s87 h 92 dX6_free_92
      have h := h.1 c62
      refine aw_aload_n C dX6_free_65 2 rfl ?_
      refine aw_iload C dX6_free_66 1 rfl ?_
      refine aw_putX6 (ty := .int) C K inX6_free_6 dX6_free_68 1 (by decide) qX6_free_fieldLink_RX6_85 0 (wX6_g ..) rfl (by decide +kernel) rfl rfl (Nat.le_of_ble_eq_true rfl) (wX6_p1 ..) ?_
      obtain ⟨s68, es68⟩ : ∃ z, z = (uF s34 1 x5_30) := ⟨_, rfl⟩
      rw [← es68]
      have h := h s68 es68
      refine aw_ldc (v := (-1000001)) C dX6_free_71 qX6_free_constant_RX6_101_1000001 ?_
      refine aw_lv [] rfl ?_
      exact hQ (-1000001) s68 h 73 dX6_free_73
    have h := h.2 c41
    refine aw_iload C dX6_free_44 0 rfl ?_
    refine aw_lv [] rfl ?_
    exact hQ r34 s34 h 46 dX6_free_46
  have h := h.1 c20
  refine aw_ldc (v := (-1000001)) C dX6_free_23 qX6_free_constant_RX6_101_1000001 ?_
  refine aw_lv [] rfl ?_
  exact hQ (-1000001) s2 h 25 dX6_free_25
end SX6_free
theorem mtX6_free (l : Launch) (D : va_G) (cy : Nat → ClassId) (o : Nat) (ad : Nat → Nat) (s : St) (x1 : Int32) (x2 : Int32) (x3 : Int32) (x4 : Int32) (Q : Int32 → St → Prop) (hw : pX6_free  s x1 x2 x3 x4 Q) : mI l yX6_free wsX6_free rmX6_free D cy [.ref o, .int x1, .int x2, .int x3, .int x4] (wX6 cy o ad s) (wX6 cy o ad) Q :=
  metI (Wd := wX6 cy o ad) ⟨rfl, rfl⟩ (by decide) rfl (Nat.le_of_ble_eq_true rfl) (fun C K hQ => eX6_free C K hQ s x1 x2 x3 x4 hw)
def rmX6_die : Room := { frames := 4, cells := 0, slots := 0, locals := 103 }
theorem inX6_die_6 : ∀ w ∈ wsX60, w ∈ wsX6_die := fun w h => (List.mem_cons_of_mem _ (List.mem_append_right _ h))
theorem qX6_die_fieldLink_RX6_81 : Cond.fieldLink RX6 81 "StageSwitchModel" "thrown" "I" ∈ wsX6_die := (List.mem_cons_of_mem _ (List.mem_append_left _ (List.mem_append_left _ (List.mem_of_getElem? (i := 0) rfl))))
theorem qX6_die_fieldLink_RX6_85 : Cond.fieldLink RX6 85 "StageSwitchModel" "status" "I" ∈ wsX6_die := (List.mem_cons_of_mem _ (List.mem_append_left _ (List.mem_append_left _ (List.mem_of_getElem? (i := 2) rfl))))
theorem qX6_die_fieldLink_RX6_19 : Cond.fieldLink RX6 19 "StageSwitchModel" "middles" "[I" ∈ wsX6_die := (List.mem_cons_of_mem _ (List.mem_append_left _ (List.mem_append_left _ (List.mem_of_getElem? (i := 3) rfl))))
theorem qX6_die_fieldLink_RX6_28 : Cond.fieldLink RX6 28 "StageSwitchModel" "isDead" "[Z" ∈ wsX6_die := (List.mem_cons_of_mem _ (List.mem_append_left _ (List.mem_append_left _ (List.mem_of_getElem? (i := 4) rfl))))
theorem qX6_die_fieldLink_RX6_44 : Cond.fieldLink RX6 44 "StageSwitchModel" "off" "[I" ∈ wsX6_die := (List.mem_cons_of_mem _ (List.mem_append_left _ (List.mem_append_left _ (List.mem_of_getElem? (i := 6) rfl))))
theorem qX6_die_fieldLink_RX6_32 : Cond.fieldLink RX6 32 "StageSwitchModel" "out" "[I" ∈ wsX6_die := (List.mem_cons_of_mem _ (List.mem_append_left _ (List.mem_append_left _ (List.mem_of_getElem? (i := 7) rfl))))
theorem qX6_die_constant_RX6_118_1000000 : Cond.constant RX6 118 (-1000000) ∈ wsX6_die := (List.mem_cons_of_mem _ (List.mem_append_left _ (List.mem_append_left _ (List.mem_of_getElem? (i := 8) rfl))))
theorem qX6_die_fieldLink_RX6_35 : Cond.fieldLink RX6 35 "StageSwitchModel" "by" "[I" ∈ wsX6_die := (List.mem_cons_of_mem _ (List.mem_append_left _ (List.mem_append_left _ (List.mem_of_getElem? (i := 9) rfl))))
theorem qX6_die_constant_RX6_184_1000002 : Cond.constant RX6 184 (-1000002) ∈ wsX6_die := (List.mem_cons_of_mem _ (List.mem_append_left _ (List.mem_append_left _ (List.mem_of_getElem? (i := 5) rfl))))
theorem qX6_die_constant_RX6_101_1000001 : Cond.constant RX6 101 (-1000001) ∈ wsX6_die := (List.mem_cons_of_mem _ (List.mem_append_left _ (List.mem_append_left _ (List.mem_of_getElem? (i := 1) rfl))))
section SX6_die
variable {p : Program} {l : Launch} {e : Env} {s0 : State} {m : MethodId} {args : Array Value} {below : List Frame} {meth : Method} {c : Code} {D : va_G} {A : Nat → Prop} {H0 : Heap} {cy : Nat → ClassId} {Z : State → Prop}
theorem tjX6_die_161 (C : ctB p s0 m args c cX6_die 7 RX6 wsX6_die) (K : ctK s0 D A H0 cy) {o : Nat} {ad : Nat → Nat}  {kH : St → Int32 → Prop} (s : St) (x1 : Int32) (x2 : Int32) (x5 : Int32) (u0 : Int32) (u1 : Int32) (hkH : ∀ (s : St) (y5 : Int32), kH s y5 → atG p l e rmX6_die s0 m args below meth c 0 0 Z 7 (iW D A H0 (wX6 cy o ad s)) [(0, .ref o), (1, .int x1), (2, .int x2), (5, .int y5)] [] 98) (h : jX6_die_161 kH s x1 x2 x5 u0 u1) : atG p l e rmX6_die s0 m args below meth c 0 0 Z 7 (iW D A H0 (wX6 cy o ad s)) [(0, .ref o), (1, .int x1), (2, .int x2), (5, .int x5)] [.int u0, .int u1, .ref (ad 17)] 161 := by
  delta jX6_die_161 at h
  obtain ⟨b161, h⟩ := h
  refine aw_iast C K dX6_die_161 12 (wX6_g17 ..) (wX6_s17 ..) b161 ?_
  obtain ⟨s161, es161⟩ : ∃ z, z = (uA s 17 (upd (sA s 17) u1.toNatClampNeg u0)) := ⟨_, rfl⟩
  rw [← es161]
  have h := h s161 es161
  refine aw_aload_n C dX6_die_162 0 rfl ?_
  refine aw_getX6 C K inX6_die_6 dX6_die_163 9 (by decide) qX6_die_fieldLink_RX6_32 0 (wX6_g ..) rfl ?_
  refine aw_bipush (v := 36) C dX6_die_166 (by decide) ?_
  refine aw_iload_n C dX6_die_168 1 rfl ?_
  refine aw_imul C dX6_die_169 ?_
  refine aw_iload C dX6_die_170 3 rfl ?_
  refine aw_iadd C dX6_die_172 ?_
  refine aw_aload_n C dX6_die_173 0 rfl ?_
  refine aw_getX6 C K inX6_die_6 dX6_die_174 17 (by decide) qX6_die_fieldLink_RX6_44 0 (wX6_g ..) rfl ?_
  refine aw_iload C dX6_die_177 3 rfl ?_
  obtain ⟨b179, h⟩ := h
  refine aw_iald C K dX6_die_179 12 (wX6_g17 ..) b179 ?_
  refine aw_ldc (v := (-1000000)) C dX6_die_180 qX6_die_constant_RX6_118_1000000 ?_
  refine aw_icmp_eq (tgt := 190) C dX6_die_182 (by decide) (fun c182 => ?_) (fun c182 => ?_)
  · have h := h.1 c182
    refine aw_aload_n C dX6_die_190 0 rfl ?_
    refine aw_getX6 C K inX6_die_6 dX6_die_191 9 (by decide) qX6_die_fieldLink_RX6_32 0 (wX6_g ..) rfl ?_
    refine aw_bipush (v := 36) C dX6_die_194 (by decide) ?_
    refine aw_iload_n C dX6_die_196 1 rfl ?_
    refine aw_imul C dX6_die_197 ?_
    refine aw_iload C dX6_die_198 3 rfl ?_
    refine aw_iadd C dX6_die_200 ?_
    obtain ⟨b201, h⟩ := h
    refine aw_iald C K dX6_die_201 8 (wX6_g9 ..) b201 ?_
    obtain ⟨b202, h⟩ := h
    refine aw_iast C K dX6_die_202 8 (wX6_g9 ..) (wX6_s9 ..) b202 ?_
    obtain ⟨s202, es202⟩ : ∃ z, z = (uA s161 9 (upd (sA s161 9) ((36 * x1) + x5).toNatClampNeg (sA s161 9 ((36 * x1) + x5).toNatClampNeg))) := ⟨_, rfl⟩
    rw [← es202]
    have h := h s202 es202
    obtain ⟨x5_203, ex5_203⟩ : ∃ y : Int32, y = x5 + 1 := ⟨_, rfl⟩
    have h := h x5_203 ex5_203
    refine aw_iinc (v := x5_203) (lv' := [(5, .int x5_203), (0, .ref o), (1, .int x1), (2, .int x2)]) C dX6_die_203 3 rfl (by rw [ex5_203]; rfl) (by decide) rfl ?_
    refine aw_goto (tgt := 98) C dX6_die_206 (by decide) ?_
    refine aw_lv [1, 2, 3, 0] rfl ?_
    exact hkH s202 x5_203 h
  have h := h.2 c182
  refine aw_ldc (v := (-1000000)) C dX6_die_185 qX6_die_constant_RX6_118_1000000 ?_
  refine aw_goto (tgt := 202) C dX6_die_187 (by decide) ?_
  obtain ⟨b202, h⟩ := h
  refine aw_iast C K dX6_die_202 8 (wX6_g9 ..) (wX6_s9 ..) b202 ?_
  obtain ⟨s202, es202⟩ : ∃ z, z = (uA s161 9 (upd (sA s161 9) ((36 * x1) + x5).toNatClampNeg (-1000000))) := ⟨_, rfl⟩
  rw [← es202]
  have h := h s202 es202
  obtain ⟨x5_203, ex5_203⟩ : ∃ y : Int32, y = x5 + 1 := ⟨_, rfl⟩
  have h := h x5_203 ex5_203
  refine aw_iinc (v := x5_203) (lv' := [(5, .int x5_203), (0, .ref o), (1, .int x1), (2, .int x2)]) C dX6_die_203 3 rfl (by rw [ex5_203]; rfl) (by decide) rfl ?_
  refine aw_goto (tgt := 98) C dX6_die_206 (by decide) ?_
  refine aw_lv [1, 2, 3, 0] rfl ?_
  exact hkH s202 x5_203 h
theorem tjX6_die_159 (C : ctB p s0 m args c cX6_die 7 RX6 wsX6_die) (K : ctK s0 D A H0 cy) {o : Nat} {ad : Nat → Nat}  {kH : St → Int32 → Prop} (s : St) (x1 : Int32) (x2 : Int32) (x5 : Int32) (u0 : Int32) (hkH : ∀ (s : St) (y5 : Int32), kH s y5 → atG p l e rmX6_die s0 m args below meth c 0 0 Z 7 (iW D A H0 (wX6 cy o ad s)) [(0, .ref o), (1, .int x1), (2, .int x2), (5, .int y5)] [] 98) (h : jX6_die_159 kH s x1 x2 x5 u0) : atG p l e rmX6_die s0 m args below meth c 0 0 Z 7 (iW D A H0 (wX6 cy o ad s)) [(0, .ref o), (1, .int x1), (2, .int x2), (5, .int x5)] [.int u0, .ref (ad 17)] 159 := by
  delta jX6_die_159 at h
  refine aw_ldc (v := (-1000000)) C dX6_die_159 qX6_die_constant_RX6_118_1000000 ?_
  exact tjX6_die_161 C K s x1 x2 x5 (-1000000) u0 hkH h
theorem tbX6_die_98 (C : ctB p s0 m args c cX6_die 7 RX6 wsX6_die) (K : ctK s0 D A H0 cy) {o : Nat} {ad : Nat → Nat}  {x1 : Int32} {x2 : Int32} {k209 : St → Prop} (hk209 : ∀ (s : St), k209 s → atG p l e rmX6_die s0 m args below meth c 0 0 Z 7 (iW D A H0 (wX6 cy o ad s)) [(0, .ref o), (1, .int x1)] [] 209) {kH : St → Int32 → Prop} (hkH : ∀ (s : St) (y5 : Int32), kH s y5 → atG p l e rmX6_die s0 m args below meth c 0 0 Z 7 (iW D A H0 (wX6 cy o ad s)) [(0, .ref o), (1, .int x1), (2, .int x2), (5, .int y5)] [] 98) (s : St) (x5 : Int32) (h : bX6_die_98 x1 x2 k209 kH s x5) : atG p l e rmX6_die s0 m args below meth c 0 0 Z 7 (iW D A H0 (wX6 cy o ad s)) [(0, .ref o), (1, .int x1), (2, .int x2), (5, .int x5)] [] 98 := by
  delta bX6_die_98 at h
  refine aw_iload C dX6_die_98 3 rfl ?_
  refine aw_bipush (v := 36) C dX6_die_100 (by decide) ?_
  refine aw_icmp_ge (tgt := 209) C dX6_die_102 (by decide) (fun c102 => ?_) (fun c102 => ?_)
  · have h := h.1 c102
    refine aw_lv [0, 1] rfl ?_
    exact hk209 s h
  have h := h.2 c102
  refine aw_aload_n C dX6_die_105 0 rfl ?_
  refine aw_getX6 C K inX6_die_6 dX6_die_106 17 (by decide) qX6_die_fieldLink_RX6_44 0 (wX6_g ..) rfl ?_
  refine aw_iload C dX6_die_109 3 rfl ?_
  refine aw_aload_n C dX6_die_111 0 rfl ?_
  refine aw_getX6 C K inX6_die_6 dX6_die_112 9 (by decide) qX6_die_fieldLink_RX6_32 0 (wX6_g ..) rfl ?_
  refine aw_bipush (v := 36) C dX6_die_115 (by decide) ?_
  refine aw_iload_n C dX6_die_117 1 rfl ?_
  refine aw_imul C dX6_die_118 ?_
  refine aw_iload C dX6_die_119 3 rfl ?_
  refine aw_iadd C dX6_die_121 ?_
  obtain ⟨b122, h⟩ := h
  refine aw_iald C K dX6_die_122 8 (wX6_g9 ..) b122 ?_
  refine aw_ldc (v := (-1000000)) C dX6_die_123 qX6_die_constant_RX6_118_1000000 ?_
  refine aw_icmp_eq (tgt := 159) C dX6_die_125 (by decide) (fun c125 => ?_) (fun c125 => ?_)
  · have h := h.1 c125
    exact tjX6_die_159 C K s x1 x2 x5 x5 hkH h
  have h := h.2 c125
  refine aw_aload_n C dX6_die_128 0 rfl ?_
  refine aw_getX6 C K inX6_die_6 dX6_die_129 10 (by decide) qX6_die_fieldLink_RX6_35 0 (wX6_g ..) rfl ?_
  refine aw_bipush (v := 36) C dX6_die_132 (by decide) ?_
  refine aw_iload_n C dX6_die_134 1 rfl ?_
  refine aw_imul C dX6_die_135 ?_
  refine aw_iload C dX6_die_136 3 rfl ?_
  refine aw_iadd C dX6_die_138 ?_
  obtain ⟨b139, h⟩ := h
  refine aw_iald C K dX6_die_139 9 (wX6_g10 ..) b139 ?_
  refine aw_iload_n C dX6_die_140 2 rfl ?_
  refine aw_icmp_ne (tgt := 159) C dX6_die_141 (by decide) (fun c141 => ?_) (fun c141 => ?_)
  · have h := h.2 c141
    exact tjX6_die_159 C K s x1 x2 x5 x5 hkH h
  have h := h.1 c141
  refine aw_aload_n C dX6_die_144 0 rfl ?_
  refine aw_getX6 C K inX6_die_6 dX6_die_145 9 (by decide) qX6_die_fieldLink_RX6_32 0 (wX6_g ..) rfl ?_
  refine aw_bipush (v := 36) C dX6_die_148 (by decide) ?_
  refine aw_iload_n C dX6_die_150 1 rfl ?_
  refine aw_imul C dX6_die_151 ?_
  refine aw_iload C dX6_die_152 3 rfl ?_
  refine aw_iadd C dX6_die_154 ?_
  obtain ⟨b155, h⟩ := h
  refine aw_iald C K dX6_die_155 8 (wX6_g9 ..) b155 ?_
  refine aw_goto (tgt := 161) C dX6_die_156 (by decide) ?_
  exact tjX6_die_161 C K s x1 x2 x5 (sA s 9 ((36 * x1) + x5).toNatClampNeg) x5 hkH h
theorem tlX6_die_98 (C : ctB p s0 m args c cX6_die 7 RX6 wsX6_die) (K : ctK s0 D A H0 cy) {o : Nat} {ad : Nat → Nat}  {x1 : Int32} {x2 : Int32} {k209 : St → Prop} (hk209 : ∀ (s : St), k209 s → atG p l e rmX6_die s0 m args below meth c 0 0 Z 7 (iW D A H0 (wX6 cy o ad s)) [(0, .ref o), (1, .int x1)] [] 209) (s : St) (x5 : Int32) (h : lX6_die_98 x1 x2 k209 s x5) : atG p l e rmX6_die s0 m args below meth c 0 0 Z 7 (iW D A H0 (wX6 cy o ad s)) [(0, .ref o), (1, .int x1), (2, .int x2), (5, .int x5)] [] 98 :=
  lp_W (σ := St × Int32) (P := fun q => atG p l e rmX6_die s0 m args below meth c 0 0 Z 7 (iW D A H0 (wX6 cy o ad q.1)) [(0, .ref o), (1, .int x1), (2, .int x2), (5, .int q.2)] [] 98) (fun K2 hK2 q hb => tbX6_die_98 C K hk209 (fun s x5 hk => hK2 (s, x5) hk) q.1 q.2 hb) (s, x5) h
theorem tbX6_die_215 (C : ctB p s0 m args c cX6_die 7 RX6 wsX6_die) (K : ctK s0 D A H0 cy) {o : Nat} {ad : Nat → Nat}  {x1 : Int32} {k269 : St → Int32 → Prop} (hk269 : ∀ (s : St) (y5 : Int32), k269 s y5 → atG p l e rmX6_die s0 m args below meth c 0 0 Z 7 (iW D A H0 (wX6 cy o ad s)) [(0, .ref o), (5, .int y5)] [] 269) {kH : St → Int32 → Int32 → Prop} (hkH : ∀ (s : St) (y5 : Int32) (y6 : Int32), kH s y5 y6 → atG p l e rmX6_die s0 m args below meth c 0 0 Z 7 (iW D A H0 (wX6 cy o ad s)) [(0, .ref o), (1, .int x1), (5, .int y5), (6, .int y6)] [] 215) (s : St) (x5 : Int32) (x6 : Int32) (h : bX6_die_215 x1 k269 kH s x5 x6) : atG p l e rmX6_die s0 m args below meth c 0 0 Z 7 (iW D A H0 (wX6 cy o ad s)) [(0, .ref o), (1, .int x1), (5, .int x5), (6, .int x6)] [] 215 := by
  delta bX6_die_215 at h
  refine aw_iload C dX6_die_215 3 rfl ?_
  refine aw_bipush (v := 36) C dX6_die_217 (by decide) ?_
  refine aw_icmp_ge (tgt := 269) C dX6_die_219 (by decide) (fun c219 => ?_) (fun c219 => ?_)
  · have h := h.1 c219
    refine aw_lv [0, 2] rfl ?_
    exact hk269 s x5 h
  have h := h.2 c219
  refine aw_aload_n C dX6_die_222 0 rfl ?_
  refine aw_getX6 C K inX6_die_6 dX6_die_223 17 (by decide) qX6_die_fieldLink_RX6_44 0 (wX6_g ..) rfl ?_
  refine aw_iload C dX6_die_226 3 rfl ?_
  obtain ⟨b228, h⟩ := h
  refine aw_iald C K dX6_die_228 12 (wX6_g17 ..) b228 ?_
  refine aw_ldc (v := (-1000000)) C dX6_die_229 qX6_die_constant_RX6_118_1000000 ?_
  refine aw_icmp_eq (tgt := 263) C dX6_die_231 (by decide) (fun c231 => ?_) (fun c231 => ?_)
  · have h := h.1 c231
    obtain ⟨x6_263, ex6_263⟩ : ∃ y : Int32, y = x6 + 1 := ⟨_, rfl⟩
    have h := h x6_263 ex6_263
    refine aw_iinc (v := x6_263) (lv' := [(6, .int x6_263), (0, .ref o), (1, .int x1), (5, .int x5)]) C dX6_die_263 3 rfl (by rw [ex6_263]; rfl) (by decide) rfl ?_
    refine aw_goto (tgt := 215) C dX6_die_266 (by decide) ?_
    refine aw_lv [1, 2, 3, 0] rfl ?_
    exact hkH s x5 x6_263 h
  have h := h.2 c231
  refine aw_iload C dX6_die_234 2 rfl ?_
  refine aw_aload_n C dX6_die_236 0 rfl ?_
  refine aw_iload_n C dX6_die_237 1 rfl ?_
  refine aw_iload C dX6_die_238 3 rfl ?_
  refine aw_aload_n C dX6_die_240 0 rfl ?_
  refine aw_getX6 C K inX6_die_6 dX6_die_241 17 (by decide) qX6_die_fieldLink_RX6_44 0 (wX6_g ..) rfl ?_
  refine aw_iload C dX6_die_244 3 rfl ?_
  obtain ⟨b246, h⟩ := h
  refine aw_iald C K dX6_die_246 12 (wX6_g17 ..) b246 ?_
  refine aw_callI (As := [.int x1, .int x6, .int (sA s 17 x6.toNatClampNeg)]) (rest := [.int x5]) C K (mtX6_setUp l D cy o ad s x1 x6 (sA s 17 x6.toNatClampNeg) _ h) (cwV 3 C.2.2.2.2.1 gX6_die_X6_setUp rfl rfl rfl (by decide +kernel) ⟨Nat.le_of_ble_eq_true rfl, Nat.le_of_ble_eq_true rfl⟩) 0 6 (wX6_g ..) rfl rfl rfl rfl (Nat.le_of_ble_eq_true rfl) ⟨Nat.le_of_ble_eq_true rfl, Nat.le_of_ble_eq_true rfl⟩ dX6_die_247 (fun r247 s247 h => ?_)
  refine aw_ldc (v := (-1000000)) C dX6_die_250 qX6_die_constant_RX6_118_1000000 ?_
  refine aw_icmp_ne (tgt := 259) C dX6_die_252 (by decide) (fun c252 => ?_) (fun c252 => ?_)
  · have h := h.2 c252
    refine aw_iconst (v := 0) C dX6_die_259 (by decide) ?_
    refine aw_iadd C dX6_die_260 ?_
    refine aw_name (fun x5_261 ex5_261 => ?_)
    have h := h x5_261 ex5_261
    refine aw_istore (lv' := [(5, .int x5_261), (0, .ref o), (1, .int x1), (6, .int x6)]) C dX6_die_261 (by decide) rfl ?_
    obtain ⟨x6_263, ex6_263⟩ : ∃ y : Int32, y = x6 + 1 := ⟨_, rfl⟩
    have h := h x6_263 ex6_263
    refine aw_iinc (v := x6_263) (lv' := [(6, .int x6_263), (5, .int x5_261), (0, .ref o), (1, .int x1)]) C dX6_die_263 3 rfl (by rw [ex6_263]; rfl) (by decide) rfl ?_
    refine aw_goto (tgt := 215) C dX6_die_266 (by decide) ?_
    refine aw_lv [2, 3, 1, 0] rfl ?_
    exact hkH s247 x5_261 x6_263 h
  have h := h.1 c252
  refine aw_iconst (v := 1) C dX6_die_255 (by decide) ?_
  refine aw_goto (tgt := 260) C dX6_die_256 (by decide) ?_
  refine aw_iadd C dX6_die_260 ?_
  refine aw_name (fun x5_261 ex5_261 => ?_)
  have h := h x5_261 ex5_261
  refine aw_istore (lv' := [(5, .int x5_261), (0, .ref o), (1, .int x1), (6, .int x6)]) C dX6_die_261 (by decide) rfl ?_
  obtain ⟨x6_263, ex6_263⟩ : ∃ y : Int32, y = x6 + 1 := ⟨_, rfl⟩
  have h := h x6_263 ex6_263
  refine aw_iinc (v := x6_263) (lv' := [(6, .int x6_263), (5, .int x5_261), (0, .ref o), (1, .int x1)]) C dX6_die_263 3 rfl (by rw [ex6_263]; rfl) (by decide) rfl ?_
  refine aw_goto (tgt := 215) C dX6_die_266 (by decide) ?_
  refine aw_lv [2, 3, 1, 0] rfl ?_
  exact hkH s247 x5_261 x6_263 h
theorem tlX6_die_215 (C : ctB p s0 m args c cX6_die 7 RX6 wsX6_die) (K : ctK s0 D A H0 cy) {o : Nat} {ad : Nat → Nat}  {x1 : Int32} {k269 : St → Int32 → Prop} (hk269 : ∀ (s : St) (y5 : Int32), k269 s y5 → atG p l e rmX6_die s0 m args below meth c 0 0 Z 7 (iW D A H0 (wX6 cy o ad s)) [(0, .ref o), (5, .int y5)] [] 269) (s : St) (x5 : Int32) (x6 : Int32) (h : lX6_die_215 x1 k269 s x5 x6) : atG p l e rmX6_die s0 m args below meth c 0 0 Z 7 (iW D A H0 (wX6 cy o ad s)) [(0, .ref o), (1, .int x1), (5, .int x5), (6, .int x6)] [] 215 :=
  lp_W (σ := St × Int32 × Int32) (P := fun q => atG p l e rmX6_die s0 m args below meth c 0 0 Z 7 (iW D A H0 (wX6 cy o ad q.1)) [(0, .ref o), (1, .int x1), (5, .int q.2.1), (6, .int q.2.2)] [] 215) (fun K2 hK2 q hb => tbX6_die_215 C K hk269 (fun s x5 x6 hk => hK2 (s, x5, x6) hk) q.1 q.2.1 q.2.2 hb) (s, x5, x6) h
theorem eX6_die (C : ctB p s0 m args c cX6_die 7 RX6 wsX6_die) (K : ctK s0 D A H0 cy) {o : Nat} {ad : Nat → Nat} {Q : Int32 → St → Prop} (hQ : ∀ (v : Int32) (u : St), Q v u → ∀ pc, decode cX6_die pc = .ok (.ireturn, 1) → atG p l e rmX6_die s0 m args below meth c 0 0 Z 7 (iW D A H0 (wX6 cy o ad u)) [] [.int v] pc) (s : St) (x1 : Int32) (x2 : Int32) (h : pX6_die  s x1 x2 Q) : atG p l e rmX6_die s0 m args below meth c 0 0 Z 7 (iW D A H0 (wX6 cy o ad s)) [(0, .ref o), (1, .int x1), (2, .int x2)] [] 0 := by
  delta pX6_die at h
  refine aw_aload_n C dX6_die_0 0 rfl ?_
  refine aw_iconst (v := 0) C dX6_die_1 (by decide) ?_
  refine aw_putX6 (ty := .int) C K inX6_die_6 dX6_die_2 0 (by decide) qX6_die_fieldLink_RX6_81 0 (wX6_g ..) rfl (by decide +kernel) rfl rfl (Nat.le_of_ble_eq_true rfl) (wX6_p0 ..) ?_
  obtain ⟨s2, es2⟩ : ∃ z, z = (uF s 0 0) := ⟨_, rfl⟩
  rw [← es2]
  have h := h s2 es2
  refine aw_iload_n C dX6_die_5 1 rfl ?_
  refine aw_callS (As := [.int x1]) (rest := []) C (mtX6_isPlace l x1 _ h) (va_cwS 1 C.2.2.2.2.1 gX6_die_X6_isPlace rfl rfl rfl (by decide +kernel) ⟨Nat.le_of_ble_eq_true rfl, Nat.le_of_ble_eq_true rfl⟩) rfl rfl (Nat.le_of_ble_eq_true rfl) ⟨rfl, rfl⟩ ⟨Nat.zero_le _, Nat.zero_le _⟩ dX6_die_6 (fun r6 h => ?_)
  refine aw_if_ne (tgt := 15) C dX6_die_9 (by decide) (fun c9 => ?_) (fun c9 => ?_)
  · have h := h.2 c9
    refine aw_aload_n C dX6_die_15 0 rfl ?_
    refine aw_getX6 C K inX6_die_6 dX6_die_16 1 (by decide) qX6_die_fieldLink_RX6_85 0 (wX6_g ..) rfl ?_
    refine aw_name (fun x3_19 ex3_19 => ?_)
    have h := h x3_19 ex3_19
    refine aw_istore_n (lv' := [(3, .int x3_19), (0, .ref o), (1, .int x1), (2, .int x2)]) C dX6_die_19 (by decide) rfl ?_
    refine aw_aload_n C dX6_die_20 1 rfl ?_
    refine aw_iload_n C dX6_die_21 2 rfl ?_
    refine aw_callI (As := [.int x1]) (rest := []) C K (mtX6_look l D cy o ad s2 x1 _ h) (cwV 1 C.2.2.2.2.1 gX6_die_X6_look rfl rfl rfl (by decide +kernel) ⟨Nat.le_of_ble_eq_true rfl, Nat.le_of_ble_eq_true rfl⟩) 0 6 (wX6_g ..) rfl rfl rfl rfl (Nat.le_of_ble_eq_true rfl) ⟨Nat.le_of_ble_eq_true rfl, Nat.le_of_ble_eq_true rfl⟩ dX6_die_22 (fun r22 s22 h => ?_)
    refine aw_istore (lv' := [(4, .int r22), (3, .int x3_19), (0, .ref o), (1, .int x1), (2, .int x2)]) C dX6_die_25 (by decide) rfl ?_
    refine aw_iload C dX6_die_27 0 rfl ?_
    refine aw_if_ge (tgt := 35) C dX6_die_29 (by decide) (fun c29 => ?_) (fun c29 => ?_)
    · have h := h.1 c29
      refine aw_iload_n C dX6_die_35 4 rfl ?_
      refine aw_i2l C dX6_die_36 ?_
      refine aw_lconst (v := 0) C dX6_die_37 (by decide) ?_
      refine aw_aload_n C dX6_die_38 2 rfl ?_
      refine aw_getX6 C K inX6_die_6 dX6_die_39 5 (by decide) qX6_die_fieldLink_RX6_19 0 (wX6_g ..) rfl ?_
      refine aw_iload_n C dX6_die_42 3 rfl ?_
      obtain ⟨b43, h⟩ := h
      refine aw_iald C K dX6_die_43 4 (wX6_g5 ..) b43 ?_
      refine aw_iconst (v := 1) C dX6_die_44 (by decide) ?_
      refine aw_isub C dX6_die_45 ?_
      refine aw_i2l C dX6_die_46 ?_
      refine aw_callS (As := [.long x2.toInt64, .long 0, .long (((sA s22 5 x1.toNatClampNeg) - 1).toInt64)]) (rest := []) C (mtX6_in l x2.toInt64 0 (((sA s22 5 x1.toNatClampNeg) - 1).toInt64) _ h) (va_cwS 3 C.2.2.2.2.1 gX6_die_X6_in rfl rfl rfl (by decide +kernel) ⟨Nat.le_of_ble_eq_true rfl, Nat.le_of_ble_eq_true rfl⟩) rfl rfl (Nat.le_of_ble_eq_true rfl) ⟨rfl, rfl⟩ ⟨Nat.zero_le _, Nat.zero_le _⟩ dX6_die_47 (fun r47 h => ?_)
      refine aw_if_ne (tgt := 61) C dX6_die_50 (by decide) (fun c50 => ?_) (fun c50 => ?_)
      · have h := h.2 c50
        refine aw_aload_n C dX6_die_61 2 rfl ?_
        refine aw_getX6 C K inX6_die_6 dX6_die_62 8 (by decide) qX6_die_fieldLink_RX6_28 0 (wX6_g ..) rfl ?_
        refine aw_bipush (v := 12) C dX6_die_65 (by decide) ?_
        refine aw_iload_n C dX6_die_67 3 rfl ?_
        refine aw_imul C dX6_die_68 ?_
        refine aw_iload_n C dX6_die_69 4 rfl ?_
        refine aw_iadd C dX6_die_70 ?_
        obtain ⟨b71, h⟩ := h
        refine aw_zald C K dX6_die_71 7 (wX6_g8 ..) b71 ?_
        refine aw_if_eq (tgt := 83) C dX6_die_72 (by decide) (fun c72 => ?_) (fun c72 => ?_)
        · have h := h.1 c72
          refine aw_aload_n C dX6_die_83 2 rfl ?_
          refine aw_getX6 C K inX6_die_6 dX6_die_84 8 (by decide) qX6_die_fieldLink_RX6_28 0 (wX6_g ..) rfl ?_
          refine aw_bipush (v := 12) C dX6_die_87 (by decide) ?_
          refine aw_iload_n C dX6_die_89 3 rfl ?_
          refine aw_imul C dX6_die_90 ?_
          refine aw_iload_n C dX6_die_91 4 rfl ?_
          refine aw_iadd C dX6_die_92 ?_
          refine aw_iconst (v := 1) C dX6_die_93 (by decide) ?_
          obtain ⟨b94, h⟩ := h
          refine aw_zast C K dX6_die_94 7 (wX6_g8 ..) (wX6_s8 ..) b94 ?_
          obtain ⟨s94, es94⟩ : ∃ z, z = (uA s22 8 (upd (sA s22 8) ((12 * x1) + x2).toNatClampNeg (vp_nar .boolean 1))) := ⟨_, rfl⟩
          rw [← es94]
          have h := h s94 es94
          refine aw_iconst (v := 0) C dX6_die_95 (by decide) ?_
          refine aw_istore (lv' := [(5, .int 0), (4, .int r22), (3, .int x3_19), (0, .ref o), (1, .int x1), (2, .int x2)]) C dX6_die_96 (by decide) rfl ?_
          refine aw_lv [3, 4, 5, 0] rfl ?_
          refine tlX6_die_98 C K ?_ s94 0 h
          intro s_209 h
          refine aw_iconst (v := 0) C dX6_die_209 (by decide) ?_
          refine aw_istore (lv' := [(5, .int 0), (0, .ref o), (1, .int x1)]) C dX6_die_210 (by decide) rfl ?_
          refine aw_iconst (v := 0) C dX6_die_212 (by decide) ?_
          refine aw_istore (lv' := [(6, .int 0), (5, .int 0), (0, .ref o), (1, .int x1)]) C dX6_die_213 (by decide) rfl ?_
          refine aw_lv [2, 3, 1, 0] rfl ?_
          refine tlX6_die_215 C K ?_ s_209 0 0 h
          intro s_269 z269_5 h
          refine aw_iload C dX6_die_269 1 rfl ?_
          refine aw_lv [] rfl ?_
          exact hQ z269_5 s_269 h 271 dX6_die_271
        have h := h.2 c72
        refine aw_aload_n C dX6_die_75 2 rfl ?_
        refine aw_iload_n C dX6_die_76 1 rfl ?_
        refine aw_putX6 (ty := .int) C K inX6_die_6 dX6_die_77 1 (by decide) qX6_die_fieldLink_RX6_85 0 (wX6_g ..) rfl (by decide +kernel) rfl rfl (Nat.le_of_ble_eq_true rfl) (wX6_p1 ..) ?_
        obtain ⟨s77, es77⟩ : ∃ z, z = (uF s22 1 x3_19) := ⟨_, rfl⟩
        rw [← es77]
        have h := h s77 es77
        refine aw_ldc (v := (-1000002)) C dX6_die_80 qX6_die_constant_RX6_184_1000002 ?_
        refine aw_lv [] rfl ?_
        exact hQ (-1000002) s77 h 82 dX6_die_82
      have h := h.1 c50
      refine aw_aload_n C dX6_die_53 2 rfl ?_
      refine aw_iload_n C dX6_die_54 1 rfl ?_
      refine aw_putX6 (ty := .int) C K inX6_die_6 dX6_die_55 1 (by decide) qX6_die_fieldLink_RX6_85 0 (wX6_g ..) rfl (by decide +kernel) rfl rfl (Nat.le_of_ble_eq_true rfl) (wX6_p1 ..) ?_
      obtain ⟨s55, es55⟩ : ∃ z, z = (uF s22 1 x3_19) := ⟨_, rfl⟩
      rw [← es55]
      have h := h s55 es55
      refine aw_ldc (v := (-1000001)) C dX6_die_58 qX6_die_constant_RX6_101_1000001 ?_
      refine aw_lv [] rfl ?_
      exact hQ (-1000001) s55 h 60 dX6_die_60
    have h := h.2 c29
    refine aw_iload C dX6_die_32 0 rfl ?_
    refine aw_lv [] rfl ?_
    exact hQ r22 s22 h 34 dX6_die_34
  have h := h.1 c9
  refine aw_ldc (v := (-1000001)) C dX6_die_12 qX6_die_constant_RX6_101_1000001 ?_
  refine aw_lv [] rfl ?_
  exact hQ (-1000001) s2 h 14 dX6_die_14
end SX6_die
theorem mtX6_die (l : Launch) (D : va_G) (cy : Nat → ClassId) (o : Nat) (ad : Nat → Nat) (s : St) (x1 : Int32) (x2 : Int32) (Q : Int32 → St → Prop) (hw : pX6_die  s x1 x2 Q) : mI l yX6_die wsX6_die rmX6_die D cy [.ref o, .int x1, .int x2] (wX6 cy o ad s) (wX6 cy o ad) Q :=
  metI (Wd := wX6 cy o ad) ⟨rfl, rfl⟩ (by decide) rfl (Nat.le_of_ble_eq_true rfl) (fun C K hQ => eX6_die C K hQ s x1 x2 hw)
def rmX6_mend : Room := { frames := 2, cells := 0, slots := 0, locals := 45 }
theorem inX6_mend_6 : ∀ w ∈ wsX60, w ∈ wsX6_mend := fun w h => (List.mem_cons_of_mem _ (List.mem_append_right _ h))
theorem qX6_mend_fieldLink_RX6_81 : Cond.fieldLink RX6 81 "StageSwitchModel" "thrown" "I" ∈ wsX6_mend := (List.mem_cons_of_mem _ (List.mem_append_left _ (List.mem_of_getElem? (i := 0) rfl)))
theorem qX6_mend_fieldLink_RX6_85 : Cond.fieldLink RX6 85 "StageSwitchModel" "status" "I" ∈ wsX6_mend := (List.mem_cons_of_mem _ (List.mem_append_left _ (List.mem_of_getElem? (i := 2) rfl)))
theorem qX6_mend_fieldLink_RX6_19 : Cond.fieldLink RX6 19 "StageSwitchModel" "middles" "[I" ∈ wsX6_mend := (List.mem_cons_of_mem _ (List.mem_append_left _ (List.mem_of_getElem? (i := 3) rfl)))
theorem qX6_mend_fieldLink_RX6_28 : Cond.fieldLink RX6 28 "StageSwitchModel" "isDead" "[Z" ∈ wsX6_mend := (List.mem_cons_of_mem _ (List.mem_append_left _ (List.mem_of_getElem? (i := 4) rfl)))
theorem qX6_mend_constant_RX6_101_1000001 : Cond.constant RX6 101 (-1000001) ∈ wsX6_mend := (List.mem_cons_of_mem _ (List.mem_append_left _ (List.mem_of_getElem? (i := 1) rfl)))
section SX6_mend
variable {p : Program} {l : Launch} {e : Env} {s0 : State} {m : MethodId} {args : Array Value} {below : List Frame} {meth : Method} {c : Code} {D : va_G} {A : Nat → Prop} {H0 : Heap} {cy : Nat → ClassId} {Z : State → Prop}
theorem eX6_mend (C : ctB p s0 m args c cX6_mend 6 RX6 wsX6_mend) (K : ctK s0 D A H0 cy) {o : Nat} {ad : Nat → Nat} {Q : Int32 → St → Prop} (hQ : ∀ (v : Int32) (u : St), Q v u → ∀ pc, decode cX6_mend pc = .ok (.ireturn, 1) → atG p l e rmX6_mend s0 m args below meth c 0 0 Z 6 (iW D A H0 (wX6 cy o ad u)) [] [.int v] pc) (s : St) (x1 : Int32) (x2 : Int32) (h : pX6_mend  s x1 x2 Q) : atG p l e rmX6_mend s0 m args below meth c 0 0 Z 6 (iW D A H0 (wX6 cy o ad s)) [(0, .ref o), (1, .int x1), (2, .int x2)] [] 0 := by
  delta pX6_mend at h
  refine aw_aload_n C dX6_mend_0 0 rfl ?_
  refine aw_iconst (v := 0) C dX6_mend_1 (by decide) ?_
  refine aw_putX6 (ty := .int) C K inX6_mend_6 dX6_mend_2 0 (by decide) qX6_mend_fieldLink_RX6_81 0 (wX6_g ..) rfl (by decide +kernel) rfl rfl (Nat.le_of_ble_eq_true rfl) (wX6_p0 ..) ?_
  obtain ⟨s2, es2⟩ : ∃ z, z = (uF s 0 0) := ⟨_, rfl⟩
  rw [← es2]
  have h := h s2 es2
  refine aw_iload_n C dX6_mend_5 1 rfl ?_
  refine aw_callS (As := [.int x1]) (rest := []) C (mtX6_isPlace l x1 _ h) (va_cwS 1 C.2.2.2.2.1 gX6_mend_X6_isPlace rfl rfl rfl (by decide +kernel) ⟨Nat.le_of_ble_eq_true rfl, Nat.le_of_ble_eq_true rfl⟩) rfl rfl (Nat.le_of_ble_eq_true rfl) ⟨rfl, rfl⟩ ⟨Nat.zero_le _, Nat.zero_le _⟩ dX6_mend_6 (fun r6 h => ?_)
  refine aw_if_ne (tgt := 15) C dX6_mend_9 (by decide) (fun c9 => ?_) (fun c9 => ?_)
  · have h := h.2 c9
    refine aw_aload_n C dX6_mend_15 0 rfl ?_
    refine aw_getX6 C K inX6_mend_6 dX6_mend_16 1 (by decide) qX6_mend_fieldLink_RX6_85 0 (wX6_g ..) rfl ?_
    refine aw_name (fun x3_19 ex3_19 => ?_)
    have h := h x3_19 ex3_19
    refine aw_istore_n (lv' := [(3, .int x3_19), (0, .ref o), (1, .int x1), (2, .int x2)]) C dX6_mend_19 (by decide) rfl ?_
    refine aw_aload_n C dX6_mend_20 1 rfl ?_
    refine aw_iload_n C dX6_mend_21 2 rfl ?_
    refine aw_callI (As := [.int x1]) (rest := []) C K (mtX6_look l D cy o ad s2 x1 _ h) (cwV 1 C.2.2.2.2.1 gX6_mend_X6_look rfl rfl rfl (by decide +kernel) ⟨Nat.le_of_ble_eq_true rfl, Nat.le_of_ble_eq_true rfl⟩) 0 6 (wX6_g ..) rfl rfl rfl rfl (Nat.le_of_ble_eq_true rfl) ⟨Nat.le_of_ble_eq_true rfl, Nat.le_of_ble_eq_true rfl⟩ dX6_mend_22 (fun r22 s22 h => ?_)
    refine aw_istore (lv' := [(4, .int r22), (3, .int x3_19), (0, .ref o), (1, .int x1), (2, .int x2)]) C dX6_mend_25 (by decide) rfl ?_
    refine aw_iload C dX6_mend_27 0 rfl ?_
    refine aw_if_ge (tgt := 35) C dX6_mend_29 (by decide) (fun c29 => ?_) (fun c29 => ?_)
    · have h := h.1 c29
      refine aw_iload_n C dX6_mend_35 4 rfl ?_
      refine aw_i2l C dX6_mend_36 ?_
      refine aw_lconst (v := 0) C dX6_mend_37 (by decide) ?_
      refine aw_aload_n C dX6_mend_38 2 rfl ?_
      refine aw_getX6 C K inX6_mend_6 dX6_mend_39 5 (by decide) qX6_mend_fieldLink_RX6_19 0 (wX6_g ..) rfl ?_
      refine aw_iload_n C dX6_mend_42 3 rfl ?_
      obtain ⟨b43, h⟩ := h
      refine aw_iald C K dX6_mend_43 4 (wX6_g5 ..) b43 ?_
      refine aw_iconst (v := 1) C dX6_mend_44 (by decide) ?_
      refine aw_isub C dX6_mend_45 ?_
      refine aw_i2l C dX6_mend_46 ?_
      refine aw_callS (As := [.long x2.toInt64, .long 0, .long (((sA s22 5 x1.toNatClampNeg) - 1).toInt64)]) (rest := []) C (mtX6_in l x2.toInt64 0 (((sA s22 5 x1.toNatClampNeg) - 1).toInt64) _ h) (va_cwS 3 C.2.2.2.2.1 gX6_mend_X6_in rfl rfl rfl (by decide +kernel) ⟨Nat.le_of_ble_eq_true rfl, Nat.le_of_ble_eq_true rfl⟩) rfl rfl (Nat.le_of_ble_eq_true rfl) ⟨rfl, rfl⟩ ⟨Nat.zero_le _, Nat.zero_le _⟩ dX6_mend_47 (fun r47 h => ?_)
      refine aw_if_ne (tgt := 61) C dX6_mend_50 (by decide) (fun c50 => ?_) (fun c50 => ?_)
      · have h := h.2 c50
        refine aw_aload_n C dX6_mend_61 2 rfl ?_
        refine aw_getX6 C K inX6_mend_6 dX6_mend_62 8 (by decide) qX6_mend_fieldLink_RX6_28 0 (wX6_g ..) rfl ?_
        refine aw_bipush (v := 12) C dX6_mend_65 (by decide) ?_
        refine aw_iload_n C dX6_mend_67 3 rfl ?_
        refine aw_imul C dX6_mend_68 ?_
        refine aw_iload_n C dX6_mend_69 4 rfl ?_
        refine aw_iadd C dX6_mend_70 ?_
        obtain ⟨b71, h⟩ := h
        refine aw_zald C K dX6_mend_71 7 (wX6_g8 ..) b71 ?_
        refine aw_name (fun x5_72 ex5_72 => ?_)
        have h := h x5_72 ex5_72
        refine aw_istore (lv' := [(5, .int x5_72), (4, .int r22), (3, .int x3_19), (0, .ref o), (1, .int x1), (2, .int x2)]) C dX6_mend_72 (by decide) rfl ?_
        refine aw_aload_n C dX6_mend_74 3 rfl ?_
        refine aw_getX6 C K inX6_mend_6 dX6_mend_75 8 (by decide) qX6_mend_fieldLink_RX6_28 0 (wX6_g ..) rfl ?_
        refine aw_bipush (v := 12) C dX6_mend_78 (by decide) ?_
        refine aw_iload_n C dX6_mend_80 4 rfl ?_
        refine aw_imul C dX6_mend_81 ?_
        refine aw_iload_n C dX6_mend_82 5 rfl ?_
        refine aw_iadd C dX6_mend_83 ?_
        refine aw_iconst (v := 0) C dX6_mend_84 (by decide) ?_
        obtain ⟨b85, h⟩ := h
        refine aw_zast C K dX6_mend_85 7 (wX6_g8 ..) (wX6_s8 ..) b85 ?_
        obtain ⟨s85, es85⟩ : ∃ z, z = (uA s22 8 (upd (sA s22 8) ((12 * x1) + x2).toNatClampNeg (vp_nar .boolean 0))) := ⟨_, rfl⟩
        rw [← es85]
        have h := h s85 es85
        refine aw_iload C dX6_mend_86 0 rfl ?_
        refine aw_if_eq (tgt := 95) C dX6_mend_88 (by decide) (fun c88 => ?_) (fun c88 => ?_)
        · have h := h.1 c88
          refine aw_iconst (v := 0) C dX6_mend_95 (by decide) ?_
          refine aw_lv [] rfl ?_
          exact hQ 0 s85 h 96 dX6_mend_96
        have h := h.2 c88
        refine aw_iconst (v := 1) C dX6_mend_91 (by decide) ?_
        refine aw_goto (tgt := 96) C dX6_mend_92 (by decide) ?_
        refine aw_lv [] rfl ?_
        exact hQ 1 s85 h 96 dX6_mend_96
      have h := h.1 c50
      refine aw_aload_n C dX6_mend_53 2 rfl ?_
      refine aw_iload_n C dX6_mend_54 1 rfl ?_
      refine aw_putX6 (ty := .int) C K inX6_mend_6 dX6_mend_55 1 (by decide) qX6_mend_fieldLink_RX6_85 0 (wX6_g ..) rfl (by decide +kernel) rfl rfl (Nat.le_of_ble_eq_true rfl) (wX6_p1 ..) ?_
      obtain ⟨s55, es55⟩ : ∃ z, z = (uF s22 1 x3_19) := ⟨_, rfl⟩
      rw [← es55]
      have h := h s55 es55
      refine aw_ldc (v := (-1000001)) C dX6_mend_58 qX6_mend_constant_RX6_101_1000001 ?_
      refine aw_lv [] rfl ?_
      exact hQ (-1000001) s55 h 60 dX6_mend_60
    have h := h.2 c29
    refine aw_iload C dX6_mend_32 0 rfl ?_
    refine aw_lv [] rfl ?_
    exact hQ r22 s22 h 34 dX6_mend_34
  have h := h.1 c9
  refine aw_ldc (v := (-1000001)) C dX6_mend_12 qX6_mend_constant_RX6_101_1000001 ?_
  refine aw_lv [] rfl ?_
  exact hQ (-1000001) s2 h 14 dX6_mend_14
end SX6_mend
theorem mtX6_mend (l : Launch) (D : va_G) (cy : Nat → ClassId) (o : Nat) (ad : Nat → Nat) (s : St) (x1 : Int32) (x2 : Int32) (Q : Int32 → St → Prop) (hw : pX6_mend  s x1 x2 Q) : mI l yX6_mend wsX6_mend rmX6_mend D cy [.ref o, .int x1, .int x2] (wX6 cy o ad s) (wX6 cy o ad) Q :=
  metI (Wd := wX6 cy o ad) ⟨rfl, rfl⟩ (by decide) rfl (Nat.le_of_ble_eq_true rfl) (fun C K hQ => eX6_mend C K hQ s x1 x2 hw)
def rmX6_part : Room := { frames := 0, cells := 0, slots := 0, locals := 0 }
theorem inX6_part_6 : ∀ w ∈ wsX60, w ∈ wsX6_part := fun w h => (List.mem_cons_of_mem _ (List.mem_append_right _ h))
theorem qX6_part_fieldLink_RX6_56 : Cond.fieldLink RX6 56 "StageSwitchModel" "half" "[I" ∈ wsX6_part := (List.mem_cons_of_mem _ (List.mem_append_left _ (List.mem_of_getElem? (i := 2) rfl)))
theorem qX6_part_fieldLink_RX6_50 : Cond.fieldLink RX6 50 "StageSwitchModel" "order" "[I" ∈ wsX6_part := (List.mem_cons_of_mem _ (List.mem_append_left _ (List.mem_of_getElem? (i := 1) rfl)))
theorem qX6_part_fieldLink_RX6_53 : Cond.fieldLink RX6 53 "StageSwitchModel" "deeper" "[I" ∈ wsX6_part := (List.mem_cons_of_mem _ (List.mem_append_left _ (List.mem_of_getElem? (i := 3) rfl)))
theorem qX6_part_fieldLink_RX6_47 : Cond.fieldLink RX6 47 "StageSwitchModel" "bits" "[I" ∈ wsX6_part := (List.mem_cons_of_mem _ (List.mem_append_left _ (List.mem_of_getElem? (i := 0) rfl)))
section SX6_part
variable {p : Program} {l : Launch} {e : Env} {s0 : State} {m : MethodId} {args : Array Value} {below : List Frame} {meth : Method} {c : Code} {D : va_G} {A : Nat → Prop} {H0 : Heap} {cy : Nat → ClassId} {Z : State → Prop}
theorem tbX6_part_69 (C : ctB p s0 m args c cX6_part 12 RX6 wsX6_part) (K : ctK s0 D A H0 cy) {o : Nat} {ad : Nat → Nat}  {x4 : Int32} {x5 : Int32} {x6 : Int32} {x7 : Int32} {k90 : St → Prop} (hk90 : ∀ (s : St), k90 s → atG p l e rmX6_part s0 m args below meth c 0 0 Z 12 (iW D A H0 (wX6 cy o ad s)) [(0, .ref o), (4, .int x4), (5, .int x5), (6, .int x6), (7, .int x7)] [] 90) {kH : St → Int32 → Prop} (hkH : ∀ (s : St) (y8 : Int32), kH s y8 → atG p l e rmX6_part s0 m args below meth c 0 0 Z 12 (iW D A H0 (wX6 cy o ad s)) [(0, .ref o), (4, .int x4), (5, .int x5), (6, .int x6), (7, .int x7), (8, .int y8)] [] 69) (s : St) (x8 : Int32) (h : bX6_part_69 x4 x5 x6 x7 k90 kH s x8) : atG p l e rmX6_part s0 m args below meth c 0 0 Z 12 (iW D A H0 (wX6 cy o ad s)) [(0, .ref o), (4, .int x4), (5, .int x5), (6, .int x6), (7, .int x7), (8, .int x8)] [] 69 := by
  delta bX6_part_69 at h
  refine aw_iload C dX6_part_69 5 rfl ?_
  refine aw_iload C dX6_part_71 1 rfl ?_
  refine aw_icmp_ge (tgt := 90) C dX6_part_73 (by decide) (fun c73 => ?_) (fun c73 => ?_)
  · have h := h.1 c73
    refine aw_lv [0, 1, 2, 3, 4] rfl ?_
    exact hk90 s h
  have h := h.2 c73
  refine aw_aload_n C dX6_part_76 0 rfl ?_
  refine aw_getX6 C K inX6_part_6 dX6_part_77 21 (by decide) qX6_part_fieldLink_RX6_56 0 (wX6_g ..) rfl ?_
  refine aw_iload C dX6_part_80 5 rfl ?_
  refine aw_iconst (v := (-1)) C dX6_part_82 (by decide) ?_
  obtain ⟨b83, h⟩ := h
  refine aw_iast C K dX6_part_83 16 (wX6_g21 ..) (wX6_s21 ..) b83 ?_
  obtain ⟨s83, es83⟩ : ∃ z, z = (uA s 21 (upd (sA s 21) x8.toNatClampNeg (-1))) := ⟨_, rfl⟩
  rw [← es83]
  have h := h s83 es83
  obtain ⟨x8_84, ex8_84⟩ : ∃ y : Int32, y = x8 + 1 := ⟨_, rfl⟩
  have h := h x8_84 ex8_84
  refine aw_iinc (v := x8_84) (lv' := [(8, .int x8_84), (0, .ref o), (4, .int x4), (5, .int x5), (6, .int x6), (7, .int x7)]) C dX6_part_84 5 rfl (by rw [ex8_84]; rfl) (by decide) rfl ?_
  refine aw_goto (tgt := 69) C dX6_part_87 (by decide) ?_
  refine aw_lv [1, 2, 3, 4, 5, 0] rfl ?_
  exact hkH s83 x8_84 h
theorem tlX6_part_69 (C : ctB p s0 m args c cX6_part 12 RX6 wsX6_part) (K : ctK s0 D A H0 cy) {o : Nat} {ad : Nat → Nat}  {x4 : Int32} {x5 : Int32} {x6 : Int32} {x7 : Int32} {k90 : St → Prop} (hk90 : ∀ (s : St), k90 s → atG p l e rmX6_part s0 m args below meth c 0 0 Z 12 (iW D A H0 (wX6 cy o ad s)) [(0, .ref o), (4, .int x4), (5, .int x5), (6, .int x6), (7, .int x7)] [] 90) (s : St) (x8 : Int32) (h : lX6_part_69 x4 x5 x6 x7 k90 s x8) : atG p l e rmX6_part s0 m args below meth c 0 0 Z 12 (iW D A H0 (wX6 cy o ad s)) [(0, .ref o), (4, .int x4), (5, .int x5), (6, .int x6), (7, .int x7), (8, .int x8)] [] 69 :=
  lp_W (σ := St × Int32) (P := fun q => atG p l e rmX6_part s0 m args below meth c 0 0 Z 12 (iW D A H0 (wX6 cy o ad q.1)) [(0, .ref o), (4, .int x4), (5, .int x5), (6, .int x6), (7, .int x7), (8, .int q.2)] [] 69) (fun K2 hK2 q hb => tbX6_part_69 C K hk90 (fun s x8 hk => hK2 (s, x8) hk) q.1 q.2 hb) (s, x8) h
theorem tbX6_part_139 (C : ctB p s0 m args c cX6_part 12 RX6 wsX6_part) (K : ctK s0 D A H0 cy) {o : Nat} {ad : Nat → Nat}  {s : St} {x4 : Int32} {x5 : Int32} {x6 : Int32} {x7 : Int32} {x8 : Int32} {x10 : Int32} {k160 : Int32 → Prop} (hk160 : ∀ (y11 : Int32), k160 y11 → atG p l e rmX6_part s0 m args below meth c 0 0 Z 12 (iW D A H0 (wX6 cy o ad s)) [(0, .ref o), (4, .int x4), (5, .int x5), (6, .int x6), (7, .int x7), (8, .int x8), (11, .int y11)] [] 160) {kH : Int32 → Prop} (hkH : ∀ (y11 : Int32), kH y11 → atG p l e rmX6_part s0 m args below meth c 0 0 Z 12 (iW D A H0 (wX6 cy o ad s)) [(0, .ref o), (4, .int x4), (5, .int x5), (6, .int x6), (7, .int x7), (8, .int x8), (10, .int x10), (11, .int y11)] [] 139) (x11 : Int32) (h : bX6_part_139 s x4 x5 x6 x7 x8 x10 k160 kH x11) : atG p l e rmX6_part s0 m args below meth c 0 0 Z 12 (iW D A H0 (wX6 cy o ad s)) [(0, .ref o), (4, .int x4), (5, .int x5), (6, .int x6), (7, .int x7), (8, .int x8), (10, .int x10), (11, .int x11)] [] 139 := by
  delta bX6_part_139 at h
  refine aw_aload_n C dX6_part_139 0 rfl ?_
  refine aw_getX6 C K inX6_part_6 dX6_part_140 19 (by decide) qX6_part_fieldLink_RX6_50 0 (wX6_g ..) rfl ?_
  refine aw_iload C dX6_part_143 2 rfl ?_
  refine aw_iload C dX6_part_145 7 rfl ?_
  refine aw_iadd C dX6_part_147 ?_
  obtain ⟨b148, h⟩ := h
  refine aw_iald C K dX6_part_148 14 (wX6_g19 ..) b148 ?_
  refine aw_iload C dX6_part_149 6 rfl ?_
  refine aw_icmp_eq (tgt := 160) C dX6_part_151 (by decide) (fun c151 => ?_) (fun c151 => ?_)
  · have h := h.1 c151
    refine aw_lv [0, 1, 2, 3, 4, 5, 7] rfl ?_
    exact hk160 x11 h
  have h := h.2 c151
  obtain ⟨x11_154, ex11_154⟩ : ∃ y : Int32, y = x11 + 1 := ⟨_, rfl⟩
  have h := h x11_154 ex11_154
  refine aw_iinc (v := x11_154) (lv' := [(11, .int x11_154), (0, .ref o), (4, .int x4), (5, .int x5), (6, .int x6), (7, .int x7), (8, .int x8), (10, .int x10)]) C dX6_part_154 7 rfl (by rw [ex11_154]; rfl) (by decide) rfl ?_
  refine aw_goto (tgt := 139) C dX6_part_157 (by decide) ?_
  refine aw_lv [1, 2, 3, 4, 5, 6, 7, 0] rfl ?_
  exact hkH x11_154 h
theorem tlX6_part_139 (C : ctB p s0 m args c cX6_part 12 RX6 wsX6_part) (K : ctK s0 D A H0 cy) {o : Nat} {ad : Nat → Nat}  {s : St} {x4 : Int32} {x5 : Int32} {x6 : Int32} {x7 : Int32} {x8 : Int32} {x10 : Int32} {k160 : Int32 → Prop} (hk160 : ∀ (y11 : Int32), k160 y11 → atG p l e rmX6_part s0 m args below meth c 0 0 Z 12 (iW D A H0 (wX6 cy o ad s)) [(0, .ref o), (4, .int x4), (5, .int x5), (6, .int x6), (7, .int x7), (8, .int x8), (11, .int y11)] [] 160) (x11 : Int32) (h : lX6_part_139 s x4 x5 x6 x7 x8 x10 k160 x11) : atG p l e rmX6_part s0 m args below meth c 0 0 Z 12 (iW D A H0 (wX6 cy o ad s)) [(0, .ref o), (4, .int x4), (5, .int x5), (6, .int x6), (7, .int x7), (8, .int x8), (10, .int x10), (11, .int x11)] [] 139 :=
  lp_W (σ := Int32) (P := fun q => atG p l e rmX6_part s0 m args below meth c 0 0 Z 12 (iW D A H0 (wX6 cy o ad s)) [(0, .ref o), (4, .int x4), (5, .int x5), (6, .int x6), (7, .int x7), (8, .int x8), (10, .int x10), (11, .int q)] [] 139) (fun K2 hK2 q hb => tbX6_part_139 C K hk160 (fun x11 hk => hK2 x11 hk) q hb) x11 h
theorem tbX6_part_104 (C : ctB p s0 m args c cX6_part 12 RX6 wsX6_part) (K : ctK s0 D A H0 cy) {o : Nat} {ad : Nat → Nat}  {x4 : Int32} {x5 : Int32} {x6 : Int32} {x7 : Int32} {x8 : Int32} {k177 : St → Prop} (hk177 : ∀ (s : St), k177 s → atG p l e rmX6_part s0 m args below meth c 0 0 Z 12 (iW D A H0 (wX6 cy o ad s)) [(0, .ref o), (4, .int x4), (5, .int x5), (6, .int x6), (7, .int x7), (8, .int x8)] [] 177) {kH : St → Int32 → Prop} (hkH : ∀ (s : St) (y9 : Int32), kH s y9 → atG p l e rmX6_part s0 m args below meth c 0 0 Z 12 (iW D A H0 (wX6 cy o ad s)) [(0, .ref o), (4, .int x4), (5, .int x5), (6, .int x6), (7, .int x7), (8, .int x8), (9, .int y9)] [] 104) (s : St) (x9 : Int32) (h : bX6_part_104 x4 x5 x6 x7 x8 k177 kH s x9) : atG p l e rmX6_part s0 m args below meth c 0 0 Z 12 (iW D A H0 (wX6 cy o ad s)) [(0, .ref o), (4, .int x4), (5, .int x5), (6, .int x6), (7, .int x7), (8, .int x8), (9, .int x9)] [] 104 := by
  delta bX6_part_104 at h
  refine aw_aload_n C dX6_part_104 0 rfl ?_
  refine aw_getX6 C K inX6_part_6 dX6_part_105 21 (by decide) qX6_part_fieldLink_RX6_56 0 (wX6_g ..) rfl ?_
  refine aw_iload C dX6_part_108 6 rfl ?_
  obtain ⟨b110, h⟩ := h
  refine aw_iald C K dX6_part_110 16 (wX6_g21 ..) b110 ?_
  refine aw_if_ge (tgt := 177) C dX6_part_111 (by decide) (fun c111 => ?_) (fun c111 => ?_)
  · have h := h.1 c111
    refine aw_lv [0, 1, 2, 3, 4, 5] rfl ?_
    exact hk177 s h
  have h := h.2 c111
  refine aw_aload_n C dX6_part_114 0 rfl ?_
  refine aw_getX6 C K inX6_part_6 dX6_part_115 21 (by decide) qX6_part_fieldLink_RX6_56 0 (wX6_g ..) rfl ?_
  refine aw_iload C dX6_part_118 6 rfl ?_
  refine aw_iconst (v := 0) C dX6_part_120 (by decide) ?_
  obtain ⟨b121, h⟩ := h
  refine aw_iast C K dX6_part_121 16 (wX6_g21 ..) (wX6_s21 ..) b121 ?_
  obtain ⟨s121, es121⟩ : ∃ z, z = (uA s 21 (upd (sA s 21) x9.toNatClampNeg 0)) := ⟨_, rfl⟩
  rw [← es121]
  have h := h s121 es121
  refine aw_aload_n C dX6_part_122 0 rfl ?_
  refine aw_getX6 C K inX6_part_6 dX6_part_123 19 (by decide) qX6_part_fieldLink_RX6_50 0 (wX6_g ..) rfl ?_
  refine aw_iload C dX6_part_126 2 rfl ?_
  refine aw_iload C dX6_part_128 6 rfl ?_
  refine aw_iadd C dX6_part_130 ?_
  obtain ⟨b131, h⟩ := h
  refine aw_iald C K dX6_part_131 14 (wX6_g19 ..) b131 ?_
  refine aw_iconst (v := 1) C dX6_part_132 (by decide) ?_
  refine aw_ixor C dX6_part_133 ?_
  refine aw_name (fun x10_134 ex10_134 => ?_)
  have h := h x10_134 ex10_134
  refine aw_istore (lv' := [(10, .int x10_134), (0, .ref o), (4, .int x4), (5, .int x5), (6, .int x6), (7, .int x7), (8, .int x8), (9, .int x9)]) C dX6_part_134 (by decide) rfl ?_
  refine aw_iconst (v := 0) C dX6_part_136 (by decide) ?_
  refine aw_istore (lv' := [(11, .int 0), (10, .int x10_134), (0, .ref o), (4, .int x4), (5, .int x5), (6, .int x6), (7, .int x7), (8, .int x8), (9, .int x9)]) C dX6_part_137 (by decide) rfl ?_
  refine aw_lv [2, 3, 4, 5, 6, 7, 1, 0] rfl ?_
  refine tlX6_part_139 C K ?_ 0 h
  intro z160_11 h
  refine aw_aload_n C dX6_part_160 0 rfl ?_
  refine aw_getX6 C K inX6_part_6 dX6_part_161 21 (by decide) qX6_part_fieldLink_RX6_56 0 (wX6_g ..) rfl ?_
  refine aw_iload C dX6_part_164 6 rfl ?_
  refine aw_iconst (v := 1) C dX6_part_166 (by decide) ?_
  obtain ⟨b167, h⟩ := h
  refine aw_iast C K dX6_part_167 16 (wX6_g21 ..) (wX6_s21 ..) b167 ?_
  obtain ⟨s167, es167⟩ : ∃ z, z = (uA s121 21 (upd (sA s121 21) z160_11.toNatClampNeg 1)) := ⟨_, rfl⟩
  rw [← es167]
  have h := h s167 es167
  refine aw_iload C dX6_part_168 6 rfl ?_
  refine aw_iconst (v := 1) C dX6_part_170 (by decide) ?_
  refine aw_ixor C dX6_part_171 ?_
  refine aw_name (fun x9_172 ex9_172 => ?_)
  have h := h x9_172 ex9_172
  refine aw_istore (lv' := [(9, .int x9_172), (0, .ref o), (4, .int x4), (5, .int x5), (6, .int x6), (7, .int x7), (8, .int x8), (11, .int z160_11)]) C dX6_part_172 (by decide) rfl ?_
  refine aw_goto (tgt := 104) C dX6_part_174 (by decide) ?_
  refine aw_lv [1, 2, 3, 4, 5, 6, 0] rfl ?_
  exact hkH s167 x9_172 h
theorem tlX6_part_104 (C : ctB p s0 m args c cX6_part 12 RX6 wsX6_part) (K : ctK s0 D A H0 cy) {o : Nat} {ad : Nat → Nat}  {x4 : Int32} {x5 : Int32} {x6 : Int32} {x7 : Int32} {x8 : Int32} {k177 : St → Prop} (hk177 : ∀ (s : St), k177 s → atG p l e rmX6_part s0 m args below meth c 0 0 Z 12 (iW D A H0 (wX6 cy o ad s)) [(0, .ref o), (4, .int x4), (5, .int x5), (6, .int x6), (7, .int x7), (8, .int x8)] [] 177) (s : St) (x9 : Int32) (h : lX6_part_104 x4 x5 x6 x7 x8 k177 s x9) : atG p l e rmX6_part s0 m args below meth c 0 0 Z 12 (iW D A H0 (wX6 cy o ad s)) [(0, .ref o), (4, .int x4), (5, .int x5), (6, .int x6), (7, .int x7), (8, .int x8), (9, .int x9)] [] 104 :=
  lp_W (σ := St × Int32) (P := fun q => atG p l e rmX6_part s0 m args below meth c 0 0 Z 12 (iW D A H0 (wX6 cy o ad q.1)) [(0, .ref o), (4, .int x4), (5, .int x5), (6, .int x6), (7, .int x7), (8, .int x8), (9, .int q.2)] [] 104) (fun K2 hK2 q hb => tbX6_part_104 C K hk177 (fun s x9 hk => hK2 (s, x9) hk) q.1 q.2 hb) (s, x9) h
theorem tbX6_part_93 (C : ctB p s0 m args c cX6_part 12 RX6 wsX6_part) (K : ctK s0 D A H0 cy) {o : Nat} {ad : Nat → Nat}  {x4 : Int32} {x5 : Int32} {x6 : Int32} {x7 : Int32} {k183 : St → Prop} (hk183 : ∀ (s : St), k183 s → atG p l e rmX6_part s0 m args below meth c 0 0 Z 12 (iW D A H0 (wX6 cy o ad s)) [(0, .ref o), (4, .int x4), (5, .int x5), (6, .int x6), (7, .int x7)] [] 183) {kH : St → Int32 → Prop} (hkH : ∀ (s : St) (y8 : Int32), kH s y8 → atG p l e rmX6_part s0 m args below meth c 0 0 Z 12 (iW D A H0 (wX6 cy o ad s)) [(0, .ref o), (4, .int x4), (5, .int x5), (6, .int x6), (7, .int x7), (8, .int y8)] [] 93) (s : St) (x8 : Int32) (h : bX6_part_93 x4 x5 x6 x7 k183 kH s x8) : atG p l e rmX6_part s0 m args below meth c 0 0 Z 12 (iW D A H0 (wX6 cy o ad s)) [(0, .ref o), (4, .int x4), (5, .int x5), (6, .int x6), (7, .int x7), (8, .int x8)] [] 93 := by
  delta bX6_part_93 at h
  refine aw_iload C dX6_part_93 5 rfl ?_
  refine aw_iload C dX6_part_95 1 rfl ?_
  refine aw_icmp_ge (tgt := 183) C dX6_part_97 (by decide) (fun c97 => ?_) (fun c97 => ?_)
  · have h := h.1 c97
    refine aw_lv [0, 1, 2, 3, 4] rfl ?_
    exact hk183 s h
  have h := h.2 c97
  refine aw_iload C dX6_part_100 5 rfl ?_
  refine aw_istore (lv' := [(9, .int x8), (0, .ref o), (4, .int x4), (5, .int x5), (6, .int x6), (7, .int x7), (8, .int x8)]) C dX6_part_102 (by decide) rfl ?_
  refine aw_lv [1, 2, 3, 4, 5, 6, 0] rfl ?_
  refine tlX6_part_104 C K ?_ s x8 h
  intro s_177 h
  obtain ⟨x8_177, ex8_177⟩ : ∃ y : Int32, y = x8 + 1 := ⟨_, rfl⟩
  have h := h x8_177 ex8_177
  refine aw_iinc (v := x8_177) (lv' := [(8, .int x8_177), (0, .ref o), (4, .int x4), (5, .int x5), (6, .int x6), (7, .int x7)]) C dX6_part_177 5 rfl (by rw [ex8_177]; rfl) (by decide) rfl ?_
  refine aw_goto (tgt := 93) C dX6_part_180 (by decide) ?_
  refine aw_lv [1, 2, 3, 4, 5, 0] rfl ?_
  exact hkH s_177 x8_177 h
theorem tlX6_part_93 (C : ctB p s0 m args c cX6_part 12 RX6 wsX6_part) (K : ctK s0 D A H0 cy) {o : Nat} {ad : Nat → Nat}  {x4 : Int32} {x5 : Int32} {x6 : Int32} {x7 : Int32} {k183 : St → Prop} (hk183 : ∀ (s : St), k183 s → atG p l e rmX6_part s0 m args below meth c 0 0 Z 12 (iW D A H0 (wX6 cy o ad s)) [(0, .ref o), (4, .int x4), (5, .int x5), (6, .int x6), (7, .int x7)] [] 183) (s : St) (x8 : Int32) (h : lX6_part_93 x4 x5 x6 x7 k183 s x8) : atG p l e rmX6_part s0 m args below meth c 0 0 Z 12 (iW D A H0 (wX6 cy o ad s)) [(0, .ref o), (4, .int x4), (5, .int x5), (6, .int x6), (7, .int x7), (8, .int x8)] [] 93 :=
  lp_W (σ := St × Int32) (P := fun q => atG p l e rmX6_part s0 m args below meth c 0 0 Z 12 (iW D A H0 (wX6 cy o ad q.1)) [(0, .ref o), (4, .int x4), (5, .int x5), (6, .int x6), (7, .int x7), (8, .int q.2)] [] 93) (fun K2 hK2 q hb => tbX6_part_93 C K hk183 (fun s x8 hk => hK2 (s, x8) hk) q.1 q.2 hb) (s, x8) h
theorem tjX6_part_231 (C : ctB p s0 m args c cX6_part 12 RX6 wsX6_part) (K : ctK s0 D A H0 cy) {o : Nat} {ad : Nat → Nat}  {kH : St → Int32 → Prop} (s : St) (x4 : Int32) (x5 : Int32) (x6 : Int32) (x7 : Int32) (x8 : Int32) (x9 : Int32) (hkH : ∀ (s : St) (y8 : Int32), kH s y8 → atG p l e rmX6_part s0 m args below meth c 0 0 Z 12 (iW D A H0 (wX6 cy o ad s)) [(0, .ref o), (4, .int x4), (5, .int x5), (6, .int x6), (7, .int x7), (8, .int y8)] [] 186) (h : jX6_part_231 kH s x4 x5 x6 x7 x8 x9) : atG p l e rmX6_part s0 m args below meth c 0 0 Z 12 (iW D A H0 (wX6 cy o ad s)) [(0, .ref o), (4, .int x4), (5, .int x5), (6, .int x6), (7, .int x7), (8, .int x8), (9, .int x9)] [] 231 := by
  delta jX6_part_231 at h
  refine aw_iload C dX6_part_231 6 rfl ?_
  refine aw_iconst (v := 2) C dX6_part_233 (by decide) ?_
  refine aw_irem C dX6_part_234 (by decide) ?_
  refine aw_if_ne (tgt := 257) C dX6_part_235 (by decide) (fun c235 => ?_) (fun c235 => ?_)
  · have h := h.2 c235
    refine aw_aload_n C dX6_part_257 0 rfl ?_
    refine aw_getX6 C K inX6_part_6 dX6_part_258 20 (by decide) qX6_part_fieldLink_RX6_53 0 (wX6_g ..) rfl ?_
    refine aw_iload C dX6_part_261 2 rfl ?_
    refine aw_aload_n C dX6_part_263 0 rfl ?_
    refine aw_getX6 C K inX6_part_6 dX6_part_264 21 (by decide) qX6_part_fieldLink_RX6_56 0 (wX6_g ..) rfl ?_
    refine aw_iload C dX6_part_267 5 rfl ?_
    obtain ⟨b269, h⟩ := h
    refine aw_iald C K dX6_part_269 16 (wX6_g21 ..) b269 ?_
    refine aw_iload C dX6_part_270 1 rfl ?_
    refine aw_imul C dX6_part_272 ?_
    refine aw_iconst (v := 2) C dX6_part_273 (by decide) ?_
    refine aw_idiv C dX6_part_274 (by decide) ?_
    refine aw_iadd C dX6_part_275 ?_
    refine aw_iload C dX6_part_276 5 rfl ?_
    refine aw_iconst (v := 2) C dX6_part_278 (by decide) ?_
    refine aw_idiv C dX6_part_279 (by decide) ?_
    refine aw_iadd C dX6_part_280 ?_
    refine aw_iload C dX6_part_281 6 rfl ?_
    refine aw_iconst (v := 2) C dX6_part_283 (by decide) ?_
    refine aw_idiv C dX6_part_284 (by decide) ?_
    obtain ⟨b285, h⟩ := h
    refine aw_iast C K dX6_part_285 15 (wX6_g20 ..) (wX6_s20 ..) b285 ?_
    obtain ⟨s285, es285⟩ : ∃ z, z = (uA s 20 (upd (sA s 20) ((x5 + (((sA s 21 x8.toNatClampNeg) * x4) / 2)) + (x8 / 2)).toNatClampNeg (x9 / 2))) := ⟨_, rfl⟩
    rw [← es285]
    have h := h s285 es285
    obtain ⟨x8_286, ex8_286⟩ : ∃ y : Int32, y = x8 + 1 := ⟨_, rfl⟩
    have h := h x8_286 ex8_286
    refine aw_iinc (v := x8_286) (lv' := [(8, .int x8_286), (0, .ref o), (4, .int x4), (5, .int x5), (6, .int x6), (7, .int x7), (9, .int x9)]) C dX6_part_286 5 rfl (by rw [ex8_286]; rfl) (by decide) rfl ?_
    refine aw_goto (tgt := 186) C dX6_part_289 (by decide) ?_
    refine aw_lv [1, 2, 3, 4, 5, 0] rfl ?_
    exact hkH s285 x8_286 h
  have h := h.1 c235
  refine aw_aload_n C dX6_part_238 0 rfl ?_
  refine aw_getX6 C K inX6_part_6 dX6_part_239 18 (by decide) qX6_part_fieldLink_RX6_47 0 (wX6_g ..) rfl ?_
  refine aw_iload C dX6_part_242 4 rfl ?_
  refine aw_iload C dX6_part_244 6 rfl ?_
  refine aw_iconst (v := 2) C dX6_part_246 (by decide) ?_
  refine aw_idiv C dX6_part_247 (by decide) ?_
  refine aw_iadd C dX6_part_248 ?_
  refine aw_aload_n C dX6_part_249 0 rfl ?_
  refine aw_getX6 C K inX6_part_6 dX6_part_250 21 (by decide) qX6_part_fieldLink_RX6_56 0 (wX6_g ..) rfl ?_
  refine aw_iload C dX6_part_253 5 rfl ?_
  obtain ⟨b255, h⟩ := h
  refine aw_iald C K dX6_part_255 16 (wX6_g21 ..) b255 ?_
  obtain ⟨b256, h⟩ := h
  refine aw_iast C K dX6_part_256 13 (wX6_g18 ..) (wX6_s18 ..) b256 ?_
  obtain ⟨s256, es256⟩ : ∃ z, z = (uA s 18 (upd (sA s 18) (x7 + (x9 / 2)).toNatClampNeg (sA s 21 x8.toNatClampNeg))) := ⟨_, rfl⟩
  rw [← es256]
  have h := h s256 es256
  refine aw_aload_n C dX6_part_257 0 rfl ?_
  refine aw_getX6 C K inX6_part_6 dX6_part_258 20 (by decide) qX6_part_fieldLink_RX6_53 0 (wX6_g ..) rfl ?_
  refine aw_iload C dX6_part_261 2 rfl ?_
  refine aw_aload_n C dX6_part_263 0 rfl ?_
  refine aw_getX6 C K inX6_part_6 dX6_part_264 21 (by decide) qX6_part_fieldLink_RX6_56 0 (wX6_g ..) rfl ?_
  refine aw_iload C dX6_part_267 5 rfl ?_
  obtain ⟨b269, h⟩ := h
  refine aw_iald C K dX6_part_269 16 (wX6_g21 ..) b269 ?_
  refine aw_iload C dX6_part_270 1 rfl ?_
  refine aw_imul C dX6_part_272 ?_
  refine aw_iconst (v := 2) C dX6_part_273 (by decide) ?_
  refine aw_idiv C dX6_part_274 (by decide) ?_
  refine aw_iadd C dX6_part_275 ?_
  refine aw_iload C dX6_part_276 5 rfl ?_
  refine aw_iconst (v := 2) C dX6_part_278 (by decide) ?_
  refine aw_idiv C dX6_part_279 (by decide) ?_
  refine aw_iadd C dX6_part_280 ?_
  refine aw_iload C dX6_part_281 6 rfl ?_
  refine aw_iconst (v := 2) C dX6_part_283 (by decide) ?_
  refine aw_idiv C dX6_part_284 (by decide) ?_
  obtain ⟨b285, h⟩ := h
  refine aw_iast C K dX6_part_285 15 (wX6_g20 ..) (wX6_s20 ..) b285 ?_
  obtain ⟨s285, es285⟩ : ∃ z, z = (uA s256 20 (upd (sA s256 20) ((x5 + (((sA s256 21 x8.toNatClampNeg) * x4) / 2)) + (x8 / 2)).toNatClampNeg (x9 / 2))) := ⟨_, rfl⟩
  rw [← es285]
  have h := h s285 es285
  obtain ⟨x8_286, ex8_286⟩ : ∃ y : Int32, y = x8 + 1 := ⟨_, rfl⟩
  have h := h x8_286 ex8_286
  refine aw_iinc (v := x8_286) (lv' := [(8, .int x8_286), (0, .ref o), (4, .int x4), (5, .int x5), (6, .int x6), (7, .int x7), (9, .int x9)]) C dX6_part_286 5 rfl (by rw [ex8_286]; rfl) (by decide) rfl ?_
  refine aw_goto (tgt := 186) C dX6_part_289 (by decide) ?_
  refine aw_lv [1, 2, 3, 4, 5, 0] rfl ?_
  exact hkH s285 x8_286 h
theorem tbX6_part_186 (C : ctB p s0 m args c cX6_part 12 RX6 wsX6_part) (K : ctK s0 D A H0 cy) {o : Nat} {ad : Nat → Nat}  {x4 : Int32} {x5 : Int32} {x6 : Int32} {x7 : Int32} {k292 : St → Prop} (hk292 : ∀ (s : St), k292 s → atG p l e rmX6_part s0 m args below meth c 0 0 Z 12 (iW D A H0 (wX6 cy o ad s)) [(0, .ref o)] [] 292) {kH : St → Int32 → Prop} (hkH : ∀ (s : St) (y8 : Int32), kH s y8 → atG p l e rmX6_part s0 m args below meth c 0 0 Z 12 (iW D A H0 (wX6 cy o ad s)) [(0, .ref o), (4, .int x4), (5, .int x5), (6, .int x6), (7, .int x7), (8, .int y8)] [] 186) (s : St) (x8 : Int32) (h : bX6_part_186 x4 x5 x6 x7 k292 kH s x8) : atG p l e rmX6_part s0 m args below meth c 0 0 Z 12 (iW D A H0 (wX6 cy o ad s)) [(0, .ref o), (4, .int x4), (5, .int x5), (6, .int x6), (7, .int x7), (8, .int x8)] [] 186 := by
  delta bX6_part_186 at h
  refine aw_iload C dX6_part_186 5 rfl ?_
  refine aw_iload C dX6_part_188 1 rfl ?_
  refine aw_icmp_ge (tgt := 292) C dX6_part_190 (by decide) (fun c190 => ?_) (fun c190 => ?_)
  · have h := h.1 c190
    refine aw_lv [0] rfl ?_
    exact hk292 s h
  have h := h.2 c190
  refine aw_aload_n C dX6_part_193 0 rfl ?_
  refine aw_getX6 C K inX6_part_6 dX6_part_194 19 (by decide) qX6_part_fieldLink_RX6_50 0 (wX6_g ..) rfl ?_
  refine aw_iload C dX6_part_197 2 rfl ?_
  refine aw_iload C dX6_part_199 5 rfl ?_
  refine aw_iadd C dX6_part_201 ?_
  obtain ⟨b202, h⟩ := h
  refine aw_iald C K dX6_part_202 14 (wX6_g19 ..) b202 ?_
  refine aw_name (fun x9_203 ex9_203 => ?_)
  have h := h x9_203 ex9_203
  refine aw_istore (lv' := [(9, .int x9_203), (0, .ref o), (4, .int x4), (5, .int x5), (6, .int x6), (7, .int x7), (8, .int x8)]) C dX6_part_203 (by decide) rfl ?_
  refine aw_iload C dX6_part_205 6 rfl ?_
  refine aw_iconst (v := 2) C dX6_part_207 (by decide) ?_
  refine aw_irem C dX6_part_208 (by decide) ?_
  refine aw_if_ne (tgt := 231) C dX6_part_209 (by decide) (fun c209 => ?_) (fun c209 => ?_)
  · have h := h.2 c209
    refine aw_lv [1, 2, 3, 4, 5, 6, 0] rfl ?_
    exact tjX6_part_231 C K s x4 x5 x6 x7 x8 x9_203 hkH h
  have h := h.1 c209
  refine aw_aload_n C dX6_part_212 1 rfl ?_
  refine aw_getX6 C K inX6_part_6 dX6_part_213 18 (by decide) qX6_part_fieldLink_RX6_47 0 (wX6_g ..) rfl ?_
  refine aw_iload C dX6_part_216 4 rfl ?_
  refine aw_iload C dX6_part_218 6 rfl ?_
  refine aw_iconst (v := 2) C dX6_part_220 (by decide) ?_
  refine aw_idiv C dX6_part_221 (by decide) ?_
  refine aw_iadd C dX6_part_222 ?_
  refine aw_aload_n C dX6_part_223 1 rfl ?_
  refine aw_getX6 C K inX6_part_6 dX6_part_224 21 (by decide) qX6_part_fieldLink_RX6_56 0 (wX6_g ..) rfl ?_
  refine aw_iload C dX6_part_227 6 rfl ?_
  obtain ⟨b229, h⟩ := h
  refine aw_iald C K dX6_part_229 16 (wX6_g21 ..) b229 ?_
  obtain ⟨b230, h⟩ := h
  refine aw_iast C K dX6_part_230 13 (wX6_g18 ..) (wX6_s18 ..) b230 ?_
  obtain ⟨s230, es230⟩ : ∃ z, z = (uA s 18 (upd (sA s 18) (x6 + (x8 / 2)).toNatClampNeg (sA s 21 x8.toNatClampNeg))) := ⟨_, rfl⟩
  rw [← es230]
  have h := h s230 es230
  refine aw_lv [1, 2, 3, 4, 5, 6, 0] rfl ?_
  exact tjX6_part_231 C K s230 x4 x5 x6 x7 x8 x9_203 hkH h
theorem tlX6_part_186 (C : ctB p s0 m args c cX6_part 12 RX6 wsX6_part) (K : ctK s0 D A H0 cy) {o : Nat} {ad : Nat → Nat}  {x4 : Int32} {x5 : Int32} {x6 : Int32} {x7 : Int32} {k292 : St → Prop} (hk292 : ∀ (s : St), k292 s → atG p l e rmX6_part s0 m args below meth c 0 0 Z 12 (iW D A H0 (wX6 cy o ad s)) [(0, .ref o)] [] 292) (s : St) (x8 : Int32) (h : lX6_part_186 x4 x5 x6 x7 k292 s x8) : atG p l e rmX6_part s0 m args below meth c 0 0 Z 12 (iW D A H0 (wX6 cy o ad s)) [(0, .ref o), (4, .int x4), (5, .int x5), (6, .int x6), (7, .int x7), (8, .int x8)] [] 186 :=
  lp_W (σ := St × Int32) (P := fun q => atG p l e rmX6_part s0 m args below meth c 0 0 Z 12 (iW D A H0 (wX6 cy o ad q.1)) [(0, .ref o), (4, .int x4), (5, .int x5), (6, .int x6), (7, .int x7), (8, .int q.2)] [] 186) (fun K2 hK2 q hb => tbX6_part_186 C K hk292 (fun s x8 hk => hK2 (s, x8) hk) q.1 q.2 hb) (s, x8) h
theorem eX6_part (C : ctB p s0 m args c cX6_part 12 RX6 wsX6_part) (K : ctK s0 D A H0 cy) {o : Nat} {ad : Nat → Nat} {Q : St → Prop} (hQ : ∀ (u : St), Q u → ∀ pc, decode cX6_part pc = .ok (.return_, 1) → atG p l e rmX6_part s0 m args below meth c 0 0 Z 12 (iW D A H0 (wX6 cy o ad u)) [] [] pc) (s : St) (x1 : Int32) (x2 : Int32) (x3 : Int32) (h : pX6_part  s x1 x2 x3 Q) : atG p l e rmX6_part s0 m args below meth c 0 0 Z 12 (iW D A H0 (wX6 cy o ad s)) [(0, .ref o), (1, .int x1), (2, .int x2), (3, .int x3)] [] 0 := by
  delta pX6_part at h
  refine aw_iconst (v := 1) C dX6_part_0 (by decide) ?_
  refine aw_iload_n C dX6_part_1 1 rfl ?_
  refine aw_iload_n C dX6_part_2 2 rfl ?_
  refine aw_isub C dX6_part_3 ?_
  refine aw_ishl C dX6_part_4 ?_
  refine aw_name (fun x4_5 ex4_5 => ?_)
  have h := h x4_5 ex4_5
  refine aw_istore (lv' := [(4, .int x4_5), (0, .ref o), (1, .int x1), (2, .int x2), (3, .int x3)]) C dX6_part_5 (by decide) rfl ?_
  refine aw_iload_n C dX6_part_7 4 rfl ?_
  refine aw_iload C dX6_part_8 0 rfl ?_
  refine aw_imul C dX6_part_10 ?_
  refine aw_name (fun x5_11 ex5_11 => ?_)
  have h := h x5_11 ex5_11
  refine aw_istore (lv' := [(5, .int x5_11), (4, .int x4_5), (0, .ref o), (1, .int x1), (2, .int x2), (3, .int x3)]) C dX6_part_11 (by decide) rfl ?_
  refine aw_bipush (v := 8) C dX6_part_13 (by decide) ?_
  refine aw_iload_n C dX6_part_15 4 rfl ?_
  refine aw_imul C dX6_part_16 ?_
  refine aw_iload_n C dX6_part_17 5 rfl ?_
  refine aw_iload C dX6_part_18 1 rfl ?_
  refine aw_imul C dX6_part_20 ?_
  refine aw_iconst (v := 2) C dX6_part_21 (by decide) ?_
  refine aw_idiv C dX6_part_22 (by decide) ?_
  refine aw_iadd C dX6_part_23 ?_
  refine aw_name (fun x6_24 ex6_24 => ?_)
  have h := h x6_24 ex6_24
  refine aw_istore (lv' := [(6, .int x6_24), (5, .int x5_11), (4, .int x4_5), (0, .ref o), (1, .int x1), (2, .int x2), (3, .int x3)]) C dX6_part_24 (by decide) rfl ?_
  refine aw_bipush (v := 8) C dX6_part_26 (by decide) ?_
  refine aw_iconst (v := 2) C dX6_part_28 (by decide) ?_
  refine aw_iload_n C dX6_part_29 4 rfl ?_
  refine aw_imul C dX6_part_30 ?_
  refine aw_iconst (v := 2) C dX6_part_31 (by decide) ?_
  refine aw_isub C dX6_part_32 ?_
  refine aw_iload_n C dX6_part_33 5 rfl ?_
  refine aw_isub C dX6_part_34 ?_
  refine aw_imul C dX6_part_35 ?_
  refine aw_iload_n C dX6_part_36 6 rfl ?_
  refine aw_iload C dX6_part_37 2 rfl ?_
  refine aw_imul C dX6_part_39 ?_
  refine aw_iconst (v := 2) C dX6_part_40 (by decide) ?_
  refine aw_idiv C dX6_part_41 (by decide) ?_
  refine aw_iadd C dX6_part_42 ?_
  refine aw_name (fun x7_43 ex7_43 => ?_)
  have h := h x7_43 ex7_43
  refine aw_istore (lv' := [(7, .int x7_43), (6, .int x6_24), (5, .int x5_11), (4, .int x4_5), (0, .ref o), (1, .int x1), (2, .int x2), (3, .int x3)]) C dX6_part_43 (by decide) rfl ?_
  refine aw_iload C dX6_part_45 3 rfl ?_
  refine aw_iconst (v := 2) C dX6_part_47 (by decide) ?_
  refine aw_icmp_ne (tgt := 66) C dX6_part_48 (by decide) (fun c48 => ?_) (fun c48 => ?_)
  · have h := h.2 c48
    refine aw_iconst (v := 0) C dX6_part_66 (by decide) ?_
    refine aw_istore (lv' := [(8, .int 0), (7, .int x7_43), (6, .int x6_24), (5, .int x5_11), (4, .int x4_5), (0, .ref o), (1, .int x1), (2, .int x2), (3, .int x3)]) C dX6_part_67 (by decide) rfl ?_
    refine aw_lv [5, 4, 3, 2, 1, 0] rfl ?_
    refine tlX6_part_69 C K ?_ s 0 h
    intro s_90 h
    refine aw_iconst (v := 0) C dX6_part_90 (by decide) ?_
    refine aw_istore (lv' := [(8, .int 0), (0, .ref o), (4, .int x4_5), (5, .int x5_11), (6, .int x6_24), (7, .int x7_43)]) C dX6_part_91 (by decide) rfl ?_
    refine aw_lv [1, 2, 3, 4, 5, 0] rfl ?_
    refine tlX6_part_93 C K ?_ s_90 0 h
    intro s_183 h
    refine aw_iconst (v := 0) C dX6_part_183 (by decide) ?_
    refine aw_istore (lv' := [(8, .int 0), (0, .ref o), (4, .int x4_5), (5, .int x5_11), (6, .int x6_24), (7, .int x7_43)]) C dX6_part_184 (by decide) rfl ?_
    refine aw_lv [1, 2, 3, 4, 5, 0] rfl ?_
    refine tlX6_part_186 C K ?_ s_183 0 h
    intro s_292 h
    refine aw_lv [] rfl ?_
    exact hQ s_292 h 292 dX6_part_292
  have h := h.1 c48
  refine aw_aload_n C dX6_part_51 4 rfl ?_
  refine aw_getX6 C K inX6_part_6 dX6_part_52 18 (by decide) qX6_part_fieldLink_RX6_47 0 (wX6_g ..) rfl ?_
  refine aw_iload C dX6_part_55 1 rfl ?_
  refine aw_aload_n C dX6_part_57 4 rfl ?_
  refine aw_getX6 C K inX6_part_6 dX6_part_58 19 (by decide) qX6_part_fieldLink_RX6_50 0 (wX6_g ..) rfl ?_
  refine aw_iload C dX6_part_61 2 rfl ?_
  obtain ⟨b63, h⟩ := h
  refine aw_iald C K dX6_part_63 14 (wX6_g19 ..) b63 ?_
  obtain ⟨b64, h⟩ := h
  refine aw_iast C K dX6_part_64 13 (wX6_g18 ..) (wX6_s18 ..) b64 ?_
  obtain ⟨s64, es64⟩ : ∃ z, z = (uA s 18 (upd (sA s 18) x6_24.toNatClampNeg (sA s 19 x5_11.toNatClampNeg))) := ⟨_, rfl⟩
  rw [← es64]
  have h := h s64 es64
  refine aw_lv [] rfl ?_
  exact hQ s64 h 65 dX6_part_65
end SX6_part
theorem mtX6_part (l : Launch) (D : va_G) (cy : Nat → ClassId) (o : Nat) (ad : Nat → Nat) (s : St) (x1 : Int32) (x2 : Int32) (x3 : Int32) (Q : St → Prop) (hw : pX6_part  s x1 x2 x3 Q) : mV l yX6_part wsX6_part rmX6_part D cy [.ref o, .int x1, .int x2, .int x3] (wX6 cy o ad s) (wX6 cy o ad) Q :=
  metV (Wd := wX6 cy o ad) ⟨rfl, rfl⟩ (by decide) rfl (Nat.le_of_ble_eq_true rfl) (fun C K hQ => eX6_part C K hQ s x1 x2 x3 hw)
def rmX6_bit : Room := { frames := 2, cells := 0, slots := 0, locals := 45 }
theorem inX6_bit_6 : ∀ w ∈ wsX60, w ∈ wsX6_bit := fun w h => (List.mem_cons_of_mem _ (List.mem_append_right _ h))
theorem qX6_bit_fieldLink_RX6_81 : Cond.fieldLink RX6 81 "StageSwitchModel" "thrown" "I" ∈ wsX6_bit := (List.mem_cons_of_mem _ (List.mem_append_left _ (List.mem_append_left _ (List.mem_of_getElem? (i := 0) rfl))))
theorem qX6_bit_constant_RX6_101_1000001 : Cond.constant RX6 101 (-1000001) ∈ wsX6_bit := (List.mem_cons_of_mem _ (List.mem_append_left _ (List.mem_append_left _ (List.mem_of_getElem? (i := 2) rfl))))
theorem qX6_bit_constantLong_RX6_188_4 : Cond.constantLong RX6 188 (4) ∈ wsX6_bit := (List.mem_cons_of_mem _ (List.mem_append_left _ (List.mem_append_left _ (List.mem_of_getElem? (i := 1) rfl))))
theorem qX6_bit_fieldLink_RX6_7 : Cond.fieldLink RX6 7 "StageSwitchModel" "lane" "[I" ∈ wsX6_bit := (List.mem_cons_of_mem _ (List.mem_append_left _ (List.mem_append_left _ (List.mem_of_getElem? (i := 3) rfl))))
theorem qX6_bit_fieldLink_RX6_13 : Cond.fieldLink RX6 13 "StageSwitchModel" "many" "[I" ∈ wsX6_bit := (List.mem_cons_of_mem _ (List.mem_append_left _ (List.mem_append_left _ (List.mem_of_getElem? (i := 4) rfl))))
theorem qX6_bit_fieldLink_RX6_16 : Cond.fieldLink RX6 16 "StageSwitchModel" "item" "[I" ∈ wsX6_bit := (List.mem_cons_of_mem _ (List.mem_append_left _ (List.mem_append_left _ (List.mem_of_getElem? (i := 5) rfl))))
theorem qX6_bit_fieldLink_RX6_50 : Cond.fieldLink RX6 50 "StageSwitchModel" "order" "[I" ∈ wsX6_bit := (List.mem_cons_of_mem _ (List.mem_append_left _ (List.mem_append_left _ (List.mem_of_getElem? (i := 6) rfl))))
theorem qX6_bit_fieldLink_RX6_85 : Cond.fieldLink RX6 85 "StageSwitchModel" "status" "I" ∈ wsX6_bit := (List.mem_cons_of_mem _ (List.mem_append_left _ (List.mem_append_left _ (List.mem_of_getElem? (i := 7) rfl))))
theorem qX6_bit_fieldLink_RX6_53 : Cond.fieldLink RX6 53 "StageSwitchModel" "deeper" "[I" ∈ wsX6_bit := (List.mem_cons_of_mem _ (List.mem_append_left _ (List.mem_append_left _ (List.mem_of_getElem? (i := 8) rfl))))
theorem qX6_bit_fieldLink_RX6_47 : Cond.fieldLink RX6 47 "StageSwitchModel" "bits" "[I" ∈ wsX6_bit := (List.mem_cons_of_mem _ (List.mem_append_left _ (List.mem_append_left _ (List.mem_of_getElem? (i := 9) rfl))))
section SX6_bit
variable {p : Program} {l : Launch} {e : Env} {s0 : State} {m : MethodId} {args : Array Value} {below : List Frame} {meth : Method} {c : Code} {D : va_G} {A : Nat → Prop} {H0 : Heap} {cy : Nat → ClassId} {Z : State → Prop}
theorem tbX6_bit_114 (C : ctB p s0 m args c cX6_bit 10 RX6 wsX6_bit) (K : ctK s0 D A H0 cy) {o : Nat} {ad : Nat → Nat}  {x1 : Int32} {x2 : Int32} {x3 : Int32} {x4 : Int32} {x5 : Int32} {x6 : Int32} {k163 : St → Prop} {k190 : St → Prop} (hk163 : ∀ (s : St), k163 s → atG p l e rmX6_bit s0 m args below meth c 0 0 Z 10 (iW D A H0 (wX6 cy o ad s)) [(0, .ref o)] [] 163) (hk190 : ∀ (s : St), k190 s → atG p l e rmX6_bit s0 m args below meth c 0 0 Z 10 (iW D A H0 (wX6 cy o ad s)) [(0, .ref o), (1, .int x1), (4, .int x4), (5, .int x5), (6, .int x6)] [] 190) {kH : St → Int32 → Int32 → Prop} (hkH : ∀ (s : St) (y7 : Int32) (y8 : Int32), kH s y7 y8 → atG p l e rmX6_bit s0 m args below meth c 0 0 Z 10 (iW D A H0 (wX6 cy o ad s)) [(0, .ref o), (1, .int x1), (2, .int x2), (3, .int x3), (4, .int x4), (5, .int x5), (6, .int x6), (7, .int y7), (8, .int y8)] [] 114) (s : St) (x7 : Int32) (x8 : Int32) (h : bX6_bit_114 x1 x2 x3 x4 x5 x6 k163 k190 kH s x7 x8) : atG p l e rmX6_bit s0 m args below meth c 0 0 Z 10 (iW D A H0 (wX6 cy o ad s)) [(0, .ref o), (1, .int x1), (2, .int x2), (3, .int x3), (4, .int x4), (5, .int x5), (6, .int x6), (7, .int x7), (8, .int x8)] [] 114 := by
  delta bX6_bit_114 at h
  refine aw_iload C dX6_bit_114 8 rfl ?_
  refine aw_iload C dX6_bit_116 6 rfl ?_
  refine aw_icmp_ge (tgt := 190) C dX6_bit_118 (by decide) (fun c118 => ?_) (fun c118 => ?_)
  · have h := h.1 c118
    refine aw_lv [0, 1, 4, 5, 6] rfl ?_
    exact hk190 s h
  have h := h.2 c118
  refine aw_aload_n C dX6_bit_121 0 rfl ?_
  refine aw_getX6 C K inX6_bit_6 dX6_bit_122 4 (by decide) qX6_bit_fieldLink_RX6_16 0 (wX6_g ..) rfl ?_
  refine aw_bipush (v := 64) C dX6_bit_125 (by decide) ?_
  refine aw_iload_n C dX6_bit_127 2 rfl ?_
  refine aw_imul C dX6_bit_128 ?_
  refine aw_iload_n C dX6_bit_129 3 rfl ?_
  refine aw_iadd C dX6_bit_130 ?_
  refine aw_iload C dX6_bit_131 8 rfl ?_
  refine aw_iadd C dX6_bit_133 ?_
  obtain ⟨b134, h⟩ := h
  refine aw_iald C K dX6_bit_134 3 (wX6_g4 ..) b134 ?_
  refine aw_name (fun x9_135 ex9_135 => ?_)
  have h := h x9_135 ex9_135
  refine aw_istore (lv' := [(9, .int x9_135), (0, .ref o), (1, .int x1), (2, .int x2), (3, .int x3), (4, .int x4), (5, .int x5), (6, .int x6), (7, .int x7), (8, .int x8)]) C dX6_bit_135 (by decide) rfl ?_
  refine aw_iload C dX6_bit_137 0 rfl ?_
  refine aw_i2l C dX6_bit_139 ?_
  refine aw_lconst (v := 0) C dX6_bit_140 (by decide) ?_
  refine aw_iload C dX6_bit_141 7 rfl ?_
  refine aw_iconst (v := 1) C dX6_bit_143 (by decide) ?_
  refine aw_isub C dX6_bit_144 ?_
  refine aw_i2l C dX6_bit_145 ?_
  refine aw_callS (As := [.long x9_135.toInt64, .long 0, .long ((x6 - 1).toInt64)]) (rest := []) C (mtX6_in l x9_135.toInt64 0 ((x6 - 1).toInt64) _ h) (va_cwS 3 C.2.2.2.2.1 gX6_bit_X6_in rfl rfl rfl (by decide +kernel) ⟨Nat.le_of_ble_eq_true rfl, Nat.le_of_ble_eq_true rfl⟩) rfl rfl (Nat.le_of_ble_eq_true rfl) ⟨rfl, rfl⟩ ⟨Nat.zero_le _, Nat.zero_le _⟩ dX6_bit_146 (fun r146 h => ?_)
  refine aw_if_eq (tgt := 163) C dX6_bit_149 (by decide) (fun c149 => ?_) (fun c149 => ?_)
  · have h := h.1 c149
    refine aw_lv [1] rfl ?_
    exact hk163 s h
  have h := h.2 c149
  refine aw_iload C dX6_bit_152 8 rfl ?_
  refine aw_iload C dX6_bit_154 0 rfl ?_
  refine aw_ishr C dX6_bit_156 ?_
  refine aw_iconst (v := 1) C dX6_bit_157 (by decide) ?_
  refine aw_iand C dX6_bit_158 ?_
  refine aw_iconst (v := 1) C dX6_bit_159 (by decide) ?_
  refine aw_icmp_ne (tgt := 166) C dX6_bit_160 (by decide) (fun c160 => ?_) (fun c160 => ?_)
  · have h := h.2 c160
    refine aw_iload C dX6_bit_166 8 rfl ?_
    refine aw_iconst (v := 1) C dX6_bit_168 (by decide) ?_
    refine aw_iload C dX6_bit_169 0 rfl ?_
    refine aw_ishl C dX6_bit_171 ?_
    refine aw_ior C dX6_bit_172 ?_
    refine aw_name (fun x7_173 ex7_173 => ?_)
    have h := h x7_173 ex7_173
    refine aw_istore (lv' := [(7, .int x7_173), (9, .int x9_135), (0, .ref o), (1, .int x1), (2, .int x2), (3, .int x3), (4, .int x4), (5, .int x5), (6, .int x6), (8, .int x8)]) C dX6_bit_173 (by decide) rfl ?_
    refine aw_aload_n C dX6_bit_175 2 rfl ?_
    refine aw_getX6 C K inX6_bit_6 dX6_bit_176 19 (by decide) qX6_bit_fieldLink_RX6_50 0 (wX6_g ..) rfl ?_
    refine aw_iload C dX6_bit_179 9 rfl ?_
    refine aw_iload C dX6_bit_181 1 rfl ?_
    obtain ⟨b183, h⟩ := h
    refine aw_iast C K dX6_bit_183 14 (wX6_g19 ..) (wX6_s19 ..) b183 ?_
    obtain ⟨s183, es183⟩ : ∃ z, z = (uA s 19 (upd (sA s 19) x8.toNatClampNeg x9_135)) := ⟨_, rfl⟩
    rw [← es183]
    have h := h s183 es183
    obtain ⟨x8_184, ex8_184⟩ : ∃ y : Int32, y = x8 + 1 := ⟨_, rfl⟩
    have h := h x8_184 ex8_184
    refine aw_iinc (v := x8_184) (lv' := [(8, .int x8_184), (7, .int x7_173), (9, .int x9_135), (0, .ref o), (1, .int x1), (2, .int x2), (3, .int x3), (4, .int x4), (5, .int x5), (6, .int x6)]) C dX6_bit_184 9 rfl (by rw [ex8_184]; rfl) (by decide) rfl ?_
    refine aw_goto (tgt := 114) C dX6_bit_187 (by decide) ?_
    refine aw_lv [3, 4, 5, 6, 7, 8, 9, 1, 0] rfl ?_
    exact hkH s183 x7_173 x8_184 h
  have h := h.1 c160
  refine aw_lv [1] rfl ?_
  exact hk163 s h
theorem tlX6_bit_114 (C : ctB p s0 m args c cX6_bit 10 RX6 wsX6_bit) (K : ctK s0 D A H0 cy) {o : Nat} {ad : Nat → Nat}  {x1 : Int32} {x2 : Int32} {x3 : Int32} {x4 : Int32} {x5 : Int32} {x6 : Int32} {k163 : St → Prop} {k190 : St → Prop} (hk163 : ∀ (s : St), k163 s → atG p l e rmX6_bit s0 m args below meth c 0 0 Z 10 (iW D A H0 (wX6 cy o ad s)) [(0, .ref o)] [] 163) (hk190 : ∀ (s : St), k190 s → atG p l e rmX6_bit s0 m args below meth c 0 0 Z 10 (iW D A H0 (wX6 cy o ad s)) [(0, .ref o), (1, .int x1), (4, .int x4), (5, .int x5), (6, .int x6)] [] 190) (s : St) (x7 : Int32) (x8 : Int32) (h : lX6_bit_114 x1 x2 x3 x4 x5 x6 k163 k190 s x7 x8) : atG p l e rmX6_bit s0 m args below meth c 0 0 Z 10 (iW D A H0 (wX6 cy o ad s)) [(0, .ref o), (1, .int x1), (2, .int x2), (3, .int x3), (4, .int x4), (5, .int x5), (6, .int x6), (7, .int x7), (8, .int x8)] [] 114 :=
  lp_W (σ := St × Int32 × Int32) (P := fun q => atG p l e rmX6_bit s0 m args below meth c 0 0 Z 10 (iW D A H0 (wX6 cy o ad q.1)) [(0, .ref o), (1, .int x1), (2, .int x2), (3, .int x3), (4, .int x4), (5, .int x5), (6, .int x6), (7, .int q.2.1), (8, .int q.2.2)] [] 114) (fun K2 hK2 q hb => tbX6_bit_114 C K hk163 hk190 (fun s x7 x8 hk => hK2 (s, x7, x8) hk) q.1 q.2.1 q.2.2 hb) (s, x7, x8) h
theorem tbX6_bit_207 (C : ctB p s0 m args c cX6_bit 10 RX6 wsX6_bit) (K : ctK s0 D A H0 cy) {o : Nat} {ad : Nat → Nat}  {x1 : Int32} {x4 : Int32} {x5 : Int32} {x6 : Int32} {x8 : Int32} {k231 : St → Prop} (hk231 : ∀ (s : St), k231 s → atG p l e rmX6_bit s0 m args below meth c 0 0 Z 10 (iW D A H0 (wX6 cy o ad s)) [(0, .ref o), (1, .int x1), (4, .int x4), (5, .int x5), (6, .int x6), (8, .int x8)] [] 231) {kH : St → Int32 → Prop} (hkH : ∀ (s : St) (y9 : Int32), kH s y9 → atG p l e rmX6_bit s0 m args below meth c 0 0 Z 10 (iW D A H0 (wX6 cy o ad s)) [(0, .ref o), (1, .int x1), (4, .int x4), (5, .int x5), (6, .int x6), (8, .int x8), (9, .int y9)] [] 207) (s : St) (x9 : Int32) (h : bX6_bit_207 x1 x4 x5 x6 x8 k231 kH s x9) : atG p l e rmX6_bit s0 m args below meth c 0 0 Z 10 (iW D A H0 (wX6 cy o ad s)) [(0, .ref o), (1, .int x1), (4, .int x4), (5, .int x5), (6, .int x6), (8, .int x8), (9, .int x9)] [] 207 := by
  delta bX6_bit_207 at h
  refine aw_iload C dX6_bit_207 6 rfl ?_
  refine aw_iconst (v := 1) C dX6_bit_209 (by decide) ?_
  refine aw_iload C dX6_bit_210 5 rfl ?_
  refine aw_ishl C dX6_bit_212 ?_
  refine aw_icmp_ge (tgt := 231) C dX6_bit_213 (by decide) (fun c213 => ?_) (fun c213 => ?_)
  · have h := h.1 c213
    refine aw_lv [0, 1, 2, 3, 4, 5] rfl ?_
    exact hk231 s h
  have h := h.2 c213
  refine aw_aload_n C dX6_bit_216 0 rfl ?_
  refine aw_iload_n C dX6_bit_217 1 rfl ?_
  refine aw_iload C dX6_bit_218 5 rfl ?_
  refine aw_iload C dX6_bit_220 6 rfl ?_
  refine aw_callV (As := [.int x1, .int x8, .int x9]) (rest := []) C K (mtX6_part l D cy o ad s x1 x8 x9 _ h) (cwV 3 C.2.2.2.2.1 gX6_bit_X6_part rfl rfl rfl (by decide +kernel) ⟨Nat.le_of_ble_eq_true rfl, Nat.le_of_ble_eq_true rfl⟩) 0 6 (wX6_g ..) rfl rfl rfl rfl (Nat.le_of_ble_eq_true rfl) ⟨Nat.le_of_ble_eq_true rfl, Nat.le_of_ble_eq_true rfl⟩ dX6_bit_222 (fun s222 h => ?_)
  obtain ⟨x9_225, ex9_225⟩ : ∃ y : Int32, y = x9 + 1 := ⟨_, rfl⟩
  have h := h x9_225 ex9_225
  refine aw_iinc (v := x9_225) (lv' := [(9, .int x9_225), (0, .ref o), (1, .int x1), (4, .int x4), (5, .int x5), (6, .int x6), (8, .int x8)]) C dX6_bit_225 6 rfl (by rw [ex9_225]; rfl) (by decide) rfl ?_
  refine aw_goto (tgt := 207) C dX6_bit_228 (by decide) ?_
  refine aw_lv [1, 2, 3, 4, 5, 6, 0] rfl ?_
  exact hkH s222 x9_225 h
theorem tlX6_bit_207 (C : ctB p s0 m args c cX6_bit 10 RX6 wsX6_bit) (K : ctK s0 D A H0 cy) {o : Nat} {ad : Nat → Nat}  {x1 : Int32} {x4 : Int32} {x5 : Int32} {x6 : Int32} {x8 : Int32} {k231 : St → Prop} (hk231 : ∀ (s : St), k231 s → atG p l e rmX6_bit s0 m args below meth c 0 0 Z 10 (iW D A H0 (wX6 cy o ad s)) [(0, .ref o), (1, .int x1), (4, .int x4), (5, .int x5), (6, .int x6), (8, .int x8)] [] 231) (s : St) (x9 : Int32) (h : lX6_bit_207 x1 x4 x5 x6 x8 k231 s x9) : atG p l e rmX6_bit s0 m args below meth c 0 0 Z 10 (iW D A H0 (wX6 cy o ad s)) [(0, .ref o), (1, .int x1), (4, .int x4), (5, .int x5), (6, .int x6), (8, .int x8), (9, .int x9)] [] 207 :=
  lp_W (σ := St × Int32) (P := fun q => atG p l e rmX6_bit s0 m args below meth c 0 0 Z 10 (iW D A H0 (wX6 cy o ad q.1)) [(0, .ref o), (1, .int x1), (4, .int x4), (5, .int x5), (6, .int x6), (8, .int x8), (9, .int q.2)] [] 207) (fun K2 hK2 q hb => tbX6_bit_207 C K hk231 (fun s x9 hk => hK2 (s, x9) hk) q.1 q.2 hb) (s, x9) h
theorem tbX6_bit_234 (C : ctB p s0 m args c cX6_bit 10 RX6 wsX6_bit) (K : ctK s0 D A H0 cy) {o : Nat} {ad : Nat → Nat}  {x1 : Int32} {x4 : Int32} {x5 : Int32} {x6 : Int32} {x8 : Int32} {k261 : St → Prop} (hk261 : ∀ (s : St), k261 s → atG p l e rmX6_bit s0 m args below meth c 0 0 Z 10 (iW D A H0 (wX6 cy o ad s)) [(0, .ref o), (1, .int x1), (4, .int x4), (5, .int x5), (6, .int x6), (8, .int x8)] [] 261) {kH : St → Int32 → Prop} (hkH : ∀ (s : St) (y9 : Int32), kH s y9 → atG p l e rmX6_bit s0 m args below meth c 0 0 Z 10 (iW D A H0 (wX6 cy o ad s)) [(0, .ref o), (1, .int x1), (4, .int x4), (5, .int x5), (6, .int x6), (8, .int x8), (9, .int y9)] [] 234) (s : St) (x9 : Int32) (h : bX6_bit_234 x1 x4 x5 x6 x8 k261 kH s x9) : atG p l e rmX6_bit s0 m args below meth c 0 0 Z 10 (iW D A H0 (wX6 cy o ad s)) [(0, .ref o), (1, .int x1), (4, .int x4), (5, .int x5), (6, .int x6), (8, .int x8), (9, .int x9)] [] 234 := by
  delta bX6_bit_234 at h
  refine aw_iload C dX6_bit_234 6 rfl ?_
  refine aw_iload C dX6_bit_236 4 rfl ?_
  refine aw_icmp_ge (tgt := 261) C dX6_bit_238 (by decide) (fun c238 => ?_) (fun c238 => ?_)
  · have h := h.1 c238
    refine aw_lv [0, 1, 2, 3, 4, 5] rfl ?_
    exact hk261 s h
  have h := h.2 c238
  refine aw_aload_n C dX6_bit_241 0 rfl ?_
  refine aw_getX6 C K inX6_bit_6 dX6_bit_242 19 (by decide) qX6_bit_fieldLink_RX6_50 0 (wX6_g ..) rfl ?_
  refine aw_iload C dX6_bit_245 6 rfl ?_
  refine aw_aload_n C dX6_bit_247 0 rfl ?_
  refine aw_getX6 C K inX6_bit_6 dX6_bit_248 20 (by decide) qX6_bit_fieldLink_RX6_53 0 (wX6_g ..) rfl ?_
  refine aw_iload C dX6_bit_251 6 rfl ?_
  obtain ⟨b253, h⟩ := h
  refine aw_iald C K dX6_bit_253 15 (wX6_g20 ..) b253 ?_
  obtain ⟨b254, h⟩ := h
  refine aw_iast C K dX6_bit_254 14 (wX6_g19 ..) (wX6_s19 ..) b254 ?_
  obtain ⟨s254, es254⟩ : ∃ z, z = (uA s 19 (upd (sA s 19) x9.toNatClampNeg (sA s 20 x9.toNatClampNeg))) := ⟨_, rfl⟩
  rw [← es254]
  have h := h s254 es254
  obtain ⟨x9_255, ex9_255⟩ : ∃ y : Int32, y = x9 + 1 := ⟨_, rfl⟩
  have h := h x9_255 ex9_255
  refine aw_iinc (v := x9_255) (lv' := [(9, .int x9_255), (0, .ref o), (1, .int x1), (4, .int x4), (5, .int x5), (6, .int x6), (8, .int x8)]) C dX6_bit_255 6 rfl (by rw [ex9_255]; rfl) (by decide) rfl ?_
  refine aw_goto (tgt := 234) C dX6_bit_258 (by decide) ?_
  refine aw_lv [1, 2, 3, 4, 5, 6, 0] rfl ?_
  exact hkH s254 x9_255 h
theorem tlX6_bit_234 (C : ctB p s0 m args c cX6_bit 10 RX6 wsX6_bit) (K : ctK s0 D A H0 cy) {o : Nat} {ad : Nat → Nat}  {x1 : Int32} {x4 : Int32} {x5 : Int32} {x6 : Int32} {x8 : Int32} {k261 : St → Prop} (hk261 : ∀ (s : St), k261 s → atG p l e rmX6_bit s0 m args below meth c 0 0 Z 10 (iW D A H0 (wX6 cy o ad s)) [(0, .ref o), (1, .int x1), (4, .int x4), (5, .int x5), (6, .int x6), (8, .int x8)] [] 261) (s : St) (x9 : Int32) (h : lX6_bit_234 x1 x4 x5 x6 x8 k261 s x9) : atG p l e rmX6_bit s0 m args below meth c 0 0 Z 10 (iW D A H0 (wX6 cy o ad s)) [(0, .ref o), (1, .int x1), (4, .int x4), (5, .int x5), (6, .int x6), (8, .int x8), (9, .int x9)] [] 234 :=
  lp_W (σ := St × Int32) (P := fun q => atG p l e rmX6_bit s0 m args below meth c 0 0 Z 10 (iW D A H0 (wX6 cy o ad q.1)) [(0, .ref o), (1, .int x1), (4, .int x4), (5, .int x5), (6, .int x6), (8, .int x8), (9, .int q.2)] [] 234) (fun K2 hK2 q hb => tbX6_bit_234 C K hk261 (fun s x9 hk => hK2 (s, x9) hk) q.1 q.2 hb) (s, x9) h
theorem tbX6_bit_198 (C : ctB p s0 m args c cX6_bit 10 RX6 wsX6_bit) (K : ctK s0 D A H0 cy) {o : Nat} {ad : Nat → Nat}  {x1 : Int32} {x4 : Int32} {x5 : Int32} {x6 : Int32} {k267 : St → Prop} (hk267 : ∀ (s : St), k267 s → atG p l e rmX6_bit s0 m args below meth c 0 0 Z 10 (iW D A H0 (wX6 cy o ad s)) [(0, .ref o), (4, .int x4), (5, .int x5)] [] 267) {kH : St → Int32 → Prop} (hkH : ∀ (s : St) (y8 : Int32), kH s y8 → atG p l e rmX6_bit s0 m args below meth c 0 0 Z 10 (iW D A H0 (wX6 cy o ad s)) [(0, .ref o), (1, .int x1), (4, .int x4), (5, .int x5), (6, .int x6), (8, .int y8)] [] 198) (s : St) (x8 : Int32) (h : bX6_bit_198 x1 x4 x5 x6 k267 kH s x8) : atG p l e rmX6_bit s0 m args below meth c 0 0 Z 10 (iW D A H0 (wX6 cy o ad s)) [(0, .ref o), (1, .int x1), (4, .int x4), (5, .int x5), (6, .int x6), (8, .int x8)] [] 198 := by
  delta bX6_bit_198 at h
  refine aw_iload C dX6_bit_198 5 rfl ?_
  refine aw_iload_n C dX6_bit_200 1 rfl ?_
  refine aw_icmp_ge (tgt := 267) C dX6_bit_201 (by decide) (fun c201 => ?_) (fun c201 => ?_)
  · have h := h.1 c201
    refine aw_lv [0, 2, 3] rfl ?_
    exact hk267 s h
  have h := h.2 c201
  refine aw_iconst (v := 0) C dX6_bit_204 (by decide) ?_
  refine aw_istore (lv' := [(9, .int 0), (0, .ref o), (1, .int x1), (4, .int x4), (5, .int x5), (6, .int x6), (8, .int x8)]) C dX6_bit_205 (by decide) rfl ?_
  refine aw_lv [1, 2, 3, 4, 5, 6, 0] rfl ?_
  refine tlX6_bit_207 C K ?_ s 0 h
  intro s_231 h
  refine aw_iconst (v := 0) C dX6_bit_231 (by decide) ?_
  refine aw_istore (lv' := [(9, .int 0), (0, .ref o), (1, .int x1), (4, .int x4), (5, .int x5), (6, .int x6), (8, .int x8)]) C dX6_bit_232 (by decide) rfl ?_
  refine aw_lv [1, 2, 3, 4, 5, 6, 0] rfl ?_
  refine tlX6_bit_234 C K ?_ s_231 0 h
  intro s_261 h
  obtain ⟨x8_261, ex8_261⟩ : ∃ y : Int32, y = x8 + 1 := ⟨_, rfl⟩
  have h := h x8_261 ex8_261
  refine aw_iinc (v := x8_261) (lv' := [(8, .int x8_261), (0, .ref o), (1, .int x1), (4, .int x4), (5, .int x5), (6, .int x6)]) C dX6_bit_261 5 rfl (by rw [ex8_261]; rfl) (by decide) rfl ?_
  refine aw_goto (tgt := 198) C dX6_bit_264 (by decide) ?_
  refine aw_lv [1, 2, 3, 4, 5, 0] rfl ?_
  exact hkH s_261 x8_261 h
theorem tlX6_bit_198 (C : ctB p s0 m args c cX6_bit 10 RX6 wsX6_bit) (K : ctK s0 D A H0 cy) {o : Nat} {ad : Nat → Nat}  {x1 : Int32} {x4 : Int32} {x5 : Int32} {x6 : Int32} {k267 : St → Prop} (hk267 : ∀ (s : St), k267 s → atG p l e rmX6_bit s0 m args below meth c 0 0 Z 10 (iW D A H0 (wX6 cy o ad s)) [(0, .ref o), (4, .int x4), (5, .int x5)] [] 267) (s : St) (x8 : Int32) (h : lX6_bit_198 x1 x4 x5 x6 k267 s x8) : atG p l e rmX6_bit s0 m args below meth c 0 0 Z 10 (iW D A H0 (wX6 cy o ad s)) [(0, .ref o), (1, .int x1), (4, .int x4), (5, .int x5), (6, .int x6), (8, .int x8)] [] 198 :=
  lp_W (σ := St × Int32) (P := fun q => atG p l e rmX6_bit s0 m args below meth c 0 0 Z 10 (iW D A H0 (wX6 cy o ad q.1)) [(0, .ref o), (1, .int x1), (4, .int x4), (5, .int x5), (6, .int x6), (8, .int q.2)] [] 198) (fun K2 hK2 q hb => tbX6_bit_198 C K hk267 (fun s x8 hk => hK2 (s, x8) hk) q.1 q.2 hb) (s, x8) h
theorem eX6_bit (C : ctB p s0 m args c cX6_bit 10 RX6 wsX6_bit) (K : ctK s0 D A H0 cy) {o : Nat} {ad : Nat → Nat} {Q : Int32 → St → Prop} (hQ : ∀ (v : Int32) (u : St), Q v u → ∀ pc, decode cX6_bit pc = .ok (.ireturn, 1) → atG p l e rmX6_bit s0 m args below meth c 0 0 Z 10 (iW D A H0 (wX6 cy o ad u)) [] [.int v] pc) (s : St) (x1 : Int32) (x2 : Int32) (x3 : Int32) (x4 : Int32) (x5 : Int32) (h : pX6_bit  s x1 x2 x3 x4 x5 Q) : atG p l e rmX6_bit s0 m args below meth c 0 0 Z 10 (iW D A H0 (wX6 cy o ad s)) [(0, .ref o), (1, .int x1), (2, .int x2), (3, .int x3), (4, .int x4), (5, .int x5)] [] 0 := by
  delta pX6_bit at h
  refine aw_aload_n C dX6_bit_0 0 rfl ?_
  refine aw_iconst (v := 0) C dX6_bit_1 (by decide) ?_
  refine aw_putX6 (ty := .int) C K inX6_bit_6 dX6_bit_2 0 (by decide) qX6_bit_fieldLink_RX6_81 0 (wX6_g ..) rfl (by decide +kernel) rfl rfl (Nat.le_of_ble_eq_true rfl) (wX6_p0 ..) ?_
  obtain ⟨s2, es2⟩ : ∃ z, z = (uF s 0 0) := ⟨_, rfl⟩
  rw [← es2]
  have h := h s2 es2
  refine aw_iload_n C dX6_bit_5 2 rfl ?_
  refine aw_callS (As := [.int x2]) (rest := []) C (mtX6_isSheet l x2 _ h) (va_cwS 1 C.2.2.2.2.1 gX6_bit_X6_isSheet rfl rfl rfl (by decide +kernel) ⟨Nat.le_of_ble_eq_true rfl, Nat.le_of_ble_eq_true rfl⟩) rfl rfl (Nat.le_of_ble_eq_true rfl) ⟨rfl, rfl⟩ ⟨Nat.zero_le _, Nat.zero_le _⟩ dX6_bit_6 (fun r6 h => ?_)
  refine aw_if_eq (tgt := 58) C dX6_bit_9 (by decide) (fun c9 => ?_) (fun c9 => ?_)
  · have h := h.1 c9
    refine aw_ldc (v := (-1000001)) C dX6_bit_58 qX6_bit_constant_RX6_101_1000001 ?_
    refine aw_lv [] rfl ?_
    exact hQ (-1000001) s2 h 60 dX6_bit_60
  have h := h.2 c9
  refine aw_iload_n C dX6_bit_12 1 rfl ?_
  refine aw_i2l C dX6_bit_13 ?_
  refine aw_lconst (v := 1) C dX6_bit_14 (by decide) ?_
  refine aw_ldc2 (v := 4) C dX6_bit_15 qX6_bit_constantLong_RX6_188_4 ?_
  refine aw_callS (As := [.long x1.toInt64, .long 1, .long 4]) (rest := []) C (mtX6_in l x1.toInt64 1 4 _ h) (va_cwS 3 C.2.2.2.2.1 gX6_bit_X6_in rfl rfl rfl (by decide +kernel) ⟨Nat.le_of_ble_eq_true rfl, Nat.le_of_ble_eq_true rfl⟩) rfl rfl (Nat.le_of_ble_eq_true rfl) ⟨rfl, rfl⟩ ⟨Nat.zero_le _, Nat.zero_le _⟩ dX6_bit_18 (fun r18 h => ?_)
  refine aw_if_eq (tgt := 58) C dX6_bit_21 (by decide) (fun c21 => ?_) (fun c21 => ?_)
  · have h := h.1 c21
    refine aw_ldc (v := (-1000001)) C dX6_bit_58 qX6_bit_constant_RX6_101_1000001 ?_
    refine aw_lv [] rfl ?_
    exact hQ (-1000001) s2 h 60 dX6_bit_60
  have h := h.2 c21
  refine aw_iload C dX6_bit_24 4 rfl ?_
  refine aw_i2l C dX6_bit_26 ?_
  refine aw_lconst (v := 0) C dX6_bit_27 (by decide) ?_
  refine aw_iconst (v := 2) C dX6_bit_28 (by decide) ?_
  refine aw_iload_n C dX6_bit_29 1 rfl ?_
  refine aw_imul C dX6_bit_30 ?_
  refine aw_iconst (v := 2) C dX6_bit_31 (by decide) ?_
  refine aw_isub C dX6_bit_32 ?_
  refine aw_i2l C dX6_bit_33 ?_
  refine aw_callS (As := [.long x4.toInt64, .long 0, .long (((2 * x1) - 2).toInt64)]) (rest := []) C (mtX6_in l x4.toInt64 0 (((2 * x1) - 2).toInt64) _ h) (va_cwS 3 C.2.2.2.2.1 gX6_bit_X6_in rfl rfl rfl (by decide +kernel) ⟨Nat.le_of_ble_eq_true rfl, Nat.le_of_ble_eq_true rfl⟩) rfl rfl (Nat.le_of_ble_eq_true rfl) ⟨rfl, rfl⟩ ⟨Nat.zero_le _, Nat.zero_le _⟩ dX6_bit_34 (fun r34 h => ?_)
  refine aw_if_eq (tgt := 58) C dX6_bit_37 (by decide) (fun c37 => ?_) (fun c37 => ?_)
  · have h := h.1 c37
    refine aw_ldc (v := (-1000001)) C dX6_bit_58 qX6_bit_constant_RX6_101_1000001 ?_
    refine aw_lv [] rfl ?_
    exact hQ (-1000001) s2 h 60 dX6_bit_60
  have h := h.2 c37
  refine aw_iload C dX6_bit_40 5 rfl ?_
  refine aw_i2l C dX6_bit_42 ?_
  refine aw_lconst (v := 0) C dX6_bit_43 (by decide) ?_
  refine aw_iconst (v := 1) C dX6_bit_44 (by decide) ?_
  refine aw_iload_n C dX6_bit_45 1 rfl ?_
  refine aw_iconst (v := 1) C dX6_bit_46 (by decide) ?_
  refine aw_isub C dX6_bit_47 ?_
  refine aw_ishl C dX6_bit_48 ?_
  refine aw_iconst (v := 1) C dX6_bit_49 (by decide) ?_
  refine aw_isub C dX6_bit_50 ?_
  refine aw_i2l C dX6_bit_51 ?_
  refine aw_callS (As := [.long x5.toInt64, .long 0, .long (((1 <<< ((x1 - 1) &&& 31)) - 1).toInt64)]) (rest := []) C (mtX6_in l x5.toInt64 0 (((1 <<< ((x1 - 1) &&& 31)) - 1).toInt64) _ h) (va_cwS 3 C.2.2.2.2.1 gX6_bit_X6_in rfl rfl rfl (by decide +kernel) ⟨Nat.le_of_ble_eq_true rfl, Nat.le_of_ble_eq_true rfl⟩) rfl rfl (Nat.le_of_ble_eq_true rfl) ⟨rfl, rfl⟩ ⟨Nat.zero_le _, Nat.zero_le _⟩ dX6_bit_52 (fun r52 h => ?_)
  refine aw_if_ne (tgt := 61) C dX6_bit_55 (by decide) (fun c55 => ?_) (fun c55 => ?_)
  · have h := h.2 c55
    refine aw_aload_n C dX6_bit_61 0 rfl ?_
    refine aw_getX6 C K inX6_bit_6 dX6_bit_62 2 (by decide) qX6_bit_fieldLink_RX6_7 0 (wX6_g ..) rfl ?_
    refine aw_iload_n C dX6_bit_65 2 rfl ?_
    obtain ⟨b66, h⟩ := h
    refine aw_iald C K dX6_bit_66 1 (wX6_g2 ..) b66 ?_
    refine aw_if_ge (tgt := 76) C dX6_bit_67 (by decide) (fun c67 => ?_) (fun c67 => ?_)
    · have h := h.1 c67
      refine aw_iconst (v := 1) C dX6_bit_76 (by decide) ?_
      refine aw_iload_n C dX6_bit_77 1 rfl ?_
      refine aw_ishl C dX6_bit_78 ?_
      refine aw_name (fun x6_79 ex6_79 => ?_)
      have h := h x6_79 ex6_79
      refine aw_istore (lv' := [(6, .int x6_79), (0, .ref o), (1, .int x1), (2, .int x2), (3, .int x3), (4, .int x4), (5, .int x5)]) C dX6_bit_79 (by decide) rfl ?_
      refine aw_iload_n C dX6_bit_81 4 rfl ?_
      refine aw_if_lt (tgt := 102) C dX6_bit_82 (by decide) (fun c82 => ?_) (fun c82 => ?_)
      · have h := h.1 c82
        refine aw_aload_n C dX6_bit_102 1 rfl ?_
        refine aw_iconst (v := 2) C dX6_bit_103 (by decide) ?_
        refine aw_callI (As := [.int 2]) (rest := []) C K (mtX6_found l D cy o ad s2 2 _ h) (cwV 1 C.2.2.2.2.1 gX6_bit_X6_found rfl rfl rfl (by decide +kernel) ⟨Nat.le_of_ble_eq_true rfl, Nat.le_of_ble_eq_true rfl⟩) 0 6 (wX6_g ..) rfl rfl rfl rfl (Nat.le_of_ble_eq_true rfl) ⟨Nat.le_of_ble_eq_true rfl, Nat.le_of_ble_eq_true rfl⟩ dX6_bit_104 (fun r104 s104 h => ?_)
        refine aw_lv [] rfl ?_
        exact hQ r104 s104 h 107 dX6_bit_107
      have h := h.2 c82
      refine aw_iload_n C dX6_bit_85 4 rfl ?_
      refine aw_i2l C dX6_bit_86 ?_
      refine aw_iload C dX6_bit_87 0 rfl ?_
      refine aw_i2l C dX6_bit_89 ?_
      refine aw_ladd C dX6_bit_90 ?_
      refine aw_aload_n C dX6_bit_91 1 rfl ?_
      refine aw_getX6 C K inX6_bit_6 dX6_bit_92 3 (by decide) qX6_bit_fieldLink_RX6_13 0 (wX6_g ..) rfl ?_
      refine aw_iload_n C dX6_bit_95 3 rfl ?_
      obtain ⟨b96, h⟩ := h
      refine aw_iald C K dX6_bit_96 2 (wX6_g3 ..) b96 ?_
      refine aw_i2l C dX6_bit_97 ?_
      refine aw_lcmp C dX6_bit_98 ?_
      refine aw_if_le (tgt := 108) C dX6_bit_99 (by decide) (fun c99 => ?_) (fun c99 => ?_)
      · have h := h.1 c99
        refine aw_iconst (v := 0) C dX6_bit_108 (by decide) ?_
        refine aw_istore (lv' := [(7, .int 0), (6, .int x6_79), (0, .ref o), (1, .int x1), (2, .int x2), (3, .int x3), (4, .int x4), (5, .int x5)]) C dX6_bit_109 (by decide) rfl ?_
        refine aw_iconst (v := 0) C dX6_bit_111 (by decide) ?_
        refine aw_istore (lv' := [(8, .int 0), (7, .int 0), (6, .int x6_79), (0, .ref o), (1, .int x1), (2, .int x2), (3, .int x3), (4, .int x4), (5, .int x5)]) C dX6_bit_112 (by decide) rfl ?_
        refine aw_lv [3, 4, 5, 6, 7, 8, 2, 1, 0] rfl ?_
        refine tlX6_bit_114 C K ?_ ?_ s2 0 0 h
        · intro s_163 h
          refine aw_ldc (v := (-1000001)) C dX6_bit_163 qX6_bit_constant_RX6_101_1000001 ?_
          refine aw_lv [] rfl ?_
          exact hQ (-1000001) s_163 h 165 dX6_bit_165
        intro s_190 h
        refine aw_aload_n C dX6_bit_190 0 rfl ?_
        refine aw_iconst (v := 0) C dX6_bit_191 (by decide) ?_
        refine aw_putX6 (ty := .int) C K inX6_bit_6 dX6_bit_192 1 (by decide) qX6_bit_fieldLink_RX6_85 0 (wX6_g ..) rfl (by decide +kernel) rfl rfl (Nat.le_of_ble_eq_true rfl) (wX6_p1 ..) ?_
        obtain ⟨s192, es192⟩ : ∃ z, z = (uF s_190 1 0) := ⟨_, rfl⟩
        rw [← es192]
        have h := h s192 es192
        refine aw_iconst (v := 0) C dX6_bit_195 (by decide) ?_
        refine aw_istore (lv' := [(8, .int 0), (0, .ref o), (1, .int x1), (4, .int x4), (5, .int x5), (6, .int x6_79)]) C dX6_bit_196 (by decide) rfl ?_
        refine aw_lv [1, 2, 3, 4, 5, 0] rfl ?_
        refine tlX6_bit_198 C K ?_ s192 0 h
        intro s_267 h
        refine aw_aload_n C dX6_bit_267 0 rfl ?_
        refine aw_getX6 C K inX6_bit_6 dX6_bit_268 18 (by decide) qX6_bit_fieldLink_RX6_47 0 (wX6_g ..) rfl ?_
        refine aw_bipush (v := 8) C dX6_bit_271 (by decide) ?_
        refine aw_iload C dX6_bit_273 1 rfl ?_
        refine aw_imul C dX6_bit_275 ?_
        refine aw_iload C dX6_bit_276 2 rfl ?_
        refine aw_iadd C dX6_bit_278 ?_
        obtain ⟨b279, h⟩ := h
        refine aw_iald C K dX6_bit_279 13 (wX6_g18 ..) b279 ?_
        refine aw_lv [] rfl ?_
        exact hQ (sA s_267 18 ((8 * x4) + x5).toNatClampNeg) s_267 h 280 dX6_bit_280
      have h := h.2 c99
      refine aw_aload_n C dX6_bit_102 1 rfl ?_
      refine aw_iconst (v := 2) C dX6_bit_103 (by decide) ?_
      refine aw_callI (As := [.int 2]) (rest := []) C K (mtX6_found l D cy o ad s2 2 _ h) (cwV 1 C.2.2.2.2.1 gX6_bit_X6_found rfl rfl rfl (by decide +kernel) ⟨Nat.le_of_ble_eq_true rfl, Nat.le_of_ble_eq_true rfl⟩) 0 6 (wX6_g ..) rfl rfl rfl rfl (Nat.le_of_ble_eq_true rfl) ⟨Nat.le_of_ble_eq_true rfl, Nat.le_of_ble_eq_true rfl⟩ dX6_bit_104 (fun r104 s104 h => ?_)
      refine aw_lv [] rfl ?_
      exact hQ r104 s104 h 107 dX6_bit_107
    have h := h.2 c67
    refine aw_aload_n C dX6_bit_70 0 rfl ?_
    refine aw_iconst (v := 1) C dX6_bit_71 (by decide) ?_
    refine aw_callI (As := [.int 1]) (rest := []) C K (mtX6_found l D cy o ad s2 1 _ h) (cwV 1 C.2.2.2.2.1 gX6_bit_X6_found rfl rfl rfl (by decide +kernel) ⟨Nat.le_of_ble_eq_true rfl, Nat.le_of_ble_eq_true rfl⟩) 0 6 (wX6_g ..) rfl rfl rfl rfl (Nat.le_of_ble_eq_true rfl) ⟨Nat.le_of_ble_eq_true rfl, Nat.le_of_ble_eq_true rfl⟩ dX6_bit_72 (fun r72 s72 h => ?_)
    refine aw_lv [] rfl ?_
    exact hQ r72 s72 h 75 dX6_bit_75
  have h := h.1 c55
  refine aw_ldc (v := (-1000001)) C dX6_bit_58 qX6_bit_constant_RX6_101_1000001 ?_
  refine aw_lv [] rfl ?_
  exact hQ (-1000001) s2 h 60 dX6_bit_60
end SX6_bit
theorem mtX6_bit (l : Launch) (D : va_G) (cy : Nat → ClassId) (o : Nat) (ad : Nat → Nat) (s : St) (x1 : Int32) (x2 : Int32) (x3 : Int32) (x4 : Int32) (x5 : Int32) (Q : Int32 → St → Prop) (hw : pX6_bit  s x1 x2 x3 x4 x5 Q) : mI l yX6_bit wsX6_bit rmX6_bit D cy [.ref o, .int x1, .int x2, .int x3, .int x4, .int x5] (wX6 cy o ad s) (wX6 cy o ad) Q :=
  metI (Wd := wX6 cy o ad) ⟨rfl, rfl⟩ (by decide) rfl (Nat.le_of_ble_eq_true rfl) (fun C K hQ => eX6_bit C K hQ s x1 x2 x3 x4 x5 hw)
def rmX6_goes : Room := { frames := 2, cells := 0, slots := 0, locals := 45 }
theorem inX6_goes_6 : ∀ w ∈ wsX60, w ∈ wsX6_goes := fun w h => (List.mem_cons_of_mem _ (List.mem_append_right _ h))
theorem qX6_goes_fieldLink_RX6_81 : Cond.fieldLink RX6 81 "StageSwitchModel" "thrown" "I" ∈ wsX6_goes := (List.mem_cons_of_mem _ (List.mem_append_left _ (List.mem_of_getElem? (i := 0) rfl)))
theorem qX6_goes_constant_RX6_101_1000001 : Cond.constant RX6 101 (-1000001) ∈ wsX6_goes := (List.mem_cons_of_mem _ (List.mem_append_left _ (List.mem_of_getElem? (i := 2) rfl)))
theorem qX6_goes_constantLong_RX6_188_4 : Cond.constantLong RX6 188 (4) ∈ wsX6_goes := (List.mem_cons_of_mem _ (List.mem_append_left _ (List.mem_of_getElem? (i := 1) rfl)))
theorem qX6_goes_fieldLink_RX6_85 : Cond.fieldLink RX6 85 "StageSwitchModel" "status" "I" ∈ wsX6_goes := (List.mem_cons_of_mem _ (List.mem_append_left _ (List.mem_of_getElem? (i := 3) rfl)))
theorem qX6_goes_fieldLink_RX6_7 : Cond.fieldLink RX6 7 "StageSwitchModel" "lane" "[I" ∈ wsX6_goes := (List.mem_cons_of_mem _ (List.mem_append_left _ (List.mem_of_getElem? (i := 4) rfl)))
theorem qX6_goes_fieldLink_RX6_13 : Cond.fieldLink RX6 13 "StageSwitchModel" "many" "[I" ∈ wsX6_goes := (List.mem_cons_of_mem _ (List.mem_append_left _ (List.mem_of_getElem? (i := 5) rfl)))
theorem qX6_goes_fieldLink_RX6_16 : Cond.fieldLink RX6 16 "StageSwitchModel" "item" "[I" ∈ wsX6_goes := (List.mem_cons_of_mem _ (List.mem_append_left _ (List.mem_of_getElem? (i := 6) rfl)))
theorem qX6_goes_fieldLink_RX6_59 : Cond.fieldLink RX6 59 "StageSwitchModel" "wentBlock" "[I" ∈ wsX6_goes := (List.mem_cons_of_mem _ (List.mem_append_left _ (List.mem_of_getElem? (i := 7) rfl)))
theorem qX6_goes_fieldLink_RX6_62 : Cond.fieldLink RX6 62 "StageSwitchModel" "wentHalf" "[I" ∈ wsX6_goes := (List.mem_cons_of_mem _ (List.mem_append_left _ (List.mem_of_getElem? (i := 8) rfl)))
section SX6_goes
variable {p : Program} {l : Launch} {e : Env} {s0 : State} {m : MethodId} {args : Array Value} {below : List Frame} {meth : Method} {c : Code} {D : va_G} {A : Nat → Prop} {H0 : Heap} {cy : Nat → ClassId} {Z : State → Prop}
theorem tjX6_goes_169 (C : ctB p s0 m args c cX6_goes 12 RX6 wsX6_goes) (K : ctK s0 D A H0 cy) {o : Nat} {ad : Nat → Nat}  {kH : St → Int32 → Int32 → Int32 → Prop} (s : St) (x1 : Int32) (x5 : Int32) (x6 : Int32) (x7 : Int32) (x8 : Int32) (x9 : Int32) (u0 : Int32) (hkH : ∀ (s : St) (y7 : Int32) (y8 : Int32) (y9 : Int32), kH s y7 y8 y9 → atG p l e rmX6_goes s0 m args below meth c 0 0 Z 12 (iW D A H0 (wX6 cy o ad s)) [(0, .ref o), (1, .int x1), (5, .int x5), (6, .int x6), (7, .int y7), (8, .int y8), (9, .int y9)] [] 121) (h : jX6_goes_169 kH s x1 x5 x6 x7 x8 x9 u0) : atG p l e rmX6_goes s0 m args below meth c 0 0 Z 12 (iW D A H0 (wX6 cy o ad s)) [(0, .ref o), (1, .int x1), (5, .int x5), (6, .int x6), (7, .int x7), (8, .int x8), (9, .int x9)] [.int u0] 169 := by
  delta jX6_goes_169 at h
  refine aw_istore (lv' := [(11, .int u0), (0, .ref o), (1, .int x1), (5, .int x5), (6, .int x6), (7, .int x7), (8, .int x8), (9, .int x9)]) C dX6_goes_169 (by decide) rfl ?_
  refine aw_aload_n C dX6_goes_171 1 rfl ?_
  refine aw_getX6 C K inX6_goes_6 dX6_goes_172 22 (by decide) qX6_goes_fieldLink_RX6_59 0 (wX6_g ..) rfl ?_
  refine aw_iload C dX6_goes_175 7 rfl ?_
  refine aw_iload C dX6_goes_177 6 rfl ?_
  obtain ⟨b179, h⟩ := h
  refine aw_iast C K dX6_goes_179 17 (wX6_g22 ..) (wX6_s22 ..) b179 ?_
  obtain ⟨s179, es179⟩ : ∃ z, z = (uA s 22 (upd (sA s 22) x9.toNatClampNeg x8)) := ⟨_, rfl⟩
  rw [← es179]
  have h := h s179 es179
  refine aw_aload_n C dX6_goes_180 1 rfl ?_
  refine aw_getX6 C K inX6_goes_6 dX6_goes_181 23 (by decide) qX6_goes_fieldLink_RX6_62 0 (wX6_g ..) rfl ?_
  refine aw_iload C dX6_goes_184 7 rfl ?_
  refine aw_iload C dX6_goes_186 0 rfl ?_
  refine aw_if_eq (tgt := 200) C dX6_goes_188 (by decide) (fun c188 => ?_) (fun c188 => ?_)
  · have h := h.1 c188
    refine aw_iload C dX6_goes_200 5 rfl ?_
    refine aw_iconst (v := 2) C dX6_goes_202 (by decide) ?_
    refine aw_irem C dX6_goes_203 (by decide) ?_
    obtain ⟨b204, h⟩ := h
    refine aw_iast C K dX6_goes_204 18 (wX6_g23 ..) (wX6_s23 ..) b204 ?_
    obtain ⟨s204, es204⟩ : ∃ z, z = (uA s179 23 (upd (sA s179 23) x9.toNatClampNeg (x7 - x7 / 2 * 2))) := ⟨_, rfl⟩
    rw [← es204]
    have h := h s204 es204
    refine aw_iconst (v := 2) C dX6_goes_205 (by decide) ?_
    refine aw_iload C dX6_goes_206 6 rfl ?_
    refine aw_imul C dX6_goes_208 ?_
    refine aw_aload_n C dX6_goes_209 1 rfl ?_
    refine aw_getX6 C K inX6_goes_6 dX6_goes_210 23 (by decide) qX6_goes_fieldLink_RX6_62 0 (wX6_g ..) rfl ?_
    refine aw_iload C dX6_goes_213 7 rfl ?_
    obtain ⟨b215, h⟩ := h
    refine aw_iald C K dX6_goes_215 18 (wX6_g23 ..) b215 ?_
    refine aw_iadd C dX6_goes_216 ?_
    refine aw_name (fun x8_217 ex8_217 => ?_)
    have h := h x8_217 ex8_217
    refine aw_istore (lv' := [(8, .int x8_217), (11, .int u0), (0, .ref o), (1, .int x1), (5, .int x5), (6, .int x6), (7, .int x7), (9, .int x9)]) C dX6_goes_217 (by decide) rfl ?_
    refine aw_iload C dX6_goes_219 6 rfl ?_
    refine aw_iconst (v := 2) C dX6_goes_221 (by decide) ?_
    refine aw_idiv C dX6_goes_222 (by decide) ?_
    refine aw_name (fun x7_223 ex7_223 => ?_)
    have h := h x7_223 ex7_223
    refine aw_istore (lv' := [(7, .int x7_223), (8, .int x8_217), (11, .int u0), (0, .ref o), (1, .int x1), (5, .int x5), (6, .int x6), (9, .int x9)]) C dX6_goes_223 (by decide) rfl ?_
    obtain ⟨x9_225, ex9_225⟩ : ∃ y : Int32, y = x9 + 1 := ⟨_, rfl⟩
    have h := h x9_225 ex9_225
    refine aw_iinc (v := x9_225) (lv' := [(9, .int x9_225), (7, .int x7_223), (8, .int x8_217), (11, .int u0), (0, .ref o), (1, .int x1), (5, .int x5), (6, .int x6)]) C dX6_goes_225 7 rfl (by rw [ex9_225]; rfl) (by decide) rfl ?_
    refine aw_goto (tgt := 121) C dX6_goes_228 (by decide) ?_
    refine aw_lv [4, 5, 6, 7, 1, 2, 0] rfl ?_
    exact hkH s204 x7_223 x8_217 x9_225 h
  have h := h.2 c188
  refine aw_iconst (v := 1) C dX6_goes_191 (by decide) ?_
  refine aw_iload C dX6_goes_192 5 rfl ?_
  refine aw_iconst (v := 2) C dX6_goes_194 (by decide) ?_
  refine aw_irem C dX6_goes_195 (by decide) ?_
  refine aw_isub C dX6_goes_196 ?_
  refine aw_goto (tgt := 204) C dX6_goes_197 (by decide) ?_
  obtain ⟨b204, h⟩ := h
  refine aw_iast C K dX6_goes_204 18 (wX6_g23 ..) (wX6_s23 ..) b204 ?_
  obtain ⟨s204, es204⟩ : ∃ z, z = (uA s179 23 (upd (sA s179 23) x9.toNatClampNeg (1 - (x7 - x7 / 2 * 2)))) := ⟨_, rfl⟩
  rw [← es204]
  have h := h s204 es204
  refine aw_iconst (v := 2) C dX6_goes_205 (by decide) ?_
  refine aw_iload C dX6_goes_206 6 rfl ?_
  refine aw_imul C dX6_goes_208 ?_
  refine aw_aload_n C dX6_goes_209 1 rfl ?_
  refine aw_getX6 C K inX6_goes_6 dX6_goes_210 23 (by decide) qX6_goes_fieldLink_RX6_62 0 (wX6_g ..) rfl ?_
  refine aw_iload C dX6_goes_213 7 rfl ?_
  obtain ⟨b215, h⟩ := h
  refine aw_iald C K dX6_goes_215 18 (wX6_g23 ..) b215 ?_
  refine aw_iadd C dX6_goes_216 ?_
  refine aw_name (fun x8_217 ex8_217 => ?_)
  have h := h x8_217 ex8_217
  refine aw_istore (lv' := [(8, .int x8_217), (11, .int u0), (0, .ref o), (1, .int x1), (5, .int x5), (6, .int x6), (7, .int x7), (9, .int x9)]) C dX6_goes_217 (by decide) rfl ?_
  refine aw_iload C dX6_goes_219 6 rfl ?_
  refine aw_iconst (v := 2) C dX6_goes_221 (by decide) ?_
  refine aw_idiv C dX6_goes_222 (by decide) ?_
  refine aw_name (fun x7_223 ex7_223 => ?_)
  have h := h x7_223 ex7_223
  refine aw_istore (lv' := [(7, .int x7_223), (8, .int x8_217), (11, .int u0), (0, .ref o), (1, .int x1), (5, .int x5), (6, .int x6), (9, .int x9)]) C dX6_goes_223 (by decide) rfl ?_
  obtain ⟨x9_225, ex9_225⟩ : ∃ y : Int32, y = x9 + 1 := ⟨_, rfl⟩
  have h := h x9_225 ex9_225
  refine aw_iinc (v := x9_225) (lv' := [(9, .int x9_225), (7, .int x7_223), (8, .int x8_217), (11, .int u0), (0, .ref o), (1, .int x1), (5, .int x5), (6, .int x6)]) C dX6_goes_225 7 rfl (by rw [ex9_225]; rfl) (by decide) rfl ?_
  refine aw_goto (tgt := 121) C dX6_goes_228 (by decide) ?_
  refine aw_lv [4, 5, 6, 7, 1, 2, 0] rfl ?_
  exact hkH s204 x7_223 x8_217 x9_225 h
theorem tbX6_goes_121 (C : ctB p s0 m args c cX6_goes 12 RX6 wsX6_goes) (K : ctK s0 D A H0 cy) {o : Nat} {ad : Nat → Nat}  {x1 : Int32} {x5 : Int32} {x6 : Int32} {k231 : St → Prop} (hk231 : ∀ (s : St), k231 s → atG p l e rmX6_goes s0 m args below meth c 0 0 Z 12 (iW D A H0 (wX6 cy o ad s)) [(0, .ref o), (1, .int x1), (5, .int x5), (6, .int x6)] [] 231) {kH : St → Int32 → Int32 → Int32 → Prop} (hkH : ∀ (s : St) (y7 : Int32) (y8 : Int32) (y9 : Int32), kH s y7 y8 y9 → atG p l e rmX6_goes s0 m args below meth c 0 0 Z 12 (iW D A H0 (wX6 cy o ad s)) [(0, .ref o), (1, .int x1), (5, .int x5), (6, .int x6), (7, .int y7), (8, .int y8), (9, .int y9)] [] 121) (s : St) (x7 : Int32) (x8 : Int32) (x9 : Int32) (h : bX6_goes_121 x1 x5 x6 k231 kH s x7 x8 x9) : atG p l e rmX6_goes s0 m args below meth c 0 0 Z 12 (iW D A H0 (wX6 cy o ad s)) [(0, .ref o), (1, .int x1), (5, .int x5), (6, .int x6), (7, .int x7), (8, .int x8), (9, .int x9)] [] 121 := by
  delta bX6_goes_121 at h
  refine aw_iload C dX6_goes_121 6 rfl ?_
  refine aw_iload_n C dX6_goes_123 1 rfl ?_
  refine aw_icmp_ge (tgt := 231) C dX6_goes_124 (by decide) (fun c124 => ?_) (fun c124 => ?_)
  · have h := h.1 c124
    refine aw_lv [0, 1, 2, 3] rfl ?_
    exact hk231 s h
  have h := h.2 c124
  refine aw_iconst (v := 1) C dX6_goes_127 (by decide) ?_
  refine aw_iload_n C dX6_goes_128 1 rfl ?_
  refine aw_iload C dX6_goes_129 6 rfl ?_
  refine aw_isub C dX6_goes_131 ?_
  refine aw_ishl C dX6_goes_132 ?_
  refine aw_name (fun x10_133 ex10_133 => ?_)
  have h := h x10_133 ex10_133
  refine aw_istore (lv' := [(10, .int x10_133), (0, .ref o), (1, .int x1), (5, .int x5), (6, .int x6), (7, .int x7), (8, .int x8), (9, .int x9)]) C dX6_goes_133 (by decide) rfl ?_
  refine aw_aload_n C dX6_goes_135 1 rfl ?_
  refine aw_getX6 C K inX6_goes_6 dX6_goes_136 4 (by decide) qX6_goes_fieldLink_RX6_16 0 (wX6_g ..) rfl ?_
  refine aw_iload C dX6_goes_139 4 rfl ?_
  refine aw_iload C dX6_goes_141 7 rfl ?_
  refine aw_iload C dX6_goes_143 3 rfl ?_
  refine aw_imul C dX6_goes_145 ?_
  refine aw_iadd C dX6_goes_146 ?_
  refine aw_iload C dX6_goes_147 6 rfl ?_
  refine aw_iload C dX6_goes_149 0 rfl ?_
  refine aw_imul C dX6_goes_151 ?_
  refine aw_iconst (v := 2) C dX6_goes_152 (by decide) ?_
  refine aw_idiv C dX6_goes_153 (by decide) ?_
  refine aw_iadd C dX6_goes_154 ?_
  refine aw_iload C dX6_goes_155 5 rfl ?_
  refine aw_iconst (v := 2) C dX6_goes_157 (by decide) ?_
  refine aw_idiv C dX6_goes_158 (by decide) ?_
  refine aw_iadd C dX6_goes_159 ?_
  obtain ⟨b160, h⟩ := h
  refine aw_iald C K dX6_goes_160 3 (wX6_g4 ..) b160 ?_
  refine aw_name (fun v160 ev160 => ?_)
  have h := h v160 ev160
  refine aw_if_eq (tgt := 168) C dX6_goes_161 (by decide) (fun c161 => ?_) (fun c161 => ?_)
  · have h := h.1 c161
    refine aw_iconst (v := 0) C dX6_goes_168 (by decide) ?_
    refine aw_lv [1, 2, 3, 4, 5, 6, 7] rfl ?_
    exact tjX6_goes_169 C K s x1 x5 x6 x7 x8 x9 0 hkH h
  have h := h.2 c161
  refine aw_iconst (v := 1) C dX6_goes_164 (by decide) ?_
  refine aw_goto (tgt := 169) C dX6_goes_165 (by decide) ?_
  refine aw_lv [1, 2, 3, 4, 5, 6, 7] rfl ?_
  exact tjX6_goes_169 C K s x1 x5 x6 x7 x8 x9 1 hkH h
theorem tlX6_goes_121 (C : ctB p s0 m args c cX6_goes 12 RX6 wsX6_goes) (K : ctK s0 D A H0 cy) {o : Nat} {ad : Nat → Nat}  {x1 : Int32} {x5 : Int32} {x6 : Int32} {k231 : St → Prop} (hk231 : ∀ (s : St), k231 s → atG p l e rmX6_goes s0 m args below meth c 0 0 Z 12 (iW D A H0 (wX6 cy o ad s)) [(0, .ref o), (1, .int x1), (5, .int x5), (6, .int x6)] [] 231) (s : St) (x7 : Int32) (x8 : Int32) (x9 : Int32) (h : lX6_goes_121 x1 x5 x6 k231 s x7 x8 x9) : atG p l e rmX6_goes s0 m args below meth c 0 0 Z 12 (iW D A H0 (wX6 cy o ad s)) [(0, .ref o), (1, .int x1), (5, .int x5), (6, .int x6), (7, .int x7), (8, .int x8), (9, .int x9)] [] 121 :=
  lp_W (σ := St × Int32 × Int32 × Int32) (P := fun q => atG p l e rmX6_goes s0 m args below meth c 0 0 Z 12 (iW D A H0 (wX6 cy o ad q.1)) [(0, .ref o), (1, .int x1), (5, .int x5), (6, .int x6), (7, .int q.2.1), (8, .int q.2.2.1), (9, .int q.2.2.2)] [] 121) (fun K2 hK2 q hb => tbX6_goes_121 C K hk231 (fun s x7 x8 x9 hk => hK2 (s, x7, x8, x9) hk) q.1 q.2.1 q.2.2.1 q.2.2.2 hb) (s, x7, x8, x9) h
theorem tbX6_goes_246 (C : ctB p s0 m args c cX6_goes 12 RX6 wsX6_goes) (K : ctK s0 D A H0 cy) {o : Nat} {ad : Nat → Nat}  {s : St} {x1 : Int32} {x5 : Int32} {x6 : Int32} {k341 : Int32 → Prop} (hk341 : ∀ (y7 : Int32), k341 y7 → atG p l e rmX6_goes s0 m args below meth c 0 0 Z 12 (iW D A H0 (wX6 cy o ad s)) [(0, .ref o), (7, .int y7)] [] 341) {kH : Int32 → Int32 → Prop} (hkH : ∀ (y7 : Int32) (y9 : Int32), kH y7 y9 → atG p l e rmX6_goes s0 m args below meth c 0 0 Z 12 (iW D A H0 (wX6 cy o ad s)) [(0, .ref o), (1, .int x1), (5, .int x5), (6, .int x6), (7, .int y7), (9, .int y9)] [] 246) (x7 : Int32) (x9 : Int32) (h : bX6_goes_246 s x1 x5 x6 k341 kH x7 x9) : atG p l e rmX6_goes s0 m args below meth c 0 0 Z 12 (iW D A H0 (wX6 cy o ad s)) [(0, .ref o), (1, .int x1), (5, .int x5), (6, .int x6), (7, .int x7), (9, .int x9)] [] 246 := by
  delta bX6_goes_246 at h
  refine aw_iload C dX6_goes_246 5 rfl ?_
  refine aw_if_lt (tgt := 341) C dX6_goes_248 (by decide) (fun c248 => ?_) (fun c248 => ?_)
  · have h := h.1 c248
    refine aw_lv [0, 4] rfl ?_
    exact hk341 x7 h
  have h := h.2 c248
  refine aw_iconst (v := 1) C dX6_goes_251 (by decide) ?_
  refine aw_iload_n C dX6_goes_252 1 rfl ?_
  refine aw_iload C dX6_goes_253 5 rfl ?_
  refine aw_isub C dX6_goes_255 ?_
  refine aw_ishl C dX6_goes_256 ?_
  refine aw_name (fun x10_257 ex10_257 => ?_)
  have h := h x10_257 ex10_257
  refine aw_istore (lv' := [(10, .int x10_257), (0, .ref o), (1, .int x1), (5, .int x5), (6, .int x6), (7, .int x7), (9, .int x9)]) C dX6_goes_257 (by decide) rfl ?_
  refine aw_aload_n C dX6_goes_259 1 rfl ?_
  refine aw_getX6 C K inX6_goes_6 dX6_goes_260 4 (by decide) qX6_goes_fieldLink_RX6_16 0 (wX6_g ..) rfl ?_
  refine aw_iload C dX6_goes_263 4 rfl ?_
  refine aw_iconst (v := 2) C dX6_goes_265 (by decide) ?_
  refine aw_iload_n C dX6_goes_266 2 rfl ?_
  refine aw_imul C dX6_goes_267 ?_
  refine aw_iconst (v := 2) C dX6_goes_268 (by decide) ?_
  refine aw_isub C dX6_goes_269 ?_
  refine aw_iload C dX6_goes_270 6 rfl ?_
  refine aw_isub C dX6_goes_272 ?_
  refine aw_iload C dX6_goes_273 3 rfl ?_
  refine aw_imul C dX6_goes_275 ?_
  refine aw_iadd C dX6_goes_276 ?_
  refine aw_aload_n C dX6_goes_277 1 rfl ?_
  refine aw_getX6 C K inX6_goes_6 dX6_goes_278 22 (by decide) qX6_goes_fieldLink_RX6_59 0 (wX6_g ..) rfl ?_
  refine aw_iload C dX6_goes_281 6 rfl ?_
  obtain ⟨b283, h⟩ := h
  refine aw_iald C K dX6_goes_283 17 (wX6_g22 ..) b283 ?_
  refine aw_iload C dX6_goes_284 0 rfl ?_
  refine aw_imul C dX6_goes_286 ?_
  refine aw_iconst (v := 2) C dX6_goes_287 (by decide) ?_
  refine aw_idiv C dX6_goes_288 (by decide) ?_
  refine aw_iadd C dX6_goes_289 ?_
  refine aw_name (fun v289 ev289 => ?_)
  have h := h v289 ev289
  refine aw_iload C dX6_goes_290 5 rfl ?_
  refine aw_iadd C dX6_goes_292 ?_
  obtain ⟨b293, h⟩ := h
  refine aw_iald C K dX6_goes_293 3 (wX6_g4 ..) b293 ?_
  refine aw_if_eq (tgt := 301) C dX6_goes_294 (by decide) (fun c294 => ?_) (fun c294 => ?_)
  · have h := h.1 c294
    refine aw_iconst (v := 0) C dX6_goes_301 (by decide) ?_
    refine aw_istore (lv' := [(11, .int 0), (10, .int x10_257), (0, .ref o), (1, .int x1), (5, .int x5), (6, .int x6), (7, .int x7), (9, .int x9)]) C dX6_goes_302 (by decide) rfl ?_
    refine aw_iconst (v := 2) C dX6_goes_304 (by decide) ?_
    refine aw_iload C dX6_goes_305 6 rfl ?_
    refine aw_imul C dX6_goes_307 ?_
    refine aw_iload C dX6_goes_308 0 rfl ?_
    refine aw_if_eq (tgt := 325) C dX6_goes_310 (by decide) (fun _ => ?_) (fun q => absurd (by decide) q)
    refine aw_aload_n C dX6_goes_325 2 rfl ?_
    refine aw_getX6 C K inX6_goes_6 dX6_goes_326 23 (by decide) qX6_goes_fieldLink_RX6_62 0 (wX6_g ..) rfl ?_
    refine aw_iload C dX6_goes_329 7 rfl ?_
    obtain ⟨b331, h⟩ := h
    refine aw_iald C K dX6_goes_331 18 (wX6_g23 ..) b331 ?_
    refine aw_iadd C dX6_goes_332 ?_
    refine aw_name (fun x7_333 ex7_333 => ?_)
    have h := h x7_333 ex7_333
    refine aw_istore (lv' := [(7, .int x7_333), (11, .int 0), (10, .int x10_257), (0, .ref o), (1, .int x1), (5, .int x5), (6, .int x6), (9, .int x9)]) C dX6_goes_333 (by decide) rfl ?_
    obtain ⟨x9_335, ex9_335⟩ : ∃ y : Int32, y = x9 + (-1) := ⟨_, rfl⟩
    have h := h x9_335 ex9_335
    refine aw_iinc (v := x9_335) (lv' := [(9, .int x9_335), (7, .int x7_333), (11, .int 0), (10, .int x10_257), (0, .ref o), (1, .int x1), (5, .int x5), (6, .int x6)]) C dX6_goes_335 7 rfl (by rw [ex9_335]; rfl) (by decide) rfl ?_
    refine aw_goto (tgt := 246) C dX6_goes_338 (by decide) ?_
    refine aw_lv [4, 5, 6, 7, 1, 0] rfl ?_
    exact hkH x7_333 x9_335 h
  have h := h.2 c294
  refine aw_iconst (v := 1) C dX6_goes_297 (by decide) ?_
  refine aw_goto (tgt := 302) C dX6_goes_298 (by decide) ?_
  refine aw_istore (lv' := [(11, .int 1), (10, .int x10_257), (0, .ref o), (1, .int x1), (5, .int x5), (6, .int x6), (7, .int x7), (9, .int x9)]) C dX6_goes_302 (by decide) rfl ?_
  refine aw_iconst (v := 2) C dX6_goes_304 (by decide) ?_
  refine aw_iload C dX6_goes_305 6 rfl ?_
  refine aw_imul C dX6_goes_307 ?_
  refine aw_iload C dX6_goes_308 0 rfl ?_
  refine aw_if_eq (tgt := 325) C dX6_goes_310 (by decide) (fun q => absurd q (by decide)) (fun _ => ?_)
  refine aw_iconst (v := 1) C dX6_goes_313 (by decide) ?_
  refine aw_aload_n C dX6_goes_314 2 rfl ?_
  refine aw_getX6 C K inX6_goes_6 dX6_goes_315 23 (by decide) qX6_goes_fieldLink_RX6_62 0 (wX6_g ..) rfl ?_
  refine aw_iload C dX6_goes_318 7 rfl ?_
  obtain ⟨b320, h⟩ := h
  refine aw_iald C K dX6_goes_320 18 (wX6_g23 ..) b320 ?_
  refine aw_isub C dX6_goes_321 ?_
  refine aw_goto (tgt := 332) C dX6_goes_322 (by decide) ?_
  refine aw_iadd C dX6_goes_332 ?_
  refine aw_name (fun x7_333 ex7_333 => ?_)
  have h := h x7_333 ex7_333
  refine aw_istore (lv' := [(7, .int x7_333), (11, .int 1), (10, .int x10_257), (0, .ref o), (1, .int x1), (5, .int x5), (6, .int x6), (9, .int x9)]) C dX6_goes_333 (by decide) rfl ?_
  obtain ⟨x9_335, ex9_335⟩ : ∃ y : Int32, y = x9 + (-1) := ⟨_, rfl⟩
  have h := h x9_335 ex9_335
  refine aw_iinc (v := x9_335) (lv' := [(9, .int x9_335), (7, .int x7_333), (11, .int 1), (10, .int x10_257), (0, .ref o), (1, .int x1), (5, .int x5), (6, .int x6)]) C dX6_goes_335 7 rfl (by rw [ex9_335]; rfl) (by decide) rfl ?_
  refine aw_goto (tgt := 246) C dX6_goes_338 (by decide) ?_
  refine aw_lv [4, 5, 6, 7, 1, 0] rfl ?_
  exact hkH x7_333 x9_335 h
theorem tlX6_goes_246 (C : ctB p s0 m args c cX6_goes 12 RX6 wsX6_goes) (K : ctK s0 D A H0 cy) {o : Nat} {ad : Nat → Nat}  {s : St} {x1 : Int32} {x5 : Int32} {x6 : Int32} {k341 : Int32 → Prop} (hk341 : ∀ (y7 : Int32), k341 y7 → atG p l e rmX6_goes s0 m args below meth c 0 0 Z 12 (iW D A H0 (wX6 cy o ad s)) [(0, .ref o), (7, .int y7)] [] 341) (x7 : Int32) (x9 : Int32) (h : lX6_goes_246 s x1 x5 x6 k341 x7 x9) : atG p l e rmX6_goes s0 m args below meth c 0 0 Z 12 (iW D A H0 (wX6 cy o ad s)) [(0, .ref o), (1, .int x1), (5, .int x5), (6, .int x6), (7, .int x7), (9, .int x9)] [] 246 :=
  lp_W (σ := Int32 × Int32) (P := fun q => atG p l e rmX6_goes s0 m args below meth c 0 0 Z 12 (iW D A H0 (wX6 cy o ad s)) [(0, .ref o), (1, .int x1), (5, .int x5), (6, .int x6), (7, .int q.1), (9, .int q.2)] [] 246) (fun K2 hK2 q hb => tbX6_goes_246 C K hk341 (fun x7 x9 hk => hK2 (x7, x9) hk) q.1 q.2 hb) (x7, x9) h
theorem eX6_goes (C : ctB p s0 m args c cX6_goes 12 RX6 wsX6_goes) (K : ctK s0 D A H0 cy) {o : Nat} {ad : Nat → Nat} {Q : Int32 → St → Prop} (hQ : ∀ (v : Int32) (u : St), Q v u → ∀ pc, decode cX6_goes pc = .ok (.ireturn, 1) → atG p l e rmX6_goes s0 m args below meth c 0 0 Z 12 (iW D A H0 (wX6 cy o ad u)) [] [.int v] pc) (s : St) (x1 : Int32) (x2 : Int32) (x3 : Int32) (x4 : Int32) (h : pX6_goes  s x1 x2 x3 x4 Q) : atG p l e rmX6_goes s0 m args below meth c 0 0 Z 12 (iW D A H0 (wX6 cy o ad s)) [(0, .ref o), (1, .int x1), (2, .int x2), (3, .int x3), (4, .int x4)] [] 0 := by
  delta pX6_goes at h
  refine aw_aload_n C dX6_goes_0 0 rfl ?_
  refine aw_iconst (v := 0) C dX6_goes_1 (by decide) ?_
  refine aw_putX6 (ty := .int) C K inX6_goes_6 dX6_goes_2 0 (by decide) qX6_goes_fieldLink_RX6_81 0 (wX6_g ..) rfl (by decide +kernel) rfl rfl (Nat.le_of_ble_eq_true rfl) (wX6_p0 ..) ?_
  obtain ⟨s2, es2⟩ : ∃ z, z = (uF s 0 0) := ⟨_, rfl⟩
  rw [← es2]
  have h := h s2 es2
  refine aw_iload_n C dX6_goes_5 2 rfl ?_
  refine aw_callS (As := [.int x2]) (rest := []) C (mtX6_isSheet l x2 _ h) (va_cwS 1 C.2.2.2.2.1 gX6_goes_X6_isSheet rfl rfl rfl (by decide +kernel) ⟨Nat.le_of_ble_eq_true rfl, Nat.le_of_ble_eq_true rfl⟩) rfl rfl (Nat.le_of_ble_eq_true rfl) ⟨rfl, rfl⟩ ⟨Nat.zero_le _, Nat.zero_le _⟩ dX6_goes_6 (fun r6 h => ?_)
  refine aw_if_eq (tgt := 40) C dX6_goes_9 (by decide) (fun c9 => ?_) (fun c9 => ?_)
  · have h := h.1 c9
    refine aw_ldc (v := (-1000001)) C dX6_goes_40 qX6_goes_constant_RX6_101_1000001 ?_
    refine aw_lv [] rfl ?_
    exact hQ (-1000001) s2 h 42 dX6_goes_42
  have h := h.2 c9
  refine aw_iload_n C dX6_goes_12 1 rfl ?_
  refine aw_i2l C dX6_goes_13 ?_
  refine aw_lconst (v := 1) C dX6_goes_14 (by decide) ?_
  refine aw_ldc2 (v := 4) C dX6_goes_15 qX6_goes_constantLong_RX6_188_4 ?_
  refine aw_callS (As := [.long x1.toInt64, .long 1, .long 4]) (rest := []) C (mtX6_in l x1.toInt64 1 4 _ h) (va_cwS 3 C.2.2.2.2.1 gX6_goes_X6_in rfl rfl rfl (by decide +kernel) ⟨Nat.le_of_ble_eq_true rfl, Nat.le_of_ble_eq_true rfl⟩) rfl rfl (Nat.le_of_ble_eq_true rfl) ⟨rfl, rfl⟩ ⟨Nat.zero_le _, Nat.zero_le _⟩ dX6_goes_18 (fun r18 h => ?_)
  refine aw_if_eq (tgt := 40) C dX6_goes_21 (by decide) (fun c21 => ?_) (fun c21 => ?_)
  · have h := h.1 c21
    refine aw_ldc (v := (-1000001)) C dX6_goes_40 qX6_goes_constant_RX6_101_1000001 ?_
    refine aw_lv [] rfl ?_
    exact hQ (-1000001) s2 h 42 dX6_goes_42
  have h := h.2 c21
  refine aw_iload C dX6_goes_24 4 rfl ?_
  refine aw_i2l C dX6_goes_26 ?_
  refine aw_lconst (v := 0) C dX6_goes_27 (by decide) ?_
  refine aw_iconst (v := 1) C dX6_goes_28 (by decide) ?_
  refine aw_iload_n C dX6_goes_29 1 rfl ?_
  refine aw_ishl C dX6_goes_30 ?_
  refine aw_iconst (v := 1) C dX6_goes_31 (by decide) ?_
  refine aw_isub C dX6_goes_32 ?_
  refine aw_i2l C dX6_goes_33 ?_
  refine aw_callS (As := [.long x4.toInt64, .long 0, .long (((1 <<< (x1 &&& 31)) - 1).toInt64)]) (rest := []) C (mtX6_in l x4.toInt64 0 (((1 <<< (x1 &&& 31)) - 1).toInt64) _ h) (va_cwS 3 C.2.2.2.2.1 gX6_goes_X6_in rfl rfl rfl (by decide +kernel) ⟨Nat.le_of_ble_eq_true rfl, Nat.le_of_ble_eq_true rfl⟩) rfl rfl (Nat.le_of_ble_eq_true rfl) ⟨rfl, rfl⟩ ⟨Nat.zero_le _, Nat.zero_le _⟩ dX6_goes_34 (fun r34 h => ?_)
  refine aw_if_ne (tgt := 43) C dX6_goes_37 (by decide) (fun c37 => ?_) (fun c37 => ?_)
  · have h := h.2 c37
    refine aw_aload_n C dX6_goes_43 0 rfl ?_
    refine aw_iconst (v := 0) C dX6_goes_44 (by decide) ?_
    refine aw_putX6 (ty := .int) C K inX6_goes_6 dX6_goes_45 1 (by decide) qX6_goes_fieldLink_RX6_85 0 (wX6_g ..) rfl (by decide +kernel) rfl rfl (Nat.le_of_ble_eq_true rfl) (wX6_p1 ..) ?_
    obtain ⟨s45, es45⟩ : ∃ z, z = (uF s2 1 0) := ⟨_, rfl⟩
    rw [← es45]
    have h := h s45 es45
    refine aw_aload_n C dX6_goes_48 0 rfl ?_
    refine aw_getX6 C K inX6_goes_6 dX6_goes_49 2 (by decide) qX6_goes_fieldLink_RX6_7 0 (wX6_g ..) rfl ?_
    refine aw_iload_n C dX6_goes_52 2 rfl ?_
    obtain ⟨b53, h⟩ := h
    refine aw_iald C K dX6_goes_53 1 (wX6_g2 ..) b53 ?_
    refine aw_if_ge (tgt := 63) C dX6_goes_54 (by decide) (fun c54 => ?_) (fun c54 => ?_)
    · have h := h.1 c54
      refine aw_iconst (v := 1) C dX6_goes_63 (by decide) ?_
      refine aw_iload_n C dX6_goes_64 1 rfl ?_
      refine aw_iconst (v := 1) C dX6_goes_65 (by decide) ?_
      refine aw_isub C dX6_goes_66 ?_
      refine aw_ishl C dX6_goes_67 ?_
      refine aw_name (fun x5_68 ex5_68 => ?_)
      have h := h x5_68 ex5_68
      refine aw_istore (lv' := [(5, .int x5_68), (0, .ref o), (1, .int x1), (2, .int x2), (3, .int x3), (4, .int x4)]) C dX6_goes_68 (by decide) rfl ?_
      refine aw_iload_n C dX6_goes_70 4 rfl ?_
      refine aw_if_lt (tgt := 97) C dX6_goes_71 (by decide) (fun c71 => ?_) (fun c71 => ?_)
      · have h := h.1 c71
        refine aw_aload_n C dX6_goes_97 1 rfl ?_
        refine aw_iconst (v := 2) C dX6_goes_98 (by decide) ?_
        refine aw_callI (As := [.int 2]) (rest := []) C K (mtX6_found l D cy o ad s45 2 _ h) (cwV 1 C.2.2.2.2.1 gX6_goes_X6_found rfl rfl rfl (by decide +kernel) ⟨Nat.le_of_ble_eq_true rfl, Nat.le_of_ble_eq_true rfl⟩) 0 6 (wX6_g ..) rfl rfl rfl rfl (Nat.le_of_ble_eq_true rfl) ⟨Nat.le_of_ble_eq_true rfl, Nat.le_of_ble_eq_true rfl⟩ dX6_goes_99 (fun r99 s99 h => ?_)
        refine aw_lv [] rfl ?_
        exact hQ r99 s99 h 102 dX6_goes_102
      have h := h.2 c71
      refine aw_iload_n C dX6_goes_74 4 rfl ?_
      refine aw_i2l C dX6_goes_75 ?_
      refine aw_iconst (v := 2) C dX6_goes_76 (by decide) ?_
      refine aw_iload_n C dX6_goes_77 2 rfl ?_
      refine aw_imul C dX6_goes_78 ?_
      refine aw_iconst (v := 1) C dX6_goes_79 (by decide) ?_
      refine aw_isub C dX6_goes_80 ?_
      refine aw_iload C dX6_goes_81 0 rfl ?_
      refine aw_imul C dX6_goes_83 ?_
      refine aw_i2l C dX6_goes_84 ?_
      refine aw_ladd C dX6_goes_85 ?_
      refine aw_aload_n C dX6_goes_86 1 rfl ?_
      refine aw_getX6 C K inX6_goes_6 dX6_goes_87 3 (by decide) qX6_goes_fieldLink_RX6_13 0 (wX6_g ..) rfl ?_
      refine aw_iload_n C dX6_goes_90 3 rfl ?_
      obtain ⟨b91, h⟩ := h
      refine aw_iald C K dX6_goes_91 2 (wX6_g3 ..) b91 ?_
      refine aw_i2l C dX6_goes_92 ?_
      refine aw_lcmp C dX6_goes_93 ?_
      refine aw_if_le (tgt := 103) C dX6_goes_94 (by decide) (fun c94 => ?_) (fun c94 => ?_)
      · have h := h.1 c94
        refine aw_bipush (v := 64) C dX6_goes_103 (by decide) ?_
        refine aw_iload_n C dX6_goes_105 3 rfl ?_
        refine aw_imul C dX6_goes_106 ?_
        refine aw_iload_n C dX6_goes_107 4 rfl ?_
        refine aw_iadd C dX6_goes_108 ?_
        refine aw_name (fun x6_109 ex6_109 => ?_)
        have h := h x6_109 ex6_109
        refine aw_istore (lv' := [(6, .int x6_109), (5, .int x5_68), (0, .ref o), (1, .int x1), (2, .int x2), (3, .int x3), (4, .int x4)]) C dX6_goes_109 (by decide) rfl ?_
        refine aw_iload C dX6_goes_111 6 rfl ?_
        refine aw_istore (lv' := [(7, .int x4), (6, .int x6_109), (5, .int x5_68), (0, .ref o), (1, .int x1), (2, .int x2), (3, .int x3), (4, .int x4)]) C dX6_goes_113 (by decide) rfl ?_
        refine aw_iconst (v := 0) C dX6_goes_115 (by decide) ?_
        refine aw_istore (lv' := [(8, .int 0), (7, .int x4), (6, .int x6_109), (5, .int x5_68), (0, .ref o), (1, .int x1), (2, .int x2), (3, .int x3), (4, .int x4)]) C dX6_goes_116 (by decide) rfl ?_
        refine aw_iconst (v := 0) C dX6_goes_118 (by decide) ?_
        refine aw_istore (lv' := [(9, .int 0), (8, .int 0), (7, .int x4), (6, .int x6_109), (5, .int x5_68), (0, .ref o), (1, .int x1), (2, .int x2), (3, .int x3), (4, .int x4)]) C dX6_goes_119 (by decide) rfl ?_
        refine aw_lv [5, 6, 4, 3, 2, 1, 0] rfl ?_
        refine tlX6_goes_121 C K ?_ s45 x4 0 0 h
        intro s_231 h
        refine aw_aload_n C dX6_goes_231 0 rfl ?_
        refine aw_getX6 C K inX6_goes_6 dX6_goes_232 23 (by decide) qX6_goes_fieldLink_RX6_62 0 (wX6_g ..) rfl ?_
        refine aw_iload_n C dX6_goes_235 1 rfl ?_
        refine aw_iconst (v := 1) C dX6_goes_236 (by decide) ?_
        refine aw_isub C dX6_goes_237 ?_
        obtain ⟨b238, h⟩ := h
        refine aw_iald C K dX6_goes_238 18 (wX6_g23 ..) b238 ?_
        refine aw_name (fun x7_239 ex7_239 => ?_)
        have h := h x7_239 ex7_239
        refine aw_istore (lv' := [(7, .int x7_239), (0, .ref o), (1, .int x1), (5, .int x5_68), (6, .int x6_109)]) C dX6_goes_239 (by decide) rfl ?_
        refine aw_iload_n C dX6_goes_241 2 rfl ?_
        refine aw_iconst (v := 2) C dX6_goes_242 (by decide) ?_
        refine aw_isub C dX6_goes_243 ?_
        refine aw_name (fun x9_244 ex9_244 => ?_)
        have h := h x9_244 ex9_244
        refine aw_istore (lv' := [(9, .int x9_244), (7, .int x7_239), (0, .ref o), (1, .int x1), (5, .int x5_68), (6, .int x6_109)]) C dX6_goes_244 (by decide) rfl ?_
        refine aw_lv [2, 3, 4, 5, 1, 0] rfl ?_
        refine tlX6_goes_246 C K ?_ x7_239 x9_244 h
        intro z341_7 h
        refine aw_iload C dX6_goes_341 1 rfl ?_
        refine aw_lv [] rfl ?_
        exact hQ z341_7 s_231 h 343 dX6_goes_343
      have h := h.2 c94
      refine aw_aload_n C dX6_goes_97 1 rfl ?_
      refine aw_iconst (v := 2) C dX6_goes_98 (by decide) ?_
      refine aw_callI (As := [.int 2]) (rest := []) C K (mtX6_found l D cy o ad s45 2 _ h) (cwV 1 C.2.2.2.2.1 gX6_goes_X6_found rfl rfl rfl (by decide +kernel) ⟨Nat.le_of_ble_eq_true rfl, Nat.le_of_ble_eq_true rfl⟩) 0 6 (wX6_g ..) rfl rfl rfl rfl (Nat.le_of_ble_eq_true rfl) ⟨Nat.le_of_ble_eq_true rfl, Nat.le_of_ble_eq_true rfl⟩ dX6_goes_99 (fun r99 s99 h => ?_)
      refine aw_lv [] rfl ?_
      exact hQ r99 s99 h 102 dX6_goes_102
    have h := h.2 c54
    refine aw_aload_n C dX6_goes_57 0 rfl ?_
    refine aw_iconst (v := 1) C dX6_goes_58 (by decide) ?_
    refine aw_callI (As := [.int 1]) (rest := []) C K (mtX6_found l D cy o ad s45 1 _ h) (cwV 1 C.2.2.2.2.1 gX6_goes_X6_found rfl rfl rfl (by decide +kernel) ⟨Nat.le_of_ble_eq_true rfl, Nat.le_of_ble_eq_true rfl⟩) 0 6 (wX6_g ..) rfl rfl rfl rfl (Nat.le_of_ble_eq_true rfl) ⟨Nat.le_of_ble_eq_true rfl, Nat.le_of_ble_eq_true rfl⟩ dX6_goes_59 (fun r59 s59 h => ?_)
    refine aw_lv [] rfl ?_
    exact hQ r59 s59 h 62 dX6_goes_62
  have h := h.1 c37
  refine aw_ldc (v := (-1000001)) C dX6_goes_40 qX6_goes_constant_RX6_101_1000001 ?_
  refine aw_lv [] rfl ?_
  exact hQ (-1000001) s2 h 42 dX6_goes_42
end SX6_goes
theorem mtX6_goes (l : Launch) (D : va_G) (cy : Nat → ClassId) (o : Nat) (ad : Nat → Nat) (s : St) (x1 : Int32) (x2 : Int32) (x3 : Int32) (x4 : Int32) (Q : Int32 → St → Prop) (hw : pX6_goes  s x1 x2 x3 x4 Q) : mI l yX6_goes wsX6_goes rmX6_goes D cy [.ref o, .int x1, .int x2, .int x3, .int x4] (wX6 cy o ad s) (wX6 cy o ad) Q :=
  metI (Wd := wX6 cy o ad) ⟨rfl, rfl⟩ (by decide) rfl (Nat.le_of_ble_eq_true rfl) (fun C K hQ => eX6_goes C K hQ s x1 x2 x3 x4 hw)
def rmX6_next : Room := { frames := 0, cells := 0, slots := 0, locals := 0 }
theorem inX6_next_6 : ∀ w ∈ wsX60, w ∈ wsX6_next := fun w h => (List.mem_cons_of_mem _ (List.mem_append_right _ h))
theorem qX6_next_fieldLink_RX6_74 : Cond.fieldLink RX6 74 "StageSwitchModel" "row" "[I" ∈ wsX6_next := (List.mem_cons_of_mem _ (List.mem_append_left _ (List.mem_of_getElem? (i := 0) rfl)))
section SX6_next
variable {p : Program} {l : Launch} {e : Env} {s0 : State} {m : MethodId} {args : Array Value} {below : List Frame} {meth : Method} {c : Code} {D : va_G} {A : Nat → Prop} {H0 : Heap} {cy : Nat → ClassId} {Z : State → Prop}
theorem tbX6_next_4 (C : ctB p s0 m args c cX6_next 7 RX6 wsX6_next) (K : ctK s0 D A H0 cy) {o : Nat} {ad : Nat → Nat}  {s : St} {x1 : Int32} {k31 : Int32 → Prop} (hk31 : ∀ (y2 : Int32), k31 y2 → atG p l e rmX6_next s0 m args below meth c 0 0 Z 7 (iW D A H0 (wX6 cy o ad s)) [(0, .ref o), (1, .int x1), (2, .int y2)] [] 31) {kH : Int32 → Prop} (hkH : ∀ (y2 : Int32), kH y2 → atG p l e rmX6_next s0 m args below meth c 0 0 Z 7 (iW D A H0 (wX6 cy o ad s)) [(0, .ref o), (1, .int x1), (2, .int y2)] [] 4) (x2 : Int32) (h : bX6_next_4 s x1 k31 kH x2) : atG p l e rmX6_next s0 m args below meth c 0 0 Z 7 (iW D A H0 (wX6 cy o ad s)) [(0, .ref o), (1, .int x1), (2, .int x2)] [] 4 := by
  delta bX6_next_4 at h
  refine aw_iload_n C dX6_next_4 2 rfl ?_
  refine aw_if_lt (tgt := 31) C dX6_next_5 (by decide) (fun c5 => ?_) (fun c5 => ?_)
  · have h := h.1 c5
    exact hk31 x2 h
  have h := h.2 c5
  refine aw_aload_n C dX6_next_8 0 rfl ?_
  refine aw_getX6 C K inX6_next_6 dX6_next_9 28 (by decide) qX6_next_fieldLink_RX6_74 0 (wX6_g ..) rfl ?_
  refine aw_iload_n C dX6_next_12 2 rfl ?_
  obtain ⟨b13, h⟩ := h
  refine aw_iald C K dX6_next_13 22 (wX6_g28 ..) b13 ?_
  refine aw_aload_n C dX6_next_14 0 rfl ?_
  refine aw_getX6 C K inX6_next_6 dX6_next_15 28 (by decide) qX6_next_fieldLink_RX6_74 0 (wX6_g ..) rfl ?_
  refine aw_iload_n C dX6_next_18 2 rfl ?_
  refine aw_iconst (v := 1) C dX6_next_19 (by decide) ?_
  refine aw_iadd C dX6_next_20 ?_
  obtain ⟨b21, h⟩ := h
  refine aw_iald C K dX6_next_21 22 (wX6_g28 ..) b21 ?_
  refine aw_icmp_le (tgt := 31) C dX6_next_22 (by decide) (fun c22 => ?_) (fun c22 => ?_)
  · have h := h.1 c22
    exact hk31 x2 h
  have h := h.2 c22
  obtain ⟨x2_25, ex2_25⟩ : ∃ y : Int32, y = x2 + (-1) := ⟨_, rfl⟩
  have h := h x2_25 ex2_25
  refine aw_iinc (v := x2_25) (lv' := [(2, .int x2_25), (0, .ref o), (1, .int x1)]) C dX6_next_25 2 rfl (by rw [ex2_25]; rfl) (by decide) rfl ?_
  refine aw_goto (tgt := 4) C dX6_next_28 (by decide) ?_
  refine aw_lv [1, 2, 0] rfl ?_
  exact hkH x2_25 h
theorem tlX6_next_4 (C : ctB p s0 m args c cX6_next 7 RX6 wsX6_next) (K : ctK s0 D A H0 cy) {o : Nat} {ad : Nat → Nat}  {s : St} {x1 : Int32} {k31 : Int32 → Prop} (hk31 : ∀ (y2 : Int32), k31 y2 → atG p l e rmX6_next s0 m args below meth c 0 0 Z 7 (iW D A H0 (wX6 cy o ad s)) [(0, .ref o), (1, .int x1), (2, .int y2)] [] 31) (x2 : Int32) (h : lX6_next_4 s x1 k31 x2) : atG p l e rmX6_next s0 m args below meth c 0 0 Z 7 (iW D A H0 (wX6 cy o ad s)) [(0, .ref o), (1, .int x1), (2, .int x2)] [] 4 :=
  lp_W (σ := Int32) (P := fun q => atG p l e rmX6_next s0 m args below meth c 0 0 Z 7 (iW D A H0 (wX6 cy o ad s)) [(0, .ref o), (1, .int x1), (2, .int q)] [] 4) (fun K2 hK2 q hb => tbX6_next_4 C K hk31 (fun x2 hk => hK2 x2 hk) q hb) x2 h
theorem tbX6_next_41 (C : ctB p s0 m args c cX6_next 7 RX6 wsX6_next) (K : ctK s0 D A H0 cy) {o : Nat} {ad : Nat → Nat}  {s : St} {x1 : Int32} {x2 : Int32} {k62 : Int32 → Prop} (hk62 : ∀ (y3 : Int32), k62 y3 → atG p l e rmX6_next s0 m args below meth c 0 0 Z 7 (iW D A H0 (wX6 cy o ad s)) [(0, .ref o), (1, .int x1), (2, .int x2), (3, .int y3)] [] 62) {kH : Int32 → Prop} (hkH : ∀ (y3 : Int32), kH y3 → atG p l e rmX6_next s0 m args below meth c 0 0 Z 7 (iW D A H0 (wX6 cy o ad s)) [(0, .ref o), (1, .int x1), (2, .int x2), (3, .int y3)] [] 41) (x3 : Int32) (h : bX6_next_41 s x1 x2 k62 kH x3) : atG p l e rmX6_next s0 m args below meth c 0 0 Z 7 (iW D A H0 (wX6 cy o ad s)) [(0, .ref o), (1, .int x1), (2, .int x2), (3, .int x3)] [] 41 := by
  delta bX6_next_41 at h
  refine aw_aload_n C dX6_next_41 0 rfl ?_
  refine aw_getX6 C K inX6_next_6 dX6_next_42 28 (by decide) qX6_next_fieldLink_RX6_74 0 (wX6_g ..) rfl ?_
  refine aw_iload_n C dX6_next_45 3 rfl ?_
  obtain ⟨b46, h⟩ := h
  refine aw_iald C K dX6_next_46 22 (wX6_g28 ..) b46 ?_
  refine aw_aload_n C dX6_next_47 0 rfl ?_
  refine aw_getX6 C K inX6_next_6 dX6_next_48 28 (by decide) qX6_next_fieldLink_RX6_74 0 (wX6_g ..) rfl ?_
  refine aw_iload_n C dX6_next_51 2 rfl ?_
  obtain ⟨b52, h⟩ := h
  refine aw_iald C K dX6_next_52 22 (wX6_g28 ..) b52 ?_
  refine aw_icmp_ge (tgt := 62) C dX6_next_53 (by decide) (fun c53 => ?_) (fun c53 => ?_)
  · have h := h.1 c53
    exact hk62 x3 h
  have h := h.2 c53
  obtain ⟨x3_56, ex3_56⟩ : ∃ y : Int32, y = x3 + (-1) := ⟨_, rfl⟩
  have h := h x3_56 ex3_56
  refine aw_iinc (v := x3_56) (lv' := [(3, .int x3_56), (0, .ref o), (1, .int x1), (2, .int x2)]) C dX6_next_56 3 rfl (by rw [ex3_56]; rfl) (by decide) rfl ?_
  refine aw_goto (tgt := 41) C dX6_next_59 (by decide) ?_
  refine aw_lv [1, 2, 3, 0] rfl ?_
  exact hkH x3_56 h
theorem tlX6_next_41 (C : ctB p s0 m args c cX6_next 7 RX6 wsX6_next) (K : ctK s0 D A H0 cy) {o : Nat} {ad : Nat → Nat}  {s : St} {x1 : Int32} {x2 : Int32} {k62 : Int32 → Prop} (hk62 : ∀ (y3 : Int32), k62 y3 → atG p l e rmX6_next s0 m args below meth c 0 0 Z 7 (iW D A H0 (wX6 cy o ad s)) [(0, .ref o), (1, .int x1), (2, .int x2), (3, .int y3)] [] 62) (x3 : Int32) (h : lX6_next_41 s x1 x2 k62 x3) : atG p l e rmX6_next s0 m args below meth c 0 0 Z 7 (iW D A H0 (wX6 cy o ad s)) [(0, .ref o), (1, .int x1), (2, .int x2), (3, .int x3)] [] 41 :=
  lp_W (σ := Int32) (P := fun q => atG p l e rmX6_next s0 m args below meth c 0 0 Z 7 (iW D A H0 (wX6 cy o ad s)) [(0, .ref o), (1, .int x1), (2, .int x2), (3, .int q)] [] 41) (fun K2 hK2 q hb => tbX6_next_41 C K hk62 (fun x3 hk => hK2 x3 hk) q hb) x3 h
theorem tbX6_next_100 (C : ctB p s0 m args c cX6_next 7 RX6 wsX6_next) (K : ctK s0 D A H0 cy) {o : Nat} {ad : Nat → Nat}  {k148 : St → Prop} (hk148 : ∀ (s : St), k148 s → atG p l e rmX6_next s0 m args below meth c 0 0 Z 7 (iW D A H0 (wX6 cy o ad s)) [(0, .ref o)] [] 148) {kH : St → Int32 → Int32 → Prop} (hkH : ∀ (s : St) (y5 : Int32) (y6 : Int32), kH s y5 y6 → atG p l e rmX6_next s0 m args below meth c 0 0 Z 7 (iW D A H0 (wX6 cy o ad s)) [(0, .ref o), (5, .int y5), (6, .int y6)] [] 100) (s : St) (x5 : Int32) (x6 : Int32) (h : bX6_next_100 k148 kH s x5 x6) : atG p l e rmX6_next s0 m args below meth c 0 0 Z 7 (iW D A H0 (wX6 cy o ad s)) [(0, .ref o), (5, .int x5), (6, .int x6)] [] 100 := by
  delta bX6_next_100 at h
  refine aw_iload C dX6_next_100 1 rfl ?_
  refine aw_iload C dX6_next_102 2 rfl ?_
  refine aw_icmp_ge (tgt := 148) C dX6_next_104 (by decide) (fun c104 => ?_) (fun c104 => ?_)
  · have h := h.1 c104
    refine aw_lv [0] rfl ?_
    exact hk148 s h
  have h := h.2 c104
  refine aw_aload_n C dX6_next_107 0 rfl ?_
  refine aw_getX6 C K inX6_next_6 dX6_next_108 28 (by decide) qX6_next_fieldLink_RX6_74 0 (wX6_g ..) rfl ?_
  refine aw_iload C dX6_next_111 1 rfl ?_
  obtain ⟨b113, h⟩ := h
  refine aw_iald C K dX6_next_113 22 (wX6_g28 ..) b113 ?_
  refine aw_name (fun x4_114 ex4_114 => ?_)
  have h := h x4_114 ex4_114
  refine aw_istore (lv' := [(4, .int x4_114), (0, .ref o), (5, .int x5), (6, .int x6)]) C dX6_next_114 (by decide) rfl ?_
  refine aw_aload_n C dX6_next_116 1 rfl ?_
  refine aw_getX6 C K inX6_next_6 dX6_next_117 28 (by decide) qX6_next_fieldLink_RX6_74 0 (wX6_g ..) rfl ?_
  refine aw_iload C dX6_next_120 2 rfl ?_
  refine aw_aload_n C dX6_next_122 1 rfl ?_
  refine aw_getX6 C K inX6_next_6 dX6_next_123 28 (by decide) qX6_next_fieldLink_RX6_74 0 (wX6_g ..) rfl ?_
  refine aw_iload C dX6_next_126 3 rfl ?_
  obtain ⟨b128, h⟩ := h
  refine aw_iald C K dX6_next_128 22 (wX6_g28 ..) b128 ?_
  obtain ⟨b129, h⟩ := h
  refine aw_iast C K dX6_next_129 22 (wX6_g28 ..) (wX6_s28 ..) b129 ?_
  obtain ⟨s129, es129⟩ : ∃ z, z = (uA s 28 (upd (sA s 28) x5.toNatClampNeg (sA s 28 x6.toNatClampNeg))) := ⟨_, rfl⟩
  rw [← es129]
  have h := h s129 es129
  refine aw_aload_n C dX6_next_130 1 rfl ?_
  refine aw_getX6 C K inX6_next_6 dX6_next_131 28 (by decide) qX6_next_fieldLink_RX6_74 0 (wX6_g ..) rfl ?_
  refine aw_iload C dX6_next_134 3 rfl ?_
  refine aw_iload C dX6_next_136 0 rfl ?_
  obtain ⟨b138, h⟩ := h
  refine aw_iast C K dX6_next_138 22 (wX6_g28 ..) (wX6_s28 ..) b138 ?_
  obtain ⟨s138, es138⟩ : ∃ z, z = (uA s129 28 (upd (sA s129 28) x6.toNatClampNeg x4_114)) := ⟨_, rfl⟩
  rw [← es138]
  have h := h s138 es138
  obtain ⟨x5_139, ex5_139⟩ : ∃ y : Int32, y = x5 + 1 := ⟨_, rfl⟩
  have h := h x5_139 ex5_139
  refine aw_iinc (v := x5_139) (lv' := [(5, .int x5_139), (4, .int x4_114), (0, .ref o), (6, .int x6)]) C dX6_next_139 2 rfl (by rw [ex5_139]; rfl) (by decide) rfl ?_
  obtain ⟨x6_142, ex6_142⟩ : ∃ y : Int32, y = x6 + (-1) := ⟨_, rfl⟩
  have h := h x6_142 ex6_142
  refine aw_iinc (v := x6_142) (lv' := [(6, .int x6_142), (5, .int x5_139), (4, .int x4_114), (0, .ref o)]) C dX6_next_142 3 rfl (by rw [ex6_142]; rfl) (by decide) rfl ?_
  refine aw_goto (tgt := 100) C dX6_next_145 (by decide) ?_
  refine aw_lv [3, 1, 0] rfl ?_
  exact hkH s138 x5_139 x6_142 h
theorem tlX6_next_100 (C : ctB p s0 m args c cX6_next 7 RX6 wsX6_next) (K : ctK s0 D A H0 cy) {o : Nat} {ad : Nat → Nat}  {k148 : St → Prop} (hk148 : ∀ (s : St), k148 s → atG p l e rmX6_next s0 m args below meth c 0 0 Z 7 (iW D A H0 (wX6 cy o ad s)) [(0, .ref o)] [] 148) (s : St) (x5 : Int32) (x6 : Int32) (h : lX6_next_100 k148 s x5 x6) : atG p l e rmX6_next s0 m args below meth c 0 0 Z 7 (iW D A H0 (wX6 cy o ad s)) [(0, .ref o), (5, .int x5), (6, .int x6)] [] 100 :=
  lp_W (σ := St × Int32 × Int32) (P := fun q => atG p l e rmX6_next s0 m args below meth c 0 0 Z 7 (iW D A H0 (wX6 cy o ad q.1)) [(0, .ref o), (5, .int q.2.1), (6, .int q.2.2)] [] 100) (fun K2 hK2 q hb => tbX6_next_100 C K hk148 (fun s x5 x6 hk => hK2 (s, x5, x6) hk) q.1 q.2.1 q.2.2 hb) (s, x5, x6) h
theorem eX6_next (C : ctB p s0 m args c cX6_next 7 RX6 wsX6_next) (K : ctK s0 D A H0 cy) {o : Nat} {ad : Nat → Nat} {Q : Int32 → St → Prop} (hQ : ∀ (v : Int32) (u : St), narrow .boolean (.int v) = .int v → Q v u → ∀ pc, decode cX6_next pc = .ok (.ireturn, 1) → atG p l e rmX6_next s0 m args below meth c 0 0 Z 7 (iW D A H0 (wX6 cy o ad u)) [] [.int v] pc) (s : St) (x1 : Int32) (h : pX6_next  s x1 Q) : atG p l e rmX6_next s0 m args below meth c 0 0 Z 7 (iW D A H0 (wX6 cy o ad s)) [(0, .ref o), (1, .int x1)] [] 0 := by
  delta pX6_next at h
  refine aw_iload_n C dX6_next_0 1 rfl ?_
  refine aw_iconst (v := 2) C dX6_next_1 (by decide) ?_
  refine aw_isub C dX6_next_2 ?_
  refine aw_name (fun x2_3 ex2_3 => ?_)
  have h := h x2_3 ex2_3
  refine aw_istore_n (lv' := [(2, .int x2_3), (0, .ref o), (1, .int x1)]) C dX6_next_3 (by decide) rfl ?_
  refine aw_lv [1, 2, 0] rfl ?_
  refine tlX6_next_4 C K ?_ x2_3 h
  intro z31_2 h
  refine aw_iload_n C dX6_next_31 2 rfl ?_
  refine aw_if_ge (tgt := 37) C dX6_next_32 (by decide) (fun c32 => ?_) (fun c32 => ?_)
  · have h := h.1 c32
    refine aw_iload_n C dX6_next_37 1 rfl ?_
    refine aw_iconst (v := 1) C dX6_next_38 (by decide) ?_
    refine aw_isub C dX6_next_39 ?_
    refine aw_name (fun x3_40 ex3_40 => ?_)
    have h := h x3_40 ex3_40
    refine aw_istore_n (lv' := [(3, .int x3_40), (0, .ref o), (1, .int x1), (2, .int z31_2)]) C dX6_next_40 (by decide) rfl ?_
    refine aw_lv [1, 2, 3, 0] rfl ?_
    refine tlX6_next_41 C K ?_ x3_40 h
    intro z62_3 h
    refine aw_aload_n C dX6_next_62 0 rfl ?_
    refine aw_getX6 C K inX6_next_6 dX6_next_63 28 (by decide) qX6_next_fieldLink_RX6_74 0 (wX6_g ..) rfl ?_
    refine aw_iload_n C dX6_next_66 2 rfl ?_
    obtain ⟨b67, h⟩ := h
    refine aw_iald C K dX6_next_67 22 (wX6_g28 ..) b67 ?_
    refine aw_name (fun x4_68 ex4_68 => ?_)
    have h := h x4_68 ex4_68
    refine aw_istore (lv' := [(4, .int x4_68), (0, .ref o), (1, .int x1), (2, .int z31_2), (3, .int z62_3)]) C dX6_next_68 (by decide) rfl ?_
    refine aw_aload_n C dX6_next_70 1 rfl ?_
    refine aw_getX6 C K inX6_next_6 dX6_next_71 28 (by decide) qX6_next_fieldLink_RX6_74 0 (wX6_g ..) rfl ?_
    refine aw_iload_n C dX6_next_74 3 rfl ?_
    refine aw_aload_n C dX6_next_75 1 rfl ?_
    refine aw_getX6 C K inX6_next_6 dX6_next_76 28 (by decide) qX6_next_fieldLink_RX6_74 0 (wX6_g ..) rfl ?_
    refine aw_iload_n C dX6_next_79 4 rfl ?_
    obtain ⟨b80, h⟩ := h
    refine aw_iald C K dX6_next_80 22 (wX6_g28 ..) b80 ?_
    obtain ⟨b81, h⟩ := h
    refine aw_iast C K dX6_next_81 22 (wX6_g28 ..) (wX6_s28 ..) b81 ?_
    obtain ⟨s81, es81⟩ : ∃ z, z = (uA s 28 (upd (sA s 28) z31_2.toNatClampNeg (sA s 28 z62_3.toNatClampNeg))) := ⟨_, rfl⟩
    rw [← es81]
    have h := h s81 es81
    refine aw_aload_n C dX6_next_82 1 rfl ?_
    refine aw_getX6 C K inX6_next_6 dX6_next_83 28 (by decide) qX6_next_fieldLink_RX6_74 0 (wX6_g ..) rfl ?_
    refine aw_iload_n C dX6_next_86 4 rfl ?_
    refine aw_iload C dX6_next_87 0 rfl ?_
    obtain ⟨b89, h⟩ := h
    refine aw_iast C K dX6_next_89 22 (wX6_g28 ..) (wX6_s28 ..) b89 ?_
    obtain ⟨s89, es89⟩ : ∃ z, z = (uA s81 28 (upd (sA s81 28) z62_3.toNatClampNeg x4_68)) := ⟨_, rfl⟩
    rw [← es89]
    have h := h s89 es89
    refine aw_iload_n C dX6_next_90 3 rfl ?_
    refine aw_iconst (v := 1) C dX6_next_91 (by decide) ?_
    refine aw_iadd C dX6_next_92 ?_
    refine aw_name (fun x5_93 ex5_93 => ?_)
    have h := h x5_93 ex5_93
    refine aw_istore (lv' := [(5, .int x5_93), (4, .int x4_68), (0, .ref o), (1, .int x1), (2, .int z31_2), (3, .int z62_3)]) C dX6_next_93 (by decide) rfl ?_
    refine aw_iload_n C dX6_next_95 3 rfl ?_
    refine aw_iconst (v := 1) C dX6_next_96 (by decide) ?_
    refine aw_isub C dX6_next_97 ?_
    refine aw_name (fun x6_98 ex6_98 => ?_)
    have h := h x6_98 ex6_98
    refine aw_istore (lv' := [(6, .int x6_98), (5, .int x5_93), (4, .int x4_68), (0, .ref o), (1, .int x1), (2, .int z31_2), (3, .int z62_3)]) C dX6_next_98 (by decide) rfl ?_
    refine aw_lv [3, 1, 0] rfl ?_
    refine tlX6_next_100 C K ?_ s89 x5_93 x6_98 h
    intro s_148 h
    refine aw_iconst (v := 1) C dX6_next_148 (by decide) ?_
    refine aw_lv [] rfl ?_
    exact hQ 1 s_148 rfl h 149 dX6_next_149
  have h := h.2 c32
  refine aw_iconst (v := 0) C dX6_next_35 (by decide) ?_
  refine aw_lv [] rfl ?_
  exact hQ 0 s rfl h 36 dX6_next_36
end SX6_next
theorem mtX6_next (l : Launch) (D : va_G) (cy : Nat → ClassId) (o : Nat) (ad : Nat → Nat) (s : St) (x1 : Int32) (Q : Int32 → St → Prop) (hw : pX6_next  s x1 Q) : mI l yX6_next wsX6_next rmX6_next D cy [.ref o, .int x1] (wX6 cy o ad s) (wX6 cy o ad) Q :=
  metZ (ty := .boolean) (Wd := wX6 cy o ad) ⟨rfl, rfl⟩ (by decide) rfl (Nat.le_of_ble_eq_true rfl) (fun C K hQ => eX6_next C K hQ s x1 hw)
def rmX6_leastBy : Room := { frames := 0, cells := 0, slots := 0, locals := 0 }
theorem inX6_leastBy_6 : ∀ w ∈ wsX60, w ∈ wsX6_leastBy := fun w h => (List.mem_cons_of_mem _ (List.mem_append_right _ h))
theorem qX6_leastBy_constant_RX6_194_1000000 : Cond.constant RX6 194 (1000000) ∈ wsX6_leastBy := (List.mem_cons_of_mem _ (List.mem_append_left _ (List.mem_of_getElem? (i := 0) rfl)))
theorem qX6_leastBy_fieldLink_RX6_65 : Cond.fieldLink RX6 65 "StageSwitchModel" "left" "[I" ∈ wsX6_leastBy := (List.mem_cons_of_mem _ (List.mem_append_left _ (List.mem_of_getElem? (i := 1) rfl)))
theorem qX6_leastBy_fieldLink_RX6_74 : Cond.fieldLink RX6 74 "StageSwitchModel" "row" "[I" ∈ wsX6_leastBy := (List.mem_cons_of_mem _ (List.mem_append_left _ (List.mem_of_getElem? (i := 2) rfl)))
section SX6_leastBy
variable {p : Program} {l : Launch} {e : Env} {s0 : State} {m : MethodId} {args : Array Value} {below : List Frame} {meth : Method} {c : Code} {D : va_G} {A : Nat → Prop} {H0 : Heap} {cy : Nat → ClassId} {Z : State → Prop}
theorem tbX6_leastBy_5 (C : ctB p s0 m args c cX6_leastBy 4 RX6 wsX6_leastBy) (K : ctK s0 D A H0 cy) {o : Nat} {ad : Nat → Nat}  {s : St} {x1 : Int32} {k57 : Int32 → Prop} (hk57 : ∀ (y2 : Int32), k57 y2 → atG p l e rmX6_leastBy s0 m args below meth c 0 0 Z 4 (iW D A H0 (wX6 cy o ad s)) [(0, .ref o), (2, .int y2)] [] 57) {kH : Int32 → Int32 → Prop} (hkH : ∀ (y2 : Int32) (y3 : Int32), kH y2 y3 → atG p l e rmX6_leastBy s0 m args below meth c 0 0 Z 4 (iW D A H0 (wX6 cy o ad s)) [(0, .ref o), (1, .int x1), (2, .int y2), (3, .int y3)] [] 5) (x2 : Int32) (x3 : Int32) (h : bX6_leastBy_5 s x1 k57 kH x2 x3) : atG p l e rmX6_leastBy s0 m args below meth c 0 0 Z 4 (iW D A H0 (wX6 cy o ad s)) [(0, .ref o), (1, .int x1), (2, .int x2), (3, .int x3)] [] 5 := by
  delta bX6_leastBy_5 at h
  refine aw_iload_n C dX6_leastBy_5 3 rfl ?_
  refine aw_iload_n C dX6_leastBy_6 1 rfl ?_
  refine aw_icmp_ge (tgt := 57) C dX6_leastBy_7 (by decide) (fun c7 => ?_) (fun c7 => ?_)
  · have h := h.1 c7
    refine aw_lv [0, 2] rfl ?_
    exact hk57 x2 h
  have h := h.2 c7
  refine aw_aload_n C dX6_leastBy_10 0 rfl ?_
  refine aw_getX6 C K inX6_leastBy_6 dX6_leastBy_11 24 (by decide) qX6_leastBy_fieldLink_RX6_65 0 (wX6_g ..) rfl ?_
  refine aw_bipush (v := 6) C dX6_leastBy_14 (by decide) ?_
  refine aw_iload_n C dX6_leastBy_16 3 rfl ?_
  refine aw_imul C dX6_leastBy_17 ?_
  refine aw_aload_n C dX6_leastBy_18 0 rfl ?_
  refine aw_getX6 C K inX6_leastBy_6 dX6_leastBy_19 28 (by decide) qX6_leastBy_fieldLink_RX6_74 0 (wX6_g ..) rfl ?_
  refine aw_iload_n C dX6_leastBy_22 3 rfl ?_
  obtain ⟨b23, h⟩ := h
  refine aw_iald C K dX6_leastBy_23 22 (wX6_g28 ..) b23 ?_
  refine aw_iadd C dX6_leastBy_24 ?_
  obtain ⟨b25, h⟩ := h
  refine aw_iald C K dX6_leastBy_25 19 (wX6_g24 ..) b25 ?_
  refine aw_iload_n C dX6_leastBy_26 2 rfl ?_
  refine aw_icmp_ge (tgt := 49) C dX6_leastBy_27 (by decide) (fun c27 => ?_) (fun c27 => ?_)
  · have h := h.1 c27
    refine aw_iload_n C dX6_leastBy_49 2 rfl ?_
    refine aw_istore_n (lv' := [(2, .int x2), (0, .ref o), (1, .int x1), (3, .int x3)]) C dX6_leastBy_50 (by decide) rfl ?_
    obtain ⟨x3_51, ex3_51⟩ : ∃ y : Int32, y = x3 + 1 := ⟨_, rfl⟩
    have h := h x3_51 ex3_51
    refine aw_iinc (v := x3_51) (lv' := [(3, .int x3_51), (2, .int x2), (0, .ref o), (1, .int x1)]) C dX6_leastBy_51 3 rfl (by rw [ex3_51]; rfl) (by decide) rfl ?_
    refine aw_goto (tgt := 5) C dX6_leastBy_54 (by decide) ?_
    refine aw_lv [2, 3, 1, 0] rfl ?_
    exact hkH x2 x3_51 h
  have h := h.2 c27
  refine aw_aload_n C dX6_leastBy_30 0 rfl ?_
  refine aw_getX6 C K inX6_leastBy_6 dX6_leastBy_31 24 (by decide) qX6_leastBy_fieldLink_RX6_65 0 (wX6_g ..) rfl ?_
  refine aw_bipush (v := 6) C dX6_leastBy_34 (by decide) ?_
  refine aw_iload_n C dX6_leastBy_36 3 rfl ?_
  refine aw_imul C dX6_leastBy_37 ?_
  refine aw_aload_n C dX6_leastBy_38 0 rfl ?_
  refine aw_getX6 C K inX6_leastBy_6 dX6_leastBy_39 28 (by decide) qX6_leastBy_fieldLink_RX6_74 0 (wX6_g ..) rfl ?_
  refine aw_iload_n C dX6_leastBy_42 3 rfl ?_
  obtain ⟨b43, h⟩ := h
  refine aw_iald C K dX6_leastBy_43 22 (wX6_g28 ..) b43 ?_
  refine aw_iadd C dX6_leastBy_44 ?_
  obtain ⟨b45, h⟩ := h
  refine aw_iald C K dX6_leastBy_45 19 (wX6_g24 ..) b45 ?_
  refine aw_goto (tgt := 50) C dX6_leastBy_46 (by decide) ?_
  refine aw_name (fun x2_50 ex2_50 => ?_)
  have h := h x2_50 ex2_50
  refine aw_istore_n (lv' := [(2, .int x2_50), (0, .ref o), (1, .int x1), (3, .int x3)]) C dX6_leastBy_50 (by decide) rfl ?_
  obtain ⟨x3_51, ex3_51⟩ : ∃ y : Int32, y = x3 + 1 := ⟨_, rfl⟩
  have h := h x3_51 ex3_51
  refine aw_iinc (v := x3_51) (lv' := [(3, .int x3_51), (2, .int x2_50), (0, .ref o), (1, .int x1)]) C dX6_leastBy_51 3 rfl (by rw [ex3_51]; rfl) (by decide) rfl ?_
  refine aw_goto (tgt := 5) C dX6_leastBy_54 (by decide) ?_
  refine aw_lv [2, 3, 1, 0] rfl ?_
  exact hkH x2_50 x3_51 h
theorem tlX6_leastBy_5 (C : ctB p s0 m args c cX6_leastBy 4 RX6 wsX6_leastBy) (K : ctK s0 D A H0 cy) {o : Nat} {ad : Nat → Nat}  {s : St} {x1 : Int32} {k57 : Int32 → Prop} (hk57 : ∀ (y2 : Int32), k57 y2 → atG p l e rmX6_leastBy s0 m args below meth c 0 0 Z 4 (iW D A H0 (wX6 cy o ad s)) [(0, .ref o), (2, .int y2)] [] 57) (x2 : Int32) (x3 : Int32) (h : lX6_leastBy_5 s x1 k57 x2 x3) : atG p l e rmX6_leastBy s0 m args below meth c 0 0 Z 4 (iW D A H0 (wX6 cy o ad s)) [(0, .ref o), (1, .int x1), (2, .int x2), (3, .int x3)] [] 5 :=
  lp_W (σ := Int32 × Int32) (P := fun q => atG p l e rmX6_leastBy s0 m args below meth c 0 0 Z 4 (iW D A H0 (wX6 cy o ad s)) [(0, .ref o), (1, .int x1), (2, .int q.1), (3, .int q.2)] [] 5) (fun K2 hK2 q hb => tbX6_leastBy_5 C K hk57 (fun x2 x3 hk => hK2 (x2, x3) hk) q.1 q.2 hb) (x2, x3) h
theorem eX6_leastBy (C : ctB p s0 m args c cX6_leastBy 4 RX6 wsX6_leastBy) (K : ctK s0 D A H0 cy) {o : Nat} {ad : Nat → Nat} {Q : Int32 → Prop} (s : St) (hQ : ∀ (v : Int32), Q v → ∀ pc, decode cX6_leastBy pc = .ok (.ireturn, 1) → atG p l e rmX6_leastBy s0 m args below meth c 0 0 Z 4 (iW D A H0 (wX6 cy o ad s)) [] [.int v] pc) (x1 : Int32) (h : pX6_leastBy  s x1 Q) : atG p l e rmX6_leastBy s0 m args below meth c 0 0 Z 4 (iW D A H0 (wX6 cy o ad s)) [(0, .ref o), (1, .int x1)] [] 0 := by
  delta pX6_leastBy at h
  refine aw_ldc (v := 1000000) C dX6_leastBy_0 qX6_leastBy_constant_RX6_194_1000000 ?_
  refine aw_istore_n (lv' := [(2, .int 1000000), (0, .ref o), (1, .int x1)]) C dX6_leastBy_2 (by decide) rfl ?_
  refine aw_iconst (v := 0) C dX6_leastBy_3 (by decide) ?_
  refine aw_istore_n (lv' := [(3, .int 0), (2, .int 1000000), (0, .ref o), (1, .int x1)]) C dX6_leastBy_4 (by decide) rfl ?_
  refine aw_lv [2, 3, 1, 0] rfl ?_
  refine tlX6_leastBy_5 C K ?_ 1000000 0 h
  intro z57_2 h
  refine aw_iload_n C dX6_leastBy_57 1 rfl ?_
  refine aw_lv [] rfl ?_
  exact hQ z57_2 h 58 dX6_leastBy_58
end SX6_leastBy
theorem mtX6_leastBy (l : Launch) (D : va_G) (cy : Nat → ClassId) (o : Nat) (ad : Nat → Nat) (s : St) (x1 : Int32) (Q : Int32 → Prop) (hw : pX6_leastBy  s x1 Q) : mI l yX6_leastBy wsX6_leastBy rmX6_leastBy D cy [.ref o, .int x1] (wX6 cy o ad s) (wX6 cy o ad) (fun r u => Q r ∧ u = s) :=
  metI (Wd := wX6 cy o ad) ⟨rfl, rfl⟩ (by decide) rfl (Nat.le_of_ble_eq_true rfl) (fun C K hQ => eX6_leastBy C K s (fun v hq => hQ v s ⟨hq, rfl⟩) x1 hw)
def rmX6_findParts : Room := { frames := 1, cells := 0, slots := 0, locals := 26 }
theorem inX6_findParts_6 : ∀ w ∈ wsX60, w ∈ wsX6_findParts := fun w h => (List.mem_cons_of_mem _ (List.mem_append_right _ h))
theorem qX6_findParts_fieldLink_RX6_195 : Cond.fieldLink RX6 195 "StageSwitchModel" "parts" "I" ∈ wsX6_findParts := (List.mem_cons_of_mem _ (List.mem_append_left _ (List.mem_of_getElem? (i := 0) rfl)))
theorem qX6_findParts_fieldLink_RX6_74 : Cond.fieldLink RX6 74 "StageSwitchModel" "row" "[I" ∈ wsX6_findParts := (List.mem_cons_of_mem _ (List.mem_append_left _ (List.mem_of_getElem? (i := 1) rfl)))
theorem qX6_findParts_fieldLink_RX6_68 : Cond.fieldLink RX6 68 "StageSwitchModel" "partOrder" "[I" ∈ wsX6_findParts := (List.mem_cons_of_mem _ (List.mem_append_left _ (List.mem_of_getElem? (i := 2) rfl)))
theorem qX6_findParts_fieldLink_RX6_65 : Cond.fieldLink RX6 65 "StageSwitchModel" "left" "[I" ∈ wsX6_findParts := (List.mem_cons_of_mem _ (List.mem_append_left _ (List.mem_of_getElem? (i := 3) rfl)))
theorem qX6_findParts_fieldLink_RX6_71 : Cond.fieldLink RX6 71 "StageSwitchModel" "often" "[I" ∈ wsX6_findParts := (List.mem_cons_of_mem _ (List.mem_append_left _ (List.mem_of_getElem? (i := 4) rfl)))
section SX6_findParts
variable {p : Program} {l : Launch} {e : Env} {s0 : State} {m : MethodId} {args : Array Value} {below : List Frame} {meth : Method} {c : Code} {D : va_G} {A : Nat → Prop} {H0 : Heap} {cy : Nat → ClassId} {Z : State → Prop}
theorem tbX6_findParts_14 (C : ctB p s0 m args c cX6_findParts 7 RX6 wsX6_findParts) (K : ctK s0 D A H0 cy) {o : Nat} {ad : Nat → Nat}  {x1 : Int32} {x3 : Int32} {k35 : St → Prop} (hk35 : ∀ (s : St), k35 s → atG p l e rmX6_findParts s0 m args below meth c 0 0 Z 7 (iW D A H0 (wX6 cy o ad s)) [(0, .ref o), (1, .int x1), (3, .int x3)] [] 35) {kH : St → Int32 → Prop} (hkH : ∀ (s : St) (y4 : Int32), kH s y4 → atG p l e rmX6_findParts s0 m args below meth c 0 0 Z 7 (iW D A H0 (wX6 cy o ad s)) [(0, .ref o), (1, .int x1), (3, .int x3), (4, .int y4)] [] 14) (s : St) (x4 : Int32) (h : bX6_findParts_14 x1 x3 k35 kH s x4) : atG p l e rmX6_findParts s0 m args below meth c 0 0 Z 7 (iW D A H0 (wX6 cy o ad s)) [(0, .ref o), (1, .int x1), (3, .int x3), (4, .int x4)] [] 14 := by
  delta bX6_findParts_14 at h
  refine aw_iload C dX6_findParts_14 3 rfl ?_
  refine aw_iload_n C dX6_findParts_16 1 rfl ?_
  refine aw_icmp_ge (tgt := 35) C dX6_findParts_17 (by decide) (fun c17 => ?_) (fun c17 => ?_)
  · have h := h.1 c17
    refine aw_lv [0, 1, 2] rfl ?_
    exact hk35 s h
  have h := h.2 c17
  refine aw_aload_n C dX6_findParts_20 0 rfl ?_
  refine aw_getX6 C K inX6_findParts_6 dX6_findParts_21 28 (by decide) qX6_findParts_fieldLink_RX6_74 0 (wX6_g ..) rfl ?_
  refine aw_iload C dX6_findParts_24 3 rfl ?_
  refine aw_iload C dX6_findParts_26 3 rfl ?_
  obtain ⟨b28, h⟩ := h
  refine aw_iast C K dX6_findParts_28 22 (wX6_g28 ..) (wX6_s28 ..) b28 ?_
  obtain ⟨s28, es28⟩ : ∃ z, z = (uA s 28 (upd (sA s 28) x4.toNatClampNeg x4)) := ⟨_, rfl⟩
  rw [← es28]
  have h := h s28 es28
  obtain ⟨x4_29, ex4_29⟩ : ∃ y : Int32, y = x4 + 1 := ⟨_, rfl⟩
  have h := h x4_29 ex4_29
  refine aw_iinc (v := x4_29) (lv' := [(4, .int x4_29), (0, .ref o), (1, .int x1), (3, .int x3)]) C dX6_findParts_29 3 rfl (by rw [ex4_29]; rfl) (by decide) rfl ?_
  refine aw_goto (tgt := 14) C dX6_findParts_32 (by decide) ?_
  refine aw_lv [1, 2, 3, 0] rfl ?_
  exact hkH s28 x4_29 h
theorem tlX6_findParts_14 (C : ctB p s0 m args c cX6_findParts 7 RX6 wsX6_findParts) (K : ctK s0 D A H0 cy) {o : Nat} {ad : Nat → Nat}  {x1 : Int32} {x3 : Int32} {k35 : St → Prop} (hk35 : ∀ (s : St), k35 s → atG p l e rmX6_findParts s0 m args below meth c 0 0 Z 7 (iW D A H0 (wX6 cy o ad s)) [(0, .ref o), (1, .int x1), (3, .int x3)] [] 35) (s : St) (x4 : Int32) (h : lX6_findParts_14 x1 x3 k35 s x4) : atG p l e rmX6_findParts s0 m args below meth c 0 0 Z 7 (iW D A H0 (wX6 cy o ad s)) [(0, .ref o), (1, .int x1), (3, .int x3), (4, .int x4)] [] 14 :=
  lp_W (σ := St × Int32) (P := fun q => atG p l e rmX6_findParts s0 m args below meth c 0 0 Z 7 (iW D A H0 (wX6 cy o ad q.1)) [(0, .ref o), (1, .int x1), (3, .int x3), (4, .int q.2)] [] 14) (fun K2 hK2 q hb => tbX6_findParts_14 C K hk35 (fun s x4 hk => hK2 (s, x4) hk) q.1 q.2 hb) (s, x4) h
theorem tbX6_findParts_50 (C : ctB p s0 m args c cX6_findParts 7 RX6 wsX6_findParts) (K : ctK s0 D A H0 cy) {o : Nat} {ad : Nat → Nat}  {x1 : Int32} {x3 : Int32} {k81 : St → Prop} (hk81 : ∀ (s : St), k81 s → atG p l e rmX6_findParts s0 m args below meth c 0 0 Z 7 (iW D A H0 (wX6 cy o ad s)) [(0, .ref o), (1, .int x1), (3, .int x3)] [] 81) {kH : St → Int32 → Prop} (hkH : ∀ (s : St) (y4 : Int32), kH s y4 → atG p l e rmX6_findParts s0 m args below meth c 0 0 Z 7 (iW D A H0 (wX6 cy o ad s)) [(0, .ref o), (1, .int x1), (3, .int x3), (4, .int y4)] [] 50) (s : St) (x4 : Int32) (h : bX6_findParts_50 x1 x3 k81 kH s x4) : atG p l e rmX6_findParts s0 m args below meth c 0 0 Z 7 (iW D A H0 (wX6 cy o ad s)) [(0, .ref o), (1, .int x1), (3, .int x3), (4, .int x4)] [] 50 := by
  delta bX6_findParts_50 at h
  refine aw_iload C dX6_findParts_50 3 rfl ?_
  refine aw_if_eq (tgt := 81) C dX6_findParts_52 (by decide) (fun c52 => ?_) (fun c52 => ?_)
  · have h := h.1 c52
    refine aw_lv [0, 1, 2] rfl ?_
    exact hk81 s h
  have h := h.2 c52
  refine aw_aload_n C dX6_findParts_55 0 rfl ?_
  refine aw_iload_n C dX6_findParts_56 1 rfl ?_
  refine aw_callI (As := [.int x1]) (rest := []) C K (mtX6_next l D cy o ad s x1 _ h) (cwV 1 C.2.2.2.2.1 gX6_findParts_X6_next rfl rfl rfl (by decide +kernel) ⟨Nat.le_of_ble_eq_true rfl, Nat.le_of_ble_eq_true rfl⟩) 0 6 (wX6_g ..) rfl rfl rfl rfl (Nat.le_of_ble_eq_true rfl) ⟨Nat.le_of_ble_eq_true rfl, Nat.le_of_ble_eq_true rfl⟩ dX6_findParts_57 (fun r57 s57 h => ?_)
  refine aw_if_eq (tgt := 75) C dX6_findParts_60 (by decide) (fun c60 => ?_) (fun c60 => ?_)
  · have h := h.1 c60
    refine aw_iconst (v := 0) C dX6_findParts_75 (by decide) ?_
    refine aw_istore (lv' := [(4, .int 0), (0, .ref o), (1, .int x1), (3, .int x3)]) C dX6_findParts_76 (by decide) rfl ?_
    refine aw_goto (tgt := 50) C dX6_findParts_78 (by decide) ?_
    refine aw_lv [1, 2, 3, 0] rfl ?_
    exact hkH s57 0 h
  have h := h.2 c60
  refine aw_aload_n C dX6_findParts_63 0 rfl ?_
  refine aw_iload_n C dX6_findParts_64 1 rfl ?_
  refine aw_callI (As := [.int x1]) (rest := []) C K (mtX6_leastBy l D cy o ad s57 x1 _ h) (cwV 1 C.2.2.2.2.1 gX6_findParts_X6_leastBy rfl rfl rfl (by decide +kernel) ⟨Nat.le_of_ble_eq_true rfl, Nat.le_of_ble_eq_true rfl⟩) 0 6 (wX6_g ..) rfl rfl rfl rfl (Nat.le_of_ble_eq_true rfl) ⟨Nat.le_of_ble_eq_true rfl, Nat.le_of_ble_eq_true rfl⟩ dX6_findParts_65 (fun r65 s65 h => ?_)
  obtain ⟨h, hu65⟩ := h
  rw [hu65]
  refine aw_if_ne (tgt := 75) C dX6_findParts_68 (by decide) (fun c68 => ?_) (fun c68 => ?_)
  · have h := h.2 c68
    refine aw_iconst (v := 0) C dX6_findParts_75 (by decide) ?_
    refine aw_istore (lv' := [(4, .int 0), (0, .ref o), (1, .int x1), (3, .int x3)]) C dX6_findParts_76 (by decide) rfl ?_
    refine aw_goto (tgt := 50) C dX6_findParts_78 (by decide) ?_
    refine aw_lv [1, 2, 3, 0] rfl ?_
    exact hkH s57 0 h
  have h := h.1 c68
  refine aw_iconst (v := 1) C dX6_findParts_71 (by decide) ?_
  refine aw_goto (tgt := 76) C dX6_findParts_72 (by decide) ?_
  refine aw_istore (lv' := [(4, .int 1), (0, .ref o), (1, .int x1), (3, .int x3)]) C dX6_findParts_76 (by decide) rfl ?_
  refine aw_goto (tgt := 50) C dX6_findParts_78 (by decide) ?_
  refine aw_lv [1, 2, 3, 0] rfl ?_
  exact hkH s57 1 h
theorem tlX6_findParts_50 (C : ctB p s0 m args c cX6_findParts 7 RX6 wsX6_findParts) (K : ctK s0 D A H0 cy) {o : Nat} {ad : Nat → Nat}  {x1 : Int32} {x3 : Int32} {k81 : St → Prop} (hk81 : ∀ (s : St), k81 s → atG p l e rmX6_findParts s0 m args below meth c 0 0 Z 7 (iW D A H0 (wX6 cy o ad s)) [(0, .ref o), (1, .int x1), (3, .int x3)] [] 81) (s : St) (x4 : Int32) (h : lX6_findParts_50 x1 x3 k81 s x4) : atG p l e rmX6_findParts s0 m args below meth c 0 0 Z 7 (iW D A H0 (wX6 cy o ad s)) [(0, .ref o), (1, .int x1), (3, .int x3), (4, .int x4)] [] 50 :=
  lp_W (σ := St × Int32) (P := fun q => atG p l e rmX6_findParts s0 m args below meth c 0 0 Z 7 (iW D A H0 (wX6 cy o ad q.1)) [(0, .ref o), (1, .int x1), (3, .int x3), (4, .int q.2)] [] 50) (fun K2 hK2 q hb => tbX6_findParts_50 C K hk81 (fun s x4 hk => hK2 (s, x4) hk) q.1 q.2 hb) (s, x4) h
theorem tbX6_findParts_91 (C : ctB p s0 m args c cX6_findParts 7 RX6 wsX6_findParts) (K : ctK s0 D A H0 cy) {o : Nat} {ad : Nat → Nat}  {x1 : Int32} {x3 : Int32} {x5 : Int32} {k148 : St → Prop} (hk148 : ∀ (s : St), k148 s → atG p l e rmX6_findParts s0 m args below meth c 0 0 Z 7 (iW D A H0 (wX6 cy o ad s)) [(0, .ref o), (1, .int x1), (3, .int x3), (5, .int x5)] [] 148) {kH : St → Int32 → Prop} (hkH : ∀ (s : St) (y6 : Int32), kH s y6 → atG p l e rmX6_findParts s0 m args below meth c 0 0 Z 7 (iW D A H0 (wX6 cy o ad s)) [(0, .ref o), (1, .int x1), (3, .int x3), (5, .int x5), (6, .int y6)] [] 91) (s : St) (x6 : Int32) (h : bX6_findParts_91 x1 x3 x5 k148 kH s x6) : atG p l e rmX6_findParts s0 m args below meth c 0 0 Z 7 (iW D A H0 (wX6 cy o ad s)) [(0, .ref o), (1, .int x1), (3, .int x3), (5, .int x5), (6, .int x6)] [] 91 := by
  delta bX6_findParts_91 at h
  refine aw_iload C dX6_findParts_91 4 rfl ?_
  refine aw_iload_n C dX6_findParts_93 1 rfl ?_
  refine aw_icmp_ge (tgt := 148) C dX6_findParts_94 (by decide) (fun c94 => ?_) (fun c94 => ?_)
  · have h := h.1 c94
    refine aw_lv [0, 1, 2, 3] rfl ?_
    exact hk148 s h
  have h := h.2 c94
  refine aw_aload_n C dX6_findParts_97 0 rfl ?_
  refine aw_getX6 C K inX6_findParts_6 dX6_findParts_98 26 (by decide) qX6_findParts_fieldLink_RX6_68 0 (wX6_g ..) rfl ?_
  refine aw_bipush (v := 6) C dX6_findParts_101 (by decide) ?_
  refine aw_aload_n C dX6_findParts_103 0 rfl ?_
  refine aw_getX6 C K inX6_findParts_6 dX6_findParts_104 25 (by decide) qX6_findParts_fieldLink_RX6_195 0 (wX6_g ..) rfl ?_
  refine aw_imul C dX6_findParts_107 ?_
  refine aw_iload C dX6_findParts_108 4 rfl ?_
  refine aw_iadd C dX6_findParts_110 ?_
  refine aw_aload_n C dX6_findParts_111 0 rfl ?_
  refine aw_getX6 C K inX6_findParts_6 dX6_findParts_112 28 (by decide) qX6_findParts_fieldLink_RX6_74 0 (wX6_g ..) rfl ?_
  refine aw_iload C dX6_findParts_115 4 rfl ?_
  obtain ⟨b117, h⟩ := h
  refine aw_iald C K dX6_findParts_117 22 (wX6_g28 ..) b117 ?_
  obtain ⟨b118, h⟩ := h
  refine aw_iast C K dX6_findParts_118 20 (wX6_g26 ..) (wX6_s26 ..) b118 ?_
  obtain ⟨s118, es118⟩ : ∃ z, z = (uA s 26 (upd (sA s 26) ((6 * (sF s 25)) + x6).toNatClampNeg (sA s 28 x6.toNatClampNeg))) := ⟨_, rfl⟩
  rw [← es118]
  have h := h s118 es118
  refine aw_aload_n C dX6_findParts_119 0 rfl ?_
  refine aw_getX6 C K inX6_findParts_6 dX6_findParts_120 24 (by decide) qX6_findParts_fieldLink_RX6_65 0 (wX6_g ..) rfl ?_
  refine aw_bipush (v := 6) C dX6_findParts_123 (by decide) ?_
  refine aw_iload C dX6_findParts_125 4 rfl ?_
  refine aw_imul C dX6_findParts_127 ?_
  refine aw_aload_n C dX6_findParts_128 0 rfl ?_
  refine aw_getX6 C K inX6_findParts_6 dX6_findParts_129 28 (by decide) qX6_findParts_fieldLink_RX6_74 0 (wX6_g ..) rfl ?_
  refine aw_iload C dX6_findParts_132 4 rfl ?_
  obtain ⟨b134, h⟩ := h
  refine aw_iald C K dX6_findParts_134 22 (wX6_g28 ..) b134 ?_
  refine aw_iadd C dX6_findParts_135 ?_
  refine aw_dup2 C dX6_findParts_136 rfl rfl ?_
  obtain ⟨b137, h⟩ := h
  refine aw_iald C K dX6_findParts_137 19 (wX6_g24 ..) b137 ?_
  refine aw_iload C dX6_findParts_138 3 rfl ?_
  refine aw_isub C dX6_findParts_140 ?_
  refine aw_name (fun v140 ev140 => ?_)
  have h := h v140 ev140
  obtain ⟨b141, h⟩ := h
  refine aw_iast C K dX6_findParts_141 19 (wX6_g24 ..) (wX6_s24 ..) b141 ?_
  obtain ⟨s141, es141⟩ : ∃ z, z = (uA s118 24 (upd (sA s118 24) ((6 * x6) + (sA s118 28 x6.toNatClampNeg)).toNatClampNeg v140)) := ⟨_, rfl⟩
  rw [← es141]
  have h := h s141 es141
  obtain ⟨x6_142, ex6_142⟩ : ∃ y : Int32, y = x6 + 1 := ⟨_, rfl⟩
  have h := h x6_142 ex6_142
  refine aw_iinc (v := x6_142) (lv' := [(6, .int x6_142), (0, .ref o), (1, .int x1), (3, .int x3), (5, .int x5)]) C dX6_findParts_142 4 rfl (by rw [ex6_142]; rfl) (by decide) rfl ?_
  refine aw_goto (tgt := 91) C dX6_findParts_145 (by decide) ?_
  refine aw_lv [1, 2, 3, 4, 0] rfl ?_
  exact hkH s141 x6_142 h
theorem tlX6_findParts_91 (C : ctB p s0 m args c cX6_findParts 7 RX6 wsX6_findParts) (K : ctK s0 D A H0 cy) {o : Nat} {ad : Nat → Nat}  {x1 : Int32} {x3 : Int32} {x5 : Int32} {k148 : St → Prop} (hk148 : ∀ (s : St), k148 s → atG p l e rmX6_findParts s0 m args below meth c 0 0 Z 7 (iW D A H0 (wX6 cy o ad s)) [(0, .ref o), (1, .int x1), (3, .int x3), (5, .int x5)] [] 148) (s : St) (x6 : Int32) (h : lX6_findParts_91 x1 x3 x5 k148 s x6) : atG p l e rmX6_findParts s0 m args below meth c 0 0 Z 7 (iW D A H0 (wX6 cy o ad s)) [(0, .ref o), (1, .int x1), (3, .int x3), (5, .int x5), (6, .int x6)] [] 91 :=
  lp_W (σ := St × Int32) (P := fun q => atG p l e rmX6_findParts s0 m args below meth c 0 0 Z 7 (iW D A H0 (wX6 cy o ad q.1)) [(0, .ref o), (1, .int x1), (3, .int x3), (5, .int x5), (6, .int q.2)] [] 91) (fun K2 hK2 q hb => tbX6_findParts_91 C K hk148 (fun s x6 hk => hK2 (s, x6) hk) q.1 q.2 hb) (s, x6) h
theorem tbX6_findParts_7 (C : ctB p s0 m args c cX6_findParts 7 RX6 wsX6_findParts) (K : ctK s0 D A H0 cy) {o : Nat} {ad : Nat → Nat}  {x1 : Int32} {k177 : St → Prop} (hk177 : ∀ (s : St), k177 s → atG p l e rmX6_findParts s0 m args below meth c 0 0 Z 7 (iW D A H0 (wX6 cy o ad s)) [(0, .ref o)] [] 177) {kH : St → Int32 → Prop} (hkH : ∀ (s : St) (y3 : Int32), kH s y3 → atG p l e rmX6_findParts s0 m args below meth c 0 0 Z 7 (iW D A H0 (wX6 cy o ad s)) [(0, .ref o), (1, .int x1), (3, .int y3)] [] 7) (s : St) (x3 : Int32) (h : bX6_findParts_7 x1 k177 kH s x3) : atG p l e rmX6_findParts s0 m args below meth c 0 0 Z 7 (iW D A H0 (wX6 cy o ad s)) [(0, .ref o), (1, .int x1), (3, .int x3)] [] 7 := by
  delta bX6_findParts_7 at h
  refine aw_iload_n C dX6_findParts_7 2 rfl ?_
  refine aw_if_le (tgt := 177) C dX6_findParts_8 (by decide) (fun c8 => ?_) (fun c8 => ?_)
  · have h := h.1 c8
    refine aw_lv [0] rfl ?_
    exact hk177 s h
  have h := h.2 c8
  refine aw_iconst (v := 0) C dX6_findParts_11 (by decide) ?_
  refine aw_istore (lv' := [(4, .int 0), (0, .ref o), (1, .int x1), (3, .int x3)]) C dX6_findParts_12 (by decide) rfl ?_
  refine aw_lv [1, 2, 3, 0] rfl ?_
  refine tlX6_findParts_14 C K ?_ s 0 h
  intro s_35 h
  refine aw_aload_n C dX6_findParts_35 0 rfl ?_
  refine aw_iload_n C dX6_findParts_36 1 rfl ?_
  refine aw_callI (As := [.int x1]) (rest := []) C K (mtX6_leastBy l D cy o ad s_35 x1 _ h) (cwV 1 C.2.2.2.2.1 gX6_findParts_X6_leastBy rfl rfl rfl (by decide +kernel) ⟨Nat.le_of_ble_eq_true rfl, Nat.le_of_ble_eq_true rfl⟩) 0 6 (wX6_g ..) rfl rfl rfl rfl (Nat.le_of_ble_eq_true rfl) ⟨Nat.le_of_ble_eq_true rfl, Nat.le_of_ble_eq_true rfl⟩ dX6_findParts_37 (fun r37 s37 h => ?_)
  obtain ⟨h, hu37⟩ := h
  rw [hu37]
  refine aw_if_ne (tgt := 47) C dX6_findParts_40 (by decide) (fun c40 => ?_) (fun c40 => ?_)
  · have h := h.2 c40
    refine aw_iconst (v := 0) C dX6_findParts_47 (by decide) ?_
    refine aw_istore (lv' := [(4, .int 0), (0, .ref o), (1, .int x1), (3, .int x3)]) C dX6_findParts_48 (by decide) rfl ?_
    refine aw_lv [1, 2, 3, 0] rfl ?_
    refine tlX6_findParts_50 C K ?_ s_35 0 h
    intro s_81 h
    refine aw_aload_n C dX6_findParts_81 0 rfl ?_
    refine aw_iload_n C dX6_findParts_82 1 rfl ?_
    refine aw_callI (As := [.int x1]) (rest := []) C K (mtX6_leastBy l D cy o ad s_81 x1 _ h) (cwV 1 C.2.2.2.2.1 gX6_findParts_X6_leastBy rfl rfl rfl (by decide +kernel) ⟨Nat.le_of_ble_eq_true rfl, Nat.le_of_ble_eq_true rfl⟩) 0 6 (wX6_g ..) rfl rfl rfl rfl (Nat.le_of_ble_eq_true rfl) ⟨Nat.le_of_ble_eq_true rfl, Nat.le_of_ble_eq_true rfl⟩ dX6_findParts_83 (fun r83 s83 h => ?_)
    obtain ⟨h, hu83⟩ := h
    rw [hu83]
    refine aw_istore (lv' := [(5, .int r83), (0, .ref o), (1, .int x1), (3, .int x3)]) C dX6_findParts_86 (by decide) rfl ?_
    refine aw_iconst (v := 0) C dX6_findParts_88 (by decide) ?_
    refine aw_istore (lv' := [(6, .int 0), (5, .int r83), (0, .ref o), (1, .int x1), (3, .int x3)]) C dX6_findParts_89 (by decide) rfl ?_
    refine aw_lv [2, 3, 4, 1, 0] rfl ?_
    refine tlX6_findParts_91 C K ?_ s_81 0 h
    intro s_148 h
    refine aw_aload_n C dX6_findParts_148 0 rfl ?_
    refine aw_getX6 C K inX6_findParts_6 dX6_findParts_149 27 (by decide) qX6_findParts_fieldLink_RX6_71 0 (wX6_g ..) rfl ?_
    refine aw_aload_n C dX6_findParts_152 0 rfl ?_
    refine aw_getX6 C K inX6_findParts_6 dX6_findParts_153 25 (by decide) qX6_findParts_fieldLink_RX6_195 0 (wX6_g ..) rfl ?_
    refine aw_iload C dX6_findParts_156 3 rfl ?_
    obtain ⟨b158, h⟩ := h
    refine aw_iast C K dX6_findParts_158 21 (wX6_g27 ..) (wX6_s27 ..) b158 ?_
    obtain ⟨s158, es158⟩ : ∃ z, z = (uA s_148 27 (upd (sA s_148 27) (sF s_148 25).toNatClampNeg r83)) := ⟨_, rfl⟩
    rw [← es158]
    have h := h s158 es158
    refine aw_aload_n C dX6_findParts_159 0 rfl ?_
    refine aw_dup C dX6_findParts_160 rfl ?_
    refine aw_getX6 C K inX6_findParts_6 dX6_findParts_161 25 (by decide) qX6_findParts_fieldLink_RX6_195 0 (wX6_g ..) rfl ?_
    refine aw_iconst (v := 1) C dX6_findParts_164 (by decide) ?_
    refine aw_iadd C dX6_findParts_165 ?_
    refine aw_putX6 (ty := .int) C K inX6_findParts_6 dX6_findParts_166 25 (by decide) qX6_findParts_fieldLink_RX6_195 0 (wX6_g ..) rfl (by decide +kernel) rfl rfl (Nat.le_of_ble_eq_true rfl) (wX6_p25 ..) ?_
    obtain ⟨s166, es166⟩ : ∃ z, z = (uF s158 25 ((sF s158 25) + 1)) := ⟨_, rfl⟩
    rw [← es166]
    have h := h s166 es166
    refine aw_iload_n C dX6_findParts_169 2 rfl ?_
    refine aw_iload C dX6_findParts_170 3 rfl ?_
    refine aw_isub C dX6_findParts_172 ?_
    refine aw_name (fun x3_173 ex3_173 => ?_)
    have h := h x3_173 ex3_173
    refine aw_istore_n (lv' := [(3, .int x3_173), (0, .ref o), (1, .int x1), (5, .int r83)]) C dX6_findParts_173 (by decide) rfl ?_
    refine aw_goto (tgt := 7) C dX6_findParts_174 (by decide) ?_
    refine aw_lv [1, 2, 0] rfl ?_
    exact hkH s166 x3_173 h
  have h := h.1 c40
  refine aw_iconst (v := 1) C dX6_findParts_43 (by decide) ?_
  refine aw_goto (tgt := 48) C dX6_findParts_44 (by decide) ?_
  refine aw_istore (lv' := [(4, .int 1), (0, .ref o), (1, .int x1), (3, .int x3)]) C dX6_findParts_48 (by decide) rfl ?_
  refine aw_lv [1, 2, 3, 0] rfl ?_
  refine tlX6_findParts_50 C K ?_ s_35 1 h
  intro s_81 h
  refine aw_aload_n C dX6_findParts_81 0 rfl ?_
  refine aw_iload_n C dX6_findParts_82 1 rfl ?_
  refine aw_callI (As := [.int x1]) (rest := []) C K (mtX6_leastBy l D cy o ad s_81 x1 _ h) (cwV 1 C.2.2.2.2.1 gX6_findParts_X6_leastBy rfl rfl rfl (by decide +kernel) ⟨Nat.le_of_ble_eq_true rfl, Nat.le_of_ble_eq_true rfl⟩) 0 6 (wX6_g ..) rfl rfl rfl rfl (Nat.le_of_ble_eq_true rfl) ⟨Nat.le_of_ble_eq_true rfl, Nat.le_of_ble_eq_true rfl⟩ dX6_findParts_83 (fun r83 s83 h => ?_)
  obtain ⟨h, hu83⟩ := h
  rw [hu83]
  refine aw_istore (lv' := [(5, .int r83), (0, .ref o), (1, .int x1), (3, .int x3)]) C dX6_findParts_86 (by decide) rfl ?_
  refine aw_iconst (v := 0) C dX6_findParts_88 (by decide) ?_
  refine aw_istore (lv' := [(6, .int 0), (5, .int r83), (0, .ref o), (1, .int x1), (3, .int x3)]) C dX6_findParts_89 (by decide) rfl ?_
  refine aw_lv [2, 3, 4, 1, 0] rfl ?_
  refine tlX6_findParts_91 C K ?_ s_81 0 h
  intro s_148 h
  refine aw_aload_n C dX6_findParts_148 0 rfl ?_
  refine aw_getX6 C K inX6_findParts_6 dX6_findParts_149 27 (by decide) qX6_findParts_fieldLink_RX6_71 0 (wX6_g ..) rfl ?_
  refine aw_aload_n C dX6_findParts_152 0 rfl ?_
  refine aw_getX6 C K inX6_findParts_6 dX6_findParts_153 25 (by decide) qX6_findParts_fieldLink_RX6_195 0 (wX6_g ..) rfl ?_
  refine aw_iload C dX6_findParts_156 3 rfl ?_
  obtain ⟨b158, h⟩ := h
  refine aw_iast C K dX6_findParts_158 21 (wX6_g27 ..) (wX6_s27 ..) b158 ?_
  obtain ⟨s158, es158⟩ : ∃ z, z = (uA s_148 27 (upd (sA s_148 27) (sF s_148 25).toNatClampNeg r83)) := ⟨_, rfl⟩
  rw [← es158]
  have h := h s158 es158
  refine aw_aload_n C dX6_findParts_159 0 rfl ?_
  refine aw_dup C dX6_findParts_160 rfl ?_
  refine aw_getX6 C K inX6_findParts_6 dX6_findParts_161 25 (by decide) qX6_findParts_fieldLink_RX6_195 0 (wX6_g ..) rfl ?_
  refine aw_iconst (v := 1) C dX6_findParts_164 (by decide) ?_
  refine aw_iadd C dX6_findParts_165 ?_
  refine aw_putX6 (ty := .int) C K inX6_findParts_6 dX6_findParts_166 25 (by decide) qX6_findParts_fieldLink_RX6_195 0 (wX6_g ..) rfl (by decide +kernel) rfl rfl (Nat.le_of_ble_eq_true rfl) (wX6_p25 ..) ?_
  obtain ⟨s166, es166⟩ : ∃ z, z = (uF s158 25 ((sF s158 25) + 1)) := ⟨_, rfl⟩
  rw [← es166]
  have h := h s166 es166
  refine aw_iload_n C dX6_findParts_169 2 rfl ?_
  refine aw_iload C dX6_findParts_170 3 rfl ?_
  refine aw_isub C dX6_findParts_172 ?_
  refine aw_name (fun x3_173 ex3_173 => ?_)
  have h := h x3_173 ex3_173
  refine aw_istore_n (lv' := [(3, .int x3_173), (0, .ref o), (1, .int x1), (5, .int r83)]) C dX6_findParts_173 (by decide) rfl ?_
  refine aw_goto (tgt := 7) C dX6_findParts_174 (by decide) ?_
  refine aw_lv [1, 2, 0] rfl ?_
  exact hkH s166 x3_173 h
theorem tlX6_findParts_7 (C : ctB p s0 m args c cX6_findParts 7 RX6 wsX6_findParts) (K : ctK s0 D A H0 cy) {o : Nat} {ad : Nat → Nat}  {x1 : Int32} {k177 : St → Prop} (hk177 : ∀ (s : St), k177 s → atG p l e rmX6_findParts s0 m args below meth c 0 0 Z 7 (iW D A H0 (wX6 cy o ad s)) [(0, .ref o)] [] 177) (s : St) (x3 : Int32) (h : lX6_findParts_7 x1 k177 s x3) : atG p l e rmX6_findParts s0 m args below meth c 0 0 Z 7 (iW D A H0 (wX6 cy o ad s)) [(0, .ref o), (1, .int x1), (3, .int x3)] [] 7 :=
  lp_W (σ := St × Int32) (P := fun q => atG p l e rmX6_findParts s0 m args below meth c 0 0 Z 7 (iW D A H0 (wX6 cy o ad q.1)) [(0, .ref o), (1, .int x1), (3, .int q.2)] [] 7) (fun K2 hK2 q hb => tbX6_findParts_7 C K hk177 (fun s x3 hk => hK2 (s, x3) hk) q.1 q.2 hb) (s, x3) h
theorem eX6_findParts (C : ctB p s0 m args c cX6_findParts 7 RX6 wsX6_findParts) (K : ctK s0 D A H0 cy) {o : Nat} {ad : Nat → Nat} {Q : St → Prop} (hQ : ∀ (u : St), Q u → ∀ pc, decode cX6_findParts pc = .ok (.return_, 1) → atG p l e rmX6_findParts s0 m args below meth c 0 0 Z 7 (iW D A H0 (wX6 cy o ad u)) [] [] pc) (s : St) (x1 : Int32) (x2 : Int32) (h : pX6_findParts  s x1 x2 Q) : atG p l e rmX6_findParts s0 m args below meth c 0 0 Z 7 (iW D A H0 (wX6 cy o ad s)) [(0, .ref o), (1, .int x1), (2, .int x2)] [] 0 := by
  delta pX6_findParts at h
  refine aw_aload_n C dX6_findParts_0 0 rfl ?_
  refine aw_iconst (v := 0) C dX6_findParts_1 (by decide) ?_
  refine aw_putX6 (ty := .int) C K inX6_findParts_6 dX6_findParts_2 25 (by decide) qX6_findParts_fieldLink_RX6_195 0 (wX6_g ..) rfl (by decide +kernel) rfl rfl (Nat.le_of_ble_eq_true rfl) (wX6_p25 ..) ?_
  obtain ⟨s2, es2⟩ : ∃ z, z = (uF s 25 0) := ⟨_, rfl⟩
  rw [← es2]
  have h := h s2 es2
  refine aw_iload_n C dX6_findParts_5 2 rfl ?_
  refine aw_istore_n (lv' := [(3, .int x2), (0, .ref o), (1, .int x1), (2, .int x2)]) C dX6_findParts_6 (by decide) rfl ?_
  refine aw_lv [1, 2, 0] rfl ?_
  refine tlX6_findParts_7 C K ?_ s2 x2 h
  intro s_177 h
  refine aw_lv [] rfl ?_
  exact hQ s_177 h 177 dX6_findParts_177
end SX6_findParts
theorem mtX6_findParts (l : Launch) (D : va_G) (cy : Nat → ClassId) (o : Nat) (ad : Nat → Nat) (s : St) (x1 : Int32) (x2 : Int32) (Q : St → Prop) (hw : pX6_findParts  s x1 x2 Q) : mV l yX6_findParts wsX6_findParts rmX6_findParts D cy [.ref o, .int x1, .int x2] (wX6 cy o ad s) (wX6 cy o ad) Q :=
  metV (Wd := wX6 cy o ad) ⟨rfl, rfl⟩ (by decide) rfl (Nat.le_of_ble_eq_true rfl) (fun C K hQ => eX6_findParts C K hQ s x1 x2 hw)
def rmX6_demand : Room := { frames := 2, cells := 0, slots := 0, locals := 52 }
theorem inX6_demand_6 : ∀ w ∈ wsX60, w ∈ wsX6_demand := fun w h => (List.mem_cons_of_mem _ (List.mem_append_right _ h))
theorem qX6_demand_fieldLink_RX6_81 : Cond.fieldLink RX6 81 "StageSwitchModel" "thrown" "I" ∈ wsX6_demand := (List.mem_cons_of_mem _ (List.mem_append_left _ (List.mem_append_left _ (List.mem_of_getElem? (i := 0) rfl))))
theorem qX6_demand_constant_RX6_101_1000001 : Cond.constant RX6 101 (-1000001) ∈ wsX6_demand := (List.mem_cons_of_mem _ (List.mem_append_left _ (List.mem_append_left _ (List.mem_of_getElem? (i := 3) rfl))))
theorem qX6_demand_constantLong_RX6_116_6 : Cond.constantLong RX6 116 (6) ∈ wsX6_demand := (List.mem_cons_of_mem _ (List.mem_append_left _ (List.mem_append_left _ (List.mem_of_getElem? (i := 1) rfl))))
theorem qX6_demand_constantLong_RX6_204_1 : Cond.constantLong RX6 204 (-1) ∈ wsX6_demand := (List.mem_cons_of_mem _ (List.mem_append_left _ (List.mem_append_left _ (List.mem_of_getElem? (i := 2) rfl))))
theorem qX6_demand_fieldLink_RX6_7 : Cond.fieldLink RX6 7 "StageSwitchModel" "lane" "[I" ∈ wsX6_demand := (List.mem_cons_of_mem _ (List.mem_append_left _ (List.mem_append_left _ (List.mem_of_getElem? (i := 4) rfl))))
theorem qX6_demand_fieldLink_RX6_13 : Cond.fieldLink RX6 13 "StageSwitchModel" "many" "[I" ∈ wsX6_demand := (List.mem_cons_of_mem _ (List.mem_append_left _ (List.mem_append_left _ (List.mem_of_getElem? (i := 5) rfl))))
theorem qX6_demand_fieldLink_RX6_16 : Cond.fieldLink RX6 16 "StageSwitchModel" "item" "[I" ∈ wsX6_demand := (List.mem_cons_of_mem _ (List.mem_append_left _ (List.mem_append_left _ (List.mem_of_getElem? (i := 6) rfl))))
theorem qX6_demand_fieldLink_RX6_65 : Cond.fieldLink RX6 65 "StageSwitchModel" "left" "[I" ∈ wsX6_demand := (List.mem_cons_of_mem _ (List.mem_append_left _ (List.mem_append_left _ (List.mem_of_getElem? (i := 8) rfl))))
theorem qX6_demand_constantLong_RX6_206_1000 : Cond.constantLong RX6 206 (1000) ∈ wsX6_demand := (List.mem_cons_of_mem _ (List.mem_append_left _ (List.mem_append_left _ (List.mem_of_getElem? (i := 7) rfl))))
theorem qX6_demand_fieldLink_RX6_85 : Cond.fieldLink RX6 85 "StageSwitchModel" "status" "I" ∈ wsX6_demand := (List.mem_cons_of_mem _ (List.mem_append_left _ (List.mem_append_left _ (List.mem_of_getElem? (i := 9) rfl))))
theorem qX6_demand_constant_RX6_118_1000000 : Cond.constant RX6 118 (-1000000) ∈ wsX6_demand := (List.mem_cons_of_mem _ (List.mem_append_left _ (List.mem_append_left _ (List.mem_of_getElem? (i := 10) rfl))))
theorem qX6_demand_fieldLink_RX6_195 : Cond.fieldLink RX6 195 "StageSwitchModel" "parts" "I" ∈ wsX6_demand := (List.mem_cons_of_mem _ (List.mem_append_left _ (List.mem_append_left _ (List.mem_of_getElem? (i := 11) rfl))))
theorem qX6_demand_fieldLink_RX6_68 : Cond.fieldLink RX6 68 "StageSwitchModel" "partOrder" "[I" ∈ wsX6_demand := (List.mem_cons_of_mem _ (List.mem_append_left _ (List.mem_append_left _ (List.mem_of_getElem? (i := 13) rfl))))
theorem qX6_demand_fieldLink_RX6_71 : Cond.fieldLink RX6 71 "StageSwitchModel" "often" "[I" ∈ wsX6_demand := (List.mem_cons_of_mem _ (List.mem_append_left _ (List.mem_append_left _ (List.mem_of_getElem? (i := 12) rfl))))
section SX6_demand
variable {p : Program} {l : Launch} {e : Env} {s0 : State} {m : MethodId} {args : Array Value} {below : List Frame} {meth : Method} {c : Code} {D : va_G} {A : Nat → Prop} {H0 : Heap} {cy : Nat → ClassId} {Z : State → Prop}
theorem tjX6_demand_194 (C : ctB p s0 m args c cX6_demand 14 RX6 wsX6_demand) (K : ctK s0 D A H0 cy) {o : Nat} {ad : Nat → Nat}  {kH : St → Int32 → Int32 → Int32 → Int32 → Prop} (s : St) (x1 : Int32) (x2 : Int32) (x3 : Int32) (x4 : Int32) (x5 : Int32) (x6 : Int32) (x8 : Int32) (x9 : Int32) (x10 : Int32) (x11 : Int32) (x12 : Int32) (x13 : Int32) (u0 : Int32) (hkH : ∀ (s : St) (y7 : Int32) (y9 : Int32) (y10 : Int32) (y11 : Int32), kH s y7 y9 y10 y11 → atG p l e rmX6_demand s0 m args below meth c 0 0 Z 14 (iW D A H0 (wX6 cy o ad s)) [(0, .ref o), (1, .int x1), (2, .int x2), (3, .int x3), (4, .int x4), (5, .int x5), (6, .int x6), (7, .int y7), (8, .int x8), (9, .int y9), (10, .int y10), (11, .int y11)] [] 110) (h : jX6_demand_194 kH s x1 x2 x3 x4 x5 x6 x8 x9 x10 x11 x12 x13 u0) : atG p l e rmX6_demand s0 m args below meth c 0 0 Z 14 (iW D A H0 (wX6 cy o ad s)) [(0, .ref o), (1, .int x1), (2, .int x2), (3, .int x3), (4, .int x4), (5, .int x5), (6, .int x6), (8, .int x8), (9, .int x9), (10, .int x10), (11, .int x11), (12, .int x12), (13, .int x13)] [.int u0] 194 := by
  delta jX6_demand_194 at h
  refine aw_istore (lv' := [(7, .int u0), (0, .ref o), (1, .int x1), (2, .int x2), (3, .int x3), (4, .int x4), (5, .int x5), (6, .int x6), (8, .int x8), (9, .int x9), (10, .int x10), (11, .int x11), (12, .int x12), (13, .int x13)]) C dX6_demand_194 (by decide) rfl ?_
  refine aw_iload C dX6_demand_196 9 rfl ?_
  refine aw_iload C dX6_demand_198 0 rfl ?_
  refine aw_if_eq (tgt := 208) C dX6_demand_200 (by decide) (fun c200 => ?_) (fun c200 => ?_)
  · have h := h.1 c200
    refine aw_iconst (v := 0) C dX6_demand_208 (by decide) ?_
    refine aw_iadd C dX6_demand_209 ?_
    refine aw_name (fun x9_210 ex9_210 => ?_)
    have h := h x9_210 ex9_210
    refine aw_istore (lv' := [(9, .int x9_210), (7, .int u0), (0, .ref o), (1, .int x1), (2, .int x2), (3, .int x3), (4, .int x4), (5, .int x5), (6, .int x6), (8, .int x8), (10, .int x10), (11, .int x11), (12, .int x12), (13, .int x13)]) C dX6_demand_210 (by decide) rfl ?_
    refine aw_iload C dX6_demand_212 10 rfl ?_
    refine aw_iload C dX6_demand_214 1 rfl ?_
    refine aw_if_eq (tgt := 224) C dX6_demand_216 (by decide) (fun c216 => ?_) (fun c216 => ?_)
    · have h := h.1 c216
      refine aw_iconst (v := 0) C dX6_demand_224 (by decide) ?_
      refine aw_iadd C dX6_demand_225 ?_
      refine aw_name (fun x10_226 ex10_226 => ?_)
      have h := h x10_226 ex10_226
      refine aw_istore (lv' := [(10, .int x10_226), (9, .int x9_210), (7, .int u0), (0, .ref o), (1, .int x1), (2, .int x2), (3, .int x3), (4, .int x4), (5, .int x5), (6, .int x6), (8, .int x8), (11, .int x11), (12, .int x12), (13, .int x13)]) C dX6_demand_226 (by decide) rfl ?_
      refine aw_aload_n C dX6_demand_228 3 rfl ?_
      refine aw_getX6 C K inX6_demand_6 dX6_demand_229 24 (by decide) qX6_demand_fieldLink_RX6_65 0 (wX6_g ..) rfl ?_
      refine aw_bipush (v := 6) C dX6_demand_232 (by decide) ?_
      refine aw_iload C dX6_demand_234 10 rfl ?_
      refine aw_imul C dX6_demand_236 ?_
      refine aw_iload C dX6_demand_237 11 rfl ?_
      refine aw_iadd C dX6_demand_239 ?_
      refine aw_iload C dX6_demand_240 12 rfl ?_
      obtain ⟨b242, h⟩ := h
      refine aw_iast C K dX6_demand_242 19 (wX6_g24 ..) (wX6_s24 ..) b242 ?_
      obtain ⟨s242, es242⟩ : ∃ z, z = (uA s 24 (upd (sA s 24) ((6 * x8) + x11).toNatClampNeg x12)) := ⟨_, rfl⟩
      rw [← es242]
      have h := h s242 es242
      obtain ⟨x11_243, ex11_243⟩ : ∃ y : Int32, y = x11 + 1 := ⟨_, rfl⟩
      have h := h x11_243 ex11_243
      refine aw_iinc (v := x11_243) (lv' := [(11, .int x11_243), (10, .int x10_226), (9, .int x9_210), (7, .int u0), (0, .ref o), (1, .int x1), (2, .int x2), (3, .int x3), (4, .int x4), (5, .int x5), (6, .int x6), (8, .int x8), (12, .int x12), (13, .int x13)]) C dX6_demand_243 11 rfl (by rw [ex11_243]; rfl) (by decide) rfl ?_
      refine aw_goto (tgt := 110) C dX6_demand_246 (by decide) ?_
      refine aw_lv [4, 5, 6, 7, 8, 9, 10, 3, 11, 2, 1, 0] rfl ?_
      exact hkH s242 u0 x9_210 x10_226 x11_243 h
    have h := h.2 c216
    refine aw_iload C dX6_demand_219 13 rfl ?_
    refine aw_goto (tgt := 225) C dX6_demand_221 (by decide) ?_
    refine aw_iadd C dX6_demand_225 ?_
    refine aw_name (fun x10_226 ex10_226 => ?_)
    have h := h x10_226 ex10_226
    refine aw_istore (lv' := [(10, .int x10_226), (9, .int x9_210), (7, .int u0), (0, .ref o), (1, .int x1), (2, .int x2), (3, .int x3), (4, .int x4), (5, .int x5), (6, .int x6), (8, .int x8), (11, .int x11), (12, .int x12), (13, .int x13)]) C dX6_demand_226 (by decide) rfl ?_
    refine aw_aload_n C dX6_demand_228 3 rfl ?_
    refine aw_getX6 C K inX6_demand_6 dX6_demand_229 24 (by decide) qX6_demand_fieldLink_RX6_65 0 (wX6_g ..) rfl ?_
    refine aw_bipush (v := 6) C dX6_demand_232 (by decide) ?_
    refine aw_iload C dX6_demand_234 10 rfl ?_
    refine aw_imul C dX6_demand_236 ?_
    refine aw_iload C dX6_demand_237 11 rfl ?_
    refine aw_iadd C dX6_demand_239 ?_
    refine aw_iload C dX6_demand_240 12 rfl ?_
    obtain ⟨b242, h⟩ := h
    refine aw_iast C K dX6_demand_242 19 (wX6_g24 ..) (wX6_s24 ..) b242 ?_
    obtain ⟨s242, es242⟩ : ∃ z, z = (uA s 24 (upd (sA s 24) ((6 * x8) + x11).toNatClampNeg x12)) := ⟨_, rfl⟩
    rw [← es242]
    have h := h s242 es242
    obtain ⟨x11_243, ex11_243⟩ : ∃ y : Int32, y = x11 + 1 := ⟨_, rfl⟩
    have h := h x11_243 ex11_243
    refine aw_iinc (v := x11_243) (lv' := [(11, .int x11_243), (10, .int x10_226), (9, .int x9_210), (7, .int u0), (0, .ref o), (1, .int x1), (2, .int x2), (3, .int x3), (4, .int x4), (5, .int x5), (6, .int x6), (8, .int x8), (12, .int x12), (13, .int x13)]) C dX6_demand_243 11 rfl (by rw [ex11_243]; rfl) (by decide) rfl ?_
    refine aw_goto (tgt := 110) C dX6_demand_246 (by decide) ?_
    refine aw_lv [4, 5, 6, 7, 8, 9, 10, 3, 11, 2, 1, 0] rfl ?_
    exact hkH s242 u0 x9_210 x10_226 x11_243 h
  have h := h.2 c200
  refine aw_iload C dX6_demand_203 12 rfl ?_
  refine aw_goto (tgt := 209) C dX6_demand_205 (by decide) ?_
  refine aw_iadd C dX6_demand_209 ?_
  refine aw_name (fun x9_210 ex9_210 => ?_)
  have h := h x9_210 ex9_210
  refine aw_istore (lv' := [(9, .int x9_210), (7, .int u0), (0, .ref o), (1, .int x1), (2, .int x2), (3, .int x3), (4, .int x4), (5, .int x5), (6, .int x6), (8, .int x8), (10, .int x10), (11, .int x11), (12, .int x12), (13, .int x13)]) C dX6_demand_210 (by decide) rfl ?_
  refine aw_iload C dX6_demand_212 10 rfl ?_
  refine aw_iload C dX6_demand_214 1 rfl ?_
  refine aw_if_eq (tgt := 224) C dX6_demand_216 (by decide) (fun c216 => ?_) (fun c216 => ?_)
  · have h := h.1 c216
    refine aw_iconst (v := 0) C dX6_demand_224 (by decide) ?_
    refine aw_iadd C dX6_demand_225 ?_
    refine aw_name (fun x10_226 ex10_226 => ?_)
    have h := h x10_226 ex10_226
    refine aw_istore (lv' := [(10, .int x10_226), (9, .int x9_210), (7, .int u0), (0, .ref o), (1, .int x1), (2, .int x2), (3, .int x3), (4, .int x4), (5, .int x5), (6, .int x6), (8, .int x8), (11, .int x11), (12, .int x12), (13, .int x13)]) C dX6_demand_226 (by decide) rfl ?_
    refine aw_aload_n C dX6_demand_228 3 rfl ?_
    refine aw_getX6 C K inX6_demand_6 dX6_demand_229 24 (by decide) qX6_demand_fieldLink_RX6_65 0 (wX6_g ..) rfl ?_
    refine aw_bipush (v := 6) C dX6_demand_232 (by decide) ?_
    refine aw_iload C dX6_demand_234 10 rfl ?_
    refine aw_imul C dX6_demand_236 ?_
    refine aw_iload C dX6_demand_237 11 rfl ?_
    refine aw_iadd C dX6_demand_239 ?_
    refine aw_iload C dX6_demand_240 12 rfl ?_
    obtain ⟨b242, h⟩ := h
    refine aw_iast C K dX6_demand_242 19 (wX6_g24 ..) (wX6_s24 ..) b242 ?_
    obtain ⟨s242, es242⟩ : ∃ z, z = (uA s 24 (upd (sA s 24) ((6 * x8) + x11).toNatClampNeg x12)) := ⟨_, rfl⟩
    rw [← es242]
    have h := h s242 es242
    obtain ⟨x11_243, ex11_243⟩ : ∃ y : Int32, y = x11 + 1 := ⟨_, rfl⟩
    have h := h x11_243 ex11_243
    refine aw_iinc (v := x11_243) (lv' := [(11, .int x11_243), (10, .int x10_226), (9, .int x9_210), (7, .int u0), (0, .ref o), (1, .int x1), (2, .int x2), (3, .int x3), (4, .int x4), (5, .int x5), (6, .int x6), (8, .int x8), (12, .int x12), (13, .int x13)]) C dX6_demand_243 11 rfl (by rw [ex11_243]; rfl) (by decide) rfl ?_
    refine aw_goto (tgt := 110) C dX6_demand_246 (by decide) ?_
    refine aw_lv [4, 5, 6, 7, 8, 9, 10, 3, 11, 2, 1, 0] rfl ?_
    exact hkH s242 u0 x9_210 x10_226 x11_243 h
  have h := h.2 c216
  refine aw_iload C dX6_demand_219 13 rfl ?_
  refine aw_goto (tgt := 225) C dX6_demand_221 (by decide) ?_
  refine aw_iadd C dX6_demand_225 ?_
  refine aw_name (fun x10_226 ex10_226 => ?_)
  have h := h x10_226 ex10_226
  refine aw_istore (lv' := [(10, .int x10_226), (9, .int x9_210), (7, .int u0), (0, .ref o), (1, .int x1), (2, .int x2), (3, .int x3), (4, .int x4), (5, .int x5), (6, .int x6), (8, .int x8), (11, .int x11), (12, .int x12), (13, .int x13)]) C dX6_demand_226 (by decide) rfl ?_
  refine aw_aload_n C dX6_demand_228 3 rfl ?_
  refine aw_getX6 C K inX6_demand_6 dX6_demand_229 24 (by decide) qX6_demand_fieldLink_RX6_65 0 (wX6_g ..) rfl ?_
  refine aw_bipush (v := 6) C dX6_demand_232 (by decide) ?_
  refine aw_iload C dX6_demand_234 10 rfl ?_
  refine aw_imul C dX6_demand_236 ?_
  refine aw_iload C dX6_demand_237 11 rfl ?_
  refine aw_iadd C dX6_demand_239 ?_
  refine aw_iload C dX6_demand_240 12 rfl ?_
  obtain ⟨b242, h⟩ := h
  refine aw_iast C K dX6_demand_242 19 (wX6_g24 ..) (wX6_s24 ..) b242 ?_
  obtain ⟨s242, es242⟩ : ∃ z, z = (uA s 24 (upd (sA s 24) ((6 * x8) + x11).toNatClampNeg x12)) := ⟨_, rfl⟩
  rw [← es242]
  have h := h s242 es242
  obtain ⟨x11_243, ex11_243⟩ : ∃ y : Int32, y = x11 + 1 := ⟨_, rfl⟩
  have h := h x11_243 ex11_243
  refine aw_iinc (v := x11_243) (lv' := [(11, .int x11_243), (10, .int x10_226), (9, .int x9_210), (7, .int u0), (0, .ref o), (1, .int x1), (2, .int x2), (3, .int x3), (4, .int x4), (5, .int x5), (6, .int x6), (8, .int x8), (12, .int x12), (13, .int x13)]) C dX6_demand_243 11 rfl (by rw [ex11_243]; rfl) (by decide) rfl ?_
  refine aw_goto (tgt := 110) C dX6_demand_246 (by decide) ?_
  refine aw_lv [4, 5, 6, 7, 8, 9, 10, 3, 11, 2, 1, 0] rfl ?_
  exact hkH s242 u0 x9_210 x10_226 x11_243 h
theorem tjX6_demand_193 (C : ctB p s0 m args c cX6_demand 14 RX6 wsX6_demand) (K : ctK s0 D A H0 cy) {o : Nat} {ad : Nat → Nat}  {kH : St → Int32 → Int32 → Int32 → Int32 → Prop} (s : St) (x1 : Int32) (x2 : Int32) (x3 : Int32) (x4 : Int32) (x5 : Int32) (x6 : Int32) (x8 : Int32) (x9 : Int32) (x10 : Int32) (x11 : Int32) (x12 : Int32) (x13 : Int32) (hkH : ∀ (s : St) (y7 : Int32) (y9 : Int32) (y10 : Int32) (y11 : Int32), kH s y7 y9 y10 y11 → atG p l e rmX6_demand s0 m args below meth c 0 0 Z 14 (iW D A H0 (wX6 cy o ad s)) [(0, .ref o), (1, .int x1), (2, .int x2), (3, .int x3), (4, .int x4), (5, .int x5), (6, .int x6), (7, .int y7), (8, .int x8), (9, .int y9), (10, .int y10), (11, .int y11)] [] 110) (h : jX6_demand_193 kH s x1 x2 x3 x4 x5 x6 x8 x9 x10 x11 x12 x13) : atG p l e rmX6_demand s0 m args below meth c 0 0 Z 14 (iW D A H0 (wX6 cy o ad s)) [(0, .ref o), (1, .int x1), (2, .int x2), (3, .int x3), (4, .int x4), (5, .int x5), (6, .int x6), (8, .int x8), (9, .int x9), (10, .int x10), (11, .int x11), (12, .int x12), (13, .int x13)] [] 193 := by
  delta jX6_demand_193 at h
  refine aw_iconst (v := 0) C dX6_demand_193 (by decide) ?_
  exact tjX6_demand_194 C K s x1 x2 x3 x4 x5 x6 x8 x9 x10 x11 x12 x13 0 hkH h
theorem tbX6_demand_110 (C : ctB p s0 m args c cX6_demand 14 RX6 wsX6_demand) (K : ctK s0 D A H0 cy) {o : Nat} {ad : Nat → Nat}  {x1 : Int32} {x2 : Int32} {x3 : Int32} {x4 : Int32} {x5 : Int32} {x6 : Int32} {x8 : Int32} {k249 : St → Int32 → Int32 → Int32 → Prop} (hk249 : ∀ (s : St) (y7 : Int32) (y9 : Int32) (y10 : Int32), k249 s y7 y9 y10 → atG p l e rmX6_demand s0 m args below meth c 0 0 Z 14 (iW D A H0 (wX6 cy o ad s)) [(0, .ref o), (1, .int x1), (2, .int x2), (3, .int x3), (4, .int x4), (5, .int x5), (6, .int x6), (7, .int y7), (8, .int x8), (9, .int y9), (10, .int y10)] [] 249) {kH : St → Int32 → Int32 → Int32 → Int32 → Prop} (hkH : ∀ (s : St) (y7 : Int32) (y9 : Int32) (y10 : Int32) (y11 : Int32), kH s y7 y9 y10 y11 → atG p l e rmX6_demand s0 m args below meth c 0 0 Z 14 (iW D A H0 (wX6 cy o ad s)) [(0, .ref o), (1, .int x1), (2, .int x2), (3, .int x3), (4, .int x4), (5, .int x5), (6, .int x6), (7, .int y7), (8, .int x8), (9, .int y9), (10, .int y10), (11, .int y11)] [] 110) (s : St) (x7 : Int32) (x9 : Int32) (x10 : Int32) (x11 : Int32) (h : bX6_demand_110 x1 x2 x3 x4 x5 x6 x8 k249 kH s x7 x9 x10 x11) : atG p l e rmX6_demand s0 m args below meth c 0 0 Z 14 (iW D A H0 (wX6 cy o ad s)) [(0, .ref o), (1, .int x1), (2, .int x2), (3, .int x3), (4, .int x4), (5, .int x5), (6, .int x6), (7, .int x7), (8, .int x8), (9, .int x9), (10, .int x10), (11, .int x11)] [] 110 := by
  delta bX6_demand_110 at h
  refine aw_iload C dX6_demand_110 11 rfl ?_
  refine aw_iload_n C dX6_demand_112 3 rfl ?_
  refine aw_icmp_ge (tgt := 249) C dX6_demand_113 (by decide) (fun c113 => ?_) (fun c113 => ?_)
  · have h := h.1 c113
    refine aw_lv [0, 1, 2, 3, 4, 5, 6, 7, 8, 9, 10] rfl ?_
    exact hk249 s x7 x9 x10 h
  have h := h.2 c113
  refine aw_aload_n C dX6_demand_116 0 rfl ?_
  refine aw_getX6 C K inX6_demand_6 dX6_demand_117 4 (by decide) qX6_demand_fieldLink_RX6_16 0 (wX6_g ..) rfl ?_
  refine aw_bipush (v := 64) C dX6_demand_120 (by decide) ?_
  refine aw_iload_n C dX6_demand_122 1 rfl ?_
  refine aw_imul C dX6_demand_123 ?_
  refine aw_iload_n C dX6_demand_124 2 rfl ?_
  refine aw_iadd C dX6_demand_125 ?_
  refine aw_iload_n C dX6_demand_126 3 rfl ?_
  refine aw_iload C dX6_demand_127 8 rfl ?_
  refine aw_imul C dX6_demand_129 ?_
  refine aw_iadd C dX6_demand_130 ?_
  refine aw_iload C dX6_demand_131 11 rfl ?_
  refine aw_iadd C dX6_demand_133 ?_
  obtain ⟨b134, h⟩ := h
  refine aw_iald C K dX6_demand_134 3 (wX6_g4 ..) b134 ?_
  refine aw_name (fun x12_135 ex12_135 => ?_)
  have h := h x12_135 ex12_135
  refine aw_istore (lv' := [(12, .int x12_135), (0, .ref o), (1, .int x1), (2, .int x2), (3, .int x3), (4, .int x4), (5, .int x5), (6, .int x6), (7, .int x7), (8, .int x8), (9, .int x9), (10, .int x10), (11, .int x11)]) C dX6_demand_135 (by decide) rfl ?_
  refine aw_aload_n C dX6_demand_137 1 rfl ?_
  refine aw_getX6 C K inX6_demand_6 dX6_demand_138 4 (by decide) qX6_demand_fieldLink_RX6_16 0 (wX6_g ..) rfl ?_
  refine aw_bipush (v := 64) C dX6_demand_141 (by decide) ?_
  refine aw_iload_n C dX6_demand_143 2 rfl ?_
  refine aw_imul C dX6_demand_144 ?_
  refine aw_iload_n C dX6_demand_145 3 rfl ?_
  refine aw_iadd C dX6_demand_146 ?_
  refine aw_iload_n C dX6_demand_147 4 rfl ?_
  refine aw_iload C dX6_demand_148 12 rfl ?_
  refine aw_imul C dX6_demand_150 ?_
  refine aw_iadd C dX6_demand_151 ?_
  refine aw_iload C dX6_demand_152 9 rfl ?_
  refine aw_iadd C dX6_demand_154 ?_
  obtain ⟨b155, h⟩ := h
  refine aw_iald C K dX6_demand_155 3 (wX6_g4 ..) b155 ?_
  refine aw_name (fun x13_156 ex13_156 => ?_)
  have h := h x13_156 ex13_156
  refine aw_istore (lv' := [(13, .int x13_156), (12, .int x12_135), (0, .ref o), (1, .int x1), (2, .int x2), (3, .int x3), (4, .int x4), (5, .int x5), (6, .int x6), (7, .int x7), (8, .int x8), (9, .int x9), (10, .int x10), (11, .int x11)]) C dX6_demand_156 (by decide) rfl ?_
  refine aw_iload C dX6_demand_158 9 rfl ?_
  refine aw_if_eq (tgt := 193) C dX6_demand_160 (by decide) (fun c160 => ?_) (fun c160 => ?_)
  · have h := h.1 c160
    refine aw_lv [2, 3, 4, 5, 6, 7, 8, 10, 11, 12, 13, 1, 0] rfl ?_
    exact tjX6_demand_193 C K s x1 x2 x3 x4 x5 x6 x8 x9 x10 x11 x12_135 x13_156 hkH h
  have h := h.2 c160
  refine aw_iload C dX6_demand_163 1 rfl ?_
  refine aw_i2l C dX6_demand_165 ?_
  refine aw_lconst (v := 0) C dX6_demand_166 (by decide) ?_
  refine aw_ldc2 (v := 1000) C dX6_demand_167 qX6_demand_constantLong_RX6_206_1000 ?_
  refine aw_callS (As := [.long x12_135.toInt64, .long 0, .long 1000]) (rest := []) C (mtX6_in l x12_135.toInt64 0 1000 _ h) (va_cwS 3 C.2.2.2.2.1 gX6_demand_X6_in rfl rfl rfl (by decide +kernel) ⟨Nat.le_of_ble_eq_true rfl, Nat.le_of_ble_eq_true rfl⟩) rfl rfl (Nat.le_of_ble_eq_true rfl) ⟨rfl, rfl⟩ ⟨Nat.zero_le _, Nat.zero_le _⟩ dX6_demand_170 (fun r170 h => ?_)
  refine aw_if_eq (tgt := 193) C dX6_demand_173 (by decide) (fun c173 => ?_) (fun c173 => ?_)
  · have h := h.1 c173
    refine aw_lv [2, 3, 4, 5, 6, 7, 8, 10, 11, 12, 13, 1, 0] rfl ?_
    exact tjX6_demand_193 C K s x1 x2 x3 x4 x5 x6 x8 x9 x10 x11 x12_135 x13_156 hkH h
  have h := h.2 c173
  refine aw_iload C dX6_demand_176 0 rfl ?_
  refine aw_i2l C dX6_demand_178 ?_
  refine aw_lconst (v := 0) C dX6_demand_179 (by decide) ?_
  refine aw_ldc2 (v := 1000) C dX6_demand_180 qX6_demand_constantLong_RX6_206_1000 ?_
  refine aw_callS (As := [.long x13_156.toInt64, .long 0, .long 1000]) (rest := []) C (mtX6_in l x13_156.toInt64 0 1000 _ h) (va_cwS 3 C.2.2.2.2.1 gX6_demand_X6_in rfl rfl rfl (by decide +kernel) ⟨Nat.le_of_ble_eq_true rfl, Nat.le_of_ble_eq_true rfl⟩) rfl rfl (Nat.le_of_ble_eq_true rfl) ⟨rfl, rfl⟩ ⟨Nat.zero_le _, Nat.zero_le _⟩ dX6_demand_183 (fun r183 h => ?_)
  refine aw_if_eq (tgt := 193) C dX6_demand_186 (by decide) (fun c186 => ?_) (fun c186 => ?_)
  · have h := h.1 c186
    refine aw_lv [2, 3, 4, 5, 6, 7, 8, 10, 11, 12, 13, 1, 0] rfl ?_
    exact tjX6_demand_193 C K s x1 x2 x3 x4 x5 x6 x8 x9 x10 x11 x12_135 x13_156 hkH h
  have h := h.2 c186
  refine aw_iconst (v := 1) C dX6_demand_189 (by decide) ?_
  refine aw_goto (tgt := 194) C dX6_demand_190 (by decide) ?_
  refine aw_lv [2, 3, 4, 5, 6, 7, 8, 10, 11, 12, 13, 1, 0] rfl ?_
  exact tjX6_demand_194 C K s x1 x2 x3 x4 x5 x6 x8 x9 x10 x11 x12_135 x13_156 1 hkH h
theorem tlX6_demand_110 (C : ctB p s0 m args c cX6_demand 14 RX6 wsX6_demand) (K : ctK s0 D A H0 cy) {o : Nat} {ad : Nat → Nat}  {x1 : Int32} {x2 : Int32} {x3 : Int32} {x4 : Int32} {x5 : Int32} {x6 : Int32} {x8 : Int32} {k249 : St → Int32 → Int32 → Int32 → Prop} (hk249 : ∀ (s : St) (y7 : Int32) (y9 : Int32) (y10 : Int32), k249 s y7 y9 y10 → atG p l e rmX6_demand s0 m args below meth c 0 0 Z 14 (iW D A H0 (wX6 cy o ad s)) [(0, .ref o), (1, .int x1), (2, .int x2), (3, .int x3), (4, .int x4), (5, .int x5), (6, .int x6), (7, .int y7), (8, .int x8), (9, .int y9), (10, .int y10)] [] 249) (s : St) (x7 : Int32) (x9 : Int32) (x10 : Int32) (x11 : Int32) (h : lX6_demand_110 x1 x2 x3 x4 x5 x6 x8 k249 s x7 x9 x10 x11) : atG p l e rmX6_demand s0 m args below meth c 0 0 Z 14 (iW D A H0 (wX6 cy o ad s)) [(0, .ref o), (1, .int x1), (2, .int x2), (3, .int x3), (4, .int x4), (5, .int x5), (6, .int x6), (7, .int x7), (8, .int x8), (9, .int x9), (10, .int x10), (11, .int x11)] [] 110 :=
  lp_W (σ := St × Int32 × Int32 × Int32 × Int32) (P := fun q => atG p l e rmX6_demand s0 m args below meth c 0 0 Z 14 (iW D A H0 (wX6 cy o ad q.1)) [(0, .ref o), (1, .int x1), (2, .int x2), (3, .int x3), (4, .int x4), (5, .int x5), (6, .int x6), (7, .int q.2.1), (8, .int x8), (9, .int q.2.2.1), (10, .int q.2.2.2.1), (11, .int q.2.2.2.2)] [] 110) (fun K2 hK2 q hb => tbX6_demand_110 C K hk249 (fun s x7 x9 x10 x11 hk => hK2 (s, x7, x9, x10, x11) hk) q.1 q.2.1 q.2.2.1 q.2.2.2.1 q.2.2.2.2 hb) (s, x7, x9, x10, x11) h
theorem tbX6_demand_95 (C : ctB p s0 m args c cX6_demand 14 RX6 wsX6_demand) (K : ctK s0 D A H0 cy) {o : Nat} {ad : Nat → Nat}  {x1 : Int32} {x2 : Int32} {x3 : Int32} {x4 : Int32} {x5 : Int32} {k295 : St → Int32 → Int32 → Prop} (hk295 : ∀ (s : St) (y6 : Int32) (y7 : Int32), k295 s y6 y7 → atG p l e rmX6_demand s0 m args below meth c 0 0 Z 14 (iW D A H0 (wX6 cy o ad s)) [(0, .ref o), (3, .int x3), (4, .int x4), (5, .int x5), (6, .int y6), (7, .int y7)] [] 295) {kH : St → Int32 → Int32 → Int32 → Prop} (hkH : ∀ (s : St) (y6 : Int32) (y7 : Int32) (y8 : Int32), kH s y6 y7 y8 → atG p l e rmX6_demand s0 m args below meth c 0 0 Z 14 (iW D A H0 (wX6 cy o ad s)) [(0, .ref o), (1, .int x1), (2, .int x2), (3, .int x3), (4, .int x4), (5, .int x5), (6, .int y6), (7, .int y7), (8, .int y8)] [] 95) (s : St) (x6 : Int32) (x7 : Int32) (x8 : Int32) (h : bX6_demand_95 x1 x2 x3 x4 x5 k295 kH s x6 x7 x8) : atG p l e rmX6_demand s0 m args below meth c 0 0 Z 14 (iW D A H0 (wX6 cy o ad s)) [(0, .ref o), (1, .int x1), (2, .int x2), (3, .int x3), (4, .int x4), (5, .int x5), (6, .int x6), (7, .int x7), (8, .int x8)] [] 95 := by
  delta bX6_demand_95 at h
  refine aw_iload C dX6_demand_95 8 rfl ?_
  refine aw_iload_n C dX6_demand_97 3 rfl ?_
  refine aw_icmp_ge (tgt := 295) C dX6_demand_98 (by decide) (fun c98 => ?_) (fun c98 => ?_)
  · have h := h.1 c98
    refine aw_lv [0, 3, 4, 5, 6, 7] rfl ?_
    exact hk295 s x6 x7 h
  have h := h.2 c98
  refine aw_iconst (v := 0) C dX6_demand_101 (by decide) ?_
  refine aw_istore (lv' := [(9, .int 0), (0, .ref o), (1, .int x1), (2, .int x2), (3, .int x3), (4, .int x4), (5, .int x5), (6, .int x6), (7, .int x7), (8, .int x8)]) C dX6_demand_102 (by decide) rfl ?_
  refine aw_iconst (v := 0) C dX6_demand_104 (by decide) ?_
  refine aw_istore (lv' := [(10, .int 0), (9, .int 0), (0, .ref o), (1, .int x1), (2, .int x2), (3, .int x3), (4, .int x4), (5, .int x5), (6, .int x6), (7, .int x7), (8, .int x8)]) C dX6_demand_105 (by decide) rfl ?_
  refine aw_iconst (v := 0) C dX6_demand_107 (by decide) ?_
  refine aw_istore (lv' := [(11, .int 0), (10, .int 0), (9, .int 0), (0, .ref o), (1, .int x1), (2, .int x2), (3, .int x3), (4, .int x4), (5, .int x5), (6, .int x6), (7, .int x7), (8, .int x8)]) C dX6_demand_108 (by decide) rfl ?_
  refine aw_lv [3, 4, 5, 6, 7, 8, 9, 10, 11, 2, 1, 0] rfl ?_
  refine tlX6_demand_110 C K ?_ s x7 0 0 0 h
  intro s_249 z249_7 z249_9 z249_10 h
  refine aw_iload C dX6_demand_249 8 rfl ?_
  refine aw_if_ne (tgt := 259) C dX6_demand_251 (by decide) (fun c251 => ?_) (fun c251 => ?_)
  · have h := h.2 c251
    refine aw_iload C dX6_demand_259 6 rfl ?_
    refine aw_istore (lv' := [(6, .int x6), (0, .ref o), (1, .int x1), (2, .int x2), (3, .int x3), (4, .int x4), (5, .int x5), (7, .int z249_7), (8, .int x8), (9, .int z249_9), (10, .int z249_10)]) C dX6_demand_261 (by decide) rfl ?_
    refine aw_iload C dX6_demand_263 7 rfl ?_
    refine aw_if_eq (tgt := 286) C dX6_demand_265 (by decide) (fun c265 => ?_) (fun c265 => ?_)
    · have h := h.1 c265
      refine aw_iconst (v := 0) C dX6_demand_286 (by decide) ?_
      refine aw_istore (lv' := [(7, .int 0), (6, .int x6), (0, .ref o), (1, .int x1), (2, .int x2), (3, .int x3), (4, .int x4), (5, .int x5), (8, .int x8), (9, .int z249_9), (10, .int z249_10)]) C dX6_demand_287 (by decide) rfl ?_
      obtain ⟨x8_289, ex8_289⟩ : ∃ y : Int32, y = x8 + 1 := ⟨_, rfl⟩
      have h := h x8_289 ex8_289
      refine aw_iinc (v := x8_289) (lv' := [(8, .int x8_289), (7, .int 0), (6, .int x6), (0, .ref o), (1, .int x1), (2, .int x2), (3, .int x3), (4, .int x4), (5, .int x5), (9, .int z249_9), (10, .int z249_10)]) C dX6_demand_289 8 rfl (by rw [ex8_289]; rfl) (by decide) rfl ?_
      refine aw_goto (tgt := 95) C dX6_demand_292 (by decide) ?_
      refine aw_lv [3, 4, 5, 6, 7, 8, 2, 1, 0] rfl ?_
      exact hkH s_249 x6 0 x8_289 h
    have h := h.2 c265
    refine aw_iload C dX6_demand_268 9 rfl ?_
    refine aw_iload C dX6_demand_270 0 rfl ?_
    refine aw_icmp_ne (tgt := 286) C dX6_demand_272 (by decide) (fun c272 => ?_) (fun c272 => ?_)
    · have h := h.2 c272
      refine aw_iconst (v := 0) C dX6_demand_286 (by decide) ?_
      refine aw_istore (lv' := [(7, .int 0), (6, .int x6), (0, .ref o), (1, .int x1), (2, .int x2), (3, .int x3), (4, .int x4), (5, .int x5), (8, .int x8), (9, .int z249_9), (10, .int z249_10)]) C dX6_demand_287 (by decide) rfl ?_
      obtain ⟨x8_289, ex8_289⟩ : ∃ y : Int32, y = x8 + 1 := ⟨_, rfl⟩
      have h := h x8_289 ex8_289
      refine aw_iinc (v := x8_289) (lv' := [(8, .int x8_289), (7, .int 0), (6, .int x6), (0, .ref o), (1, .int x1), (2, .int x2), (3, .int x3), (4, .int x4), (5, .int x5), (9, .int z249_9), (10, .int z249_10)]) C dX6_demand_289 8 rfl (by rw [ex8_289]; rfl) (by decide) rfl ?_
      refine aw_goto (tgt := 95) C dX6_demand_292 (by decide) ?_
      refine aw_lv [3, 4, 5, 6, 7, 8, 2, 1, 0] rfl ?_
      exact hkH s_249 x6 0 x8_289 h
    have h := h.1 c272
    refine aw_iload C dX6_demand_275 10 rfl ?_
    refine aw_iload C dX6_demand_277 0 rfl ?_
    refine aw_icmp_ne (tgt := 286) C dX6_demand_279 (by decide) (fun c279 => ?_) (fun c279 => ?_)
    · have h := h.2 c279
      refine aw_iconst (v := 0) C dX6_demand_286 (by decide) ?_
      refine aw_istore (lv' := [(7, .int 0), (6, .int x6), (0, .ref o), (1, .int x1), (2, .int x2), (3, .int x3), (4, .int x4), (5, .int x5), (8, .int x8), (9, .int z249_9), (10, .int z249_10)]) C dX6_demand_287 (by decide) rfl ?_
      obtain ⟨x8_289, ex8_289⟩ : ∃ y : Int32, y = x8 + 1 := ⟨_, rfl⟩
      have h := h x8_289 ex8_289
      refine aw_iinc (v := x8_289) (lv' := [(8, .int x8_289), (7, .int 0), (6, .int x6), (0, .ref o), (1, .int x1), (2, .int x2), (3, .int x3), (4, .int x4), (5, .int x5), (9, .int z249_9), (10, .int z249_10)]) C dX6_demand_289 8 rfl (by rw [ex8_289]; rfl) (by decide) rfl ?_
      refine aw_goto (tgt := 95) C dX6_demand_292 (by decide) ?_
      refine aw_lv [3, 4, 5, 6, 7, 8, 2, 1, 0] rfl ?_
      exact hkH s_249 x6 0 x8_289 h
    have h := h.1 c279
    refine aw_iconst (v := 1) C dX6_demand_282 (by decide) ?_
    refine aw_goto (tgt := 287) C dX6_demand_283 (by decide) ?_
    refine aw_istore (lv' := [(7, .int 1), (6, .int x6), (0, .ref o), (1, .int x1), (2, .int x2), (3, .int x3), (4, .int x4), (5, .int x5), (8, .int x8), (9, .int z249_9), (10, .int z249_10)]) C dX6_demand_287 (by decide) rfl ?_
    obtain ⟨x8_289, ex8_289⟩ : ∃ y : Int32, y = x8 + 1 := ⟨_, rfl⟩
    have h := h x8_289 ex8_289
    refine aw_iinc (v := x8_289) (lv' := [(8, .int x8_289), (7, .int 1), (6, .int x6), (0, .ref o), (1, .int x1), (2, .int x2), (3, .int x3), (4, .int x4), (5, .int x5), (9, .int z249_9), (10, .int z249_10)]) C dX6_demand_289 8 rfl (by rw [ex8_289]; rfl) (by decide) rfl ?_
    refine aw_goto (tgt := 95) C dX6_demand_292 (by decide) ?_
    refine aw_lv [3, 4, 5, 6, 7, 8, 2, 1, 0] rfl ?_
    exact hkH s_249 x6 1 x8_289 h
  have h := h.1 c251
  refine aw_iload C dX6_demand_254 9 rfl ?_
  refine aw_goto (tgt := 261) C dX6_demand_256 (by decide) ?_
  refine aw_istore (lv' := [(6, .int z249_9), (0, .ref o), (1, .int x1), (2, .int x2), (3, .int x3), (4, .int x4), (5, .int x5), (7, .int z249_7), (8, .int x8), (9, .int z249_9), (10, .int z249_10)]) C dX6_demand_261 (by decide) rfl ?_
  refine aw_iload C dX6_demand_263 7 rfl ?_
  refine aw_if_eq (tgt := 286) C dX6_demand_265 (by decide) (fun c265 => ?_) (fun c265 => ?_)
  · have h := h.1 c265
    refine aw_iconst (v := 0) C dX6_demand_286 (by decide) ?_
    refine aw_istore (lv' := [(7, .int 0), (6, .int z249_9), (0, .ref o), (1, .int x1), (2, .int x2), (3, .int x3), (4, .int x4), (5, .int x5), (8, .int x8), (9, .int z249_9), (10, .int z249_10)]) C dX6_demand_287 (by decide) rfl ?_
    obtain ⟨x8_289, ex8_289⟩ : ∃ y : Int32, y = x8 + 1 := ⟨_, rfl⟩
    have h := h x8_289 ex8_289
    refine aw_iinc (v := x8_289) (lv' := [(8, .int x8_289), (7, .int 0), (6, .int z249_9), (0, .ref o), (1, .int x1), (2, .int x2), (3, .int x3), (4, .int x4), (5, .int x5), (9, .int z249_9), (10, .int z249_10)]) C dX6_demand_289 8 rfl (by rw [ex8_289]; rfl) (by decide) rfl ?_
    refine aw_goto (tgt := 95) C dX6_demand_292 (by decide) ?_
    refine aw_lv [3, 4, 5, 6, 7, 8, 2, 1, 0] rfl ?_
    exact hkH s_249 z249_9 0 x8_289 h
  have h := h.2 c265
  refine aw_iload C dX6_demand_268 9 rfl ?_
  refine aw_iload C dX6_demand_270 0 rfl ?_
  refine aw_icmp_ne (tgt := 286) C dX6_demand_272 (by decide) (fun c272 => ?_) (fun c272 => ?_)
  · have h := h.2 c272
    refine aw_iconst (v := 0) C dX6_demand_286 (by decide) ?_
    refine aw_istore (lv' := [(7, .int 0), (6, .int z249_9), (0, .ref o), (1, .int x1), (2, .int x2), (3, .int x3), (4, .int x4), (5, .int x5), (8, .int x8), (9, .int z249_9), (10, .int z249_10)]) C dX6_demand_287 (by decide) rfl ?_
    obtain ⟨x8_289, ex8_289⟩ : ∃ y : Int32, y = x8 + 1 := ⟨_, rfl⟩
    have h := h x8_289 ex8_289
    refine aw_iinc (v := x8_289) (lv' := [(8, .int x8_289), (7, .int 0), (6, .int z249_9), (0, .ref o), (1, .int x1), (2, .int x2), (3, .int x3), (4, .int x4), (5, .int x5), (9, .int z249_9), (10, .int z249_10)]) C dX6_demand_289 8 rfl (by rw [ex8_289]; rfl) (by decide) rfl ?_
    refine aw_goto (tgt := 95) C dX6_demand_292 (by decide) ?_
    refine aw_lv [3, 4, 5, 6, 7, 8, 2, 1, 0] rfl ?_
    exact hkH s_249 z249_9 0 x8_289 h
  have h := h.1 c272
  refine aw_iload C dX6_demand_275 10 rfl ?_
  refine aw_iload C dX6_demand_277 0 rfl ?_
  refine aw_icmp_ne (tgt := 286) C dX6_demand_279 (by decide) (fun c279 => ?_) (fun c279 => ?_)
  · have h := h.2 c279
    refine aw_iconst (v := 0) C dX6_demand_286 (by decide) ?_
    refine aw_istore (lv' := [(7, .int 0), (6, .int z249_9), (0, .ref o), (1, .int x1), (2, .int x2), (3, .int x3), (4, .int x4), (5, .int x5), (8, .int x8), (9, .int z249_9), (10, .int z249_10)]) C dX6_demand_287 (by decide) rfl ?_
    obtain ⟨x8_289, ex8_289⟩ : ∃ y : Int32, y = x8 + 1 := ⟨_, rfl⟩
    have h := h x8_289 ex8_289
    refine aw_iinc (v := x8_289) (lv' := [(8, .int x8_289), (7, .int 0), (6, .int z249_9), (0, .ref o), (1, .int x1), (2, .int x2), (3, .int x3), (4, .int x4), (5, .int x5), (9, .int z249_9), (10, .int z249_10)]) C dX6_demand_289 8 rfl (by rw [ex8_289]; rfl) (by decide) rfl ?_
    refine aw_goto (tgt := 95) C dX6_demand_292 (by decide) ?_
    refine aw_lv [3, 4, 5, 6, 7, 8, 2, 1, 0] rfl ?_
    exact hkH s_249 z249_9 0 x8_289 h
  have h := h.1 c279
  refine aw_iconst (v := 1) C dX6_demand_282 (by decide) ?_
  refine aw_goto (tgt := 287) C dX6_demand_283 (by decide) ?_
  refine aw_istore (lv' := [(7, .int 1), (6, .int z249_9), (0, .ref o), (1, .int x1), (2, .int x2), (3, .int x3), (4, .int x4), (5, .int x5), (8, .int x8), (9, .int z249_9), (10, .int z249_10)]) C dX6_demand_287 (by decide) rfl ?_
  obtain ⟨x8_289, ex8_289⟩ : ∃ y : Int32, y = x8 + 1 := ⟨_, rfl⟩
  have h := h x8_289 ex8_289
  refine aw_iinc (v := x8_289) (lv' := [(8, .int x8_289), (7, .int 1), (6, .int z249_9), (0, .ref o), (1, .int x1), (2, .int x2), (3, .int x3), (4, .int x4), (5, .int x5), (9, .int z249_9), (10, .int z249_10)]) C dX6_demand_289 8 rfl (by rw [ex8_289]; rfl) (by decide) rfl ?_
  refine aw_goto (tgt := 95) C dX6_demand_292 (by decide) ?_
  refine aw_lv [3, 4, 5, 6, 7, 8, 2, 1, 0] rfl ?_
  exact hkH s_249 z249_9 1 x8_289 h
theorem tlX6_demand_95 (C : ctB p s0 m args c cX6_demand 14 RX6 wsX6_demand) (K : ctK s0 D A H0 cy) {o : Nat} {ad : Nat → Nat}  {x1 : Int32} {x2 : Int32} {x3 : Int32} {x4 : Int32} {x5 : Int32} {k295 : St → Int32 → Int32 → Prop} (hk295 : ∀ (s : St) (y6 : Int32) (y7 : Int32), k295 s y6 y7 → atG p l e rmX6_demand s0 m args below meth c 0 0 Z 14 (iW D A H0 (wX6 cy o ad s)) [(0, .ref o), (3, .int x3), (4, .int x4), (5, .int x5), (6, .int y6), (7, .int y7)] [] 295) (s : St) (x6 : Int32) (x7 : Int32) (x8 : Int32) (h : lX6_demand_95 x1 x2 x3 x4 x5 k295 s x6 x7 x8) : atG p l e rmX6_demand s0 m args below meth c 0 0 Z 14 (iW D A H0 (wX6 cy o ad s)) [(0, .ref o), (1, .int x1), (2, .int x2), (3, .int x3), (4, .int x4), (5, .int x5), (6, .int x6), (7, .int x7), (8, .int x8)] [] 95 :=
  lp_W (σ := St × Int32 × Int32 × Int32) (P := fun q => atG p l e rmX6_demand s0 m args below meth c 0 0 Z 14 (iW D A H0 (wX6 cy o ad q.1)) [(0, .ref o), (1, .int x1), (2, .int x2), (3, .int x3), (4, .int x4), (5, .int x5), (6, .int q.2.1), (7, .int q.2.2.1), (8, .int q.2.2.2)] [] 95) (fun K2 hK2 q hb => tbX6_demand_95 C K hk295 (fun s x6 x7 x8 hk => hK2 (s, x6, x7, x8) hk) q.1 q.2.1 q.2.2.1 q.2.2.2 hb) (s, x6, x7, x8) h
theorem eX6_demand (C : ctB p s0 m args c cX6_demand 14 RX6 wsX6_demand) (K : ctK s0 D A H0 cy) {o : Nat} {ad : Nat → Nat} {Q : Int32 → St → Prop} (hQ : ∀ (v : Int32) (u : St), Q v u → ∀ pc, decode cX6_demand pc = .ok (.ireturn, 1) → atG p l e rmX6_demand s0 m args below meth c 0 0 Z 14 (iW D A H0 (wX6 cy o ad u)) [] [.int v] pc) (s : St) (x1 : Int32) (x2 : Int32) (x3 : Int32) (x4 : Int32) (x5 : Int32) (h : pX6_demand  s x1 x2 x3 x4 x5 Q) : atG p l e rmX6_demand s0 m args below meth c 0 0 Z 14 (iW D A H0 (wX6 cy o ad s)) [(0, .ref o), (1, .int x1), (2, .int x2), (3, .int x3), (4, .int x4), (5, .int x5)] [] 0 := by
  delta pX6_demand at h
  refine aw_aload_n C dX6_demand_0 0 rfl ?_
  refine aw_iconst (v := 0) C dX6_demand_1 (by decide) ?_
  refine aw_putX6 (ty := .int) C K inX6_demand_6 dX6_demand_2 0 (by decide) qX6_demand_fieldLink_RX6_81 0 (wX6_g ..) rfl (by decide +kernel) rfl rfl (Nat.le_of_ble_eq_true rfl) (wX6_p0 ..) ?_
  obtain ⟨s2, es2⟩ : ∃ z, z = (uF s 0 0) := ⟨_, rfl⟩
  rw [← es2]
  have h := h s2 es2
  refine aw_iload_n C dX6_demand_5 1 rfl ?_
  refine aw_callS (As := [.int x1]) (rest := []) C (mtX6_isSheet l x1 _ h) (va_cwS 1 C.2.2.2.2.1 gX6_demand_X6_isSheet rfl rfl rfl (by decide +kernel) ⟨Nat.le_of_ble_eq_true rfl, Nat.le_of_ble_eq_true rfl⟩) rfl rfl (Nat.le_of_ble_eq_true rfl) ⟨rfl, rfl⟩ ⟨Nat.zero_le _, Nat.zero_le _⟩ dX6_demand_6 (fun r6 h => ?_)
  refine aw_if_eq (tgt := 40) C dX6_demand_9 (by decide) (fun c9 => ?_) (fun c9 => ?_)
  · have h := h.1 c9
    refine aw_ldc (v := (-1000001)) C dX6_demand_40 qX6_demand_constant_RX6_101_1000001 ?_
    refine aw_lv [] rfl ?_
    exact hQ (-1000001) s2 h 42 dX6_demand_42
  have h := h.2 c9
  refine aw_iload_n C dX6_demand_12 3 rfl ?_
  refine aw_i2l C dX6_demand_13 ?_
  refine aw_lconst (v := 1) C dX6_demand_14 (by decide) ?_
  refine aw_ldc2 (v := 6) C dX6_demand_15 qX6_demand_constantLong_RX6_116_6 ?_
  refine aw_callS (As := [.long x3.toInt64, .long 1, .long 6]) (rest := []) C (mtX6_in l x3.toInt64 1 6 _ h) (va_cwS 3 C.2.2.2.2.1 gX6_demand_X6_in rfl rfl rfl (by decide +kernel) ⟨Nat.le_of_ble_eq_true rfl, Nat.le_of_ble_eq_true rfl⟩) rfl rfl (Nat.le_of_ble_eq_true rfl) ⟨rfl, rfl⟩ ⟨Nat.zero_le _, Nat.zero_le _⟩ dX6_demand_18 (fun r18 h => ?_)
  refine aw_if_eq (tgt := 40) C dX6_demand_21 (by decide) (fun c21 => ?_) (fun c21 => ?_)
  · have h := h.1 c21
    refine aw_ldc (v := (-1000001)) C dX6_demand_40 qX6_demand_constant_RX6_101_1000001 ?_
    refine aw_lv [] rfl ?_
    exact hQ (-1000001) s2 h 42 dX6_demand_42
  have h := h.2 c21
  refine aw_iload C dX6_demand_24 5 rfl ?_
  refine aw_i2l C dX6_demand_26 ?_
  refine aw_ldc2 (v := (-1)) C dX6_demand_27 qX6_demand_constantLong_RX6_204_1 ?_
  refine aw_iload_n C dX6_demand_30 3 rfl ?_
  refine aw_iconst (v := 1) C dX6_demand_31 (by decide) ?_
  refine aw_isub C dX6_demand_32 ?_
  refine aw_i2l C dX6_demand_33 ?_
  refine aw_callS (As := [.long x5.toInt64, .long (-1), .long ((x3 - 1).toInt64)]) (rest := []) C (mtX6_in l x5.toInt64 (-1) ((x3 - 1).toInt64) _ h) (va_cwS 3 C.2.2.2.2.1 gX6_demand_X6_in rfl rfl rfl (by decide +kernel) ⟨Nat.le_of_ble_eq_true rfl, Nat.le_of_ble_eq_true rfl⟩) rfl rfl (Nat.le_of_ble_eq_true rfl) ⟨rfl, rfl⟩ ⟨Nat.zero_le _, Nat.zero_le _⟩ dX6_demand_34 (fun r34 h => ?_)
  refine aw_if_ne (tgt := 43) C dX6_demand_37 (by decide) (fun c37 => ?_) (fun c37 => ?_)
  · have h := h.2 c37
    refine aw_aload_n C dX6_demand_43 0 rfl ?_
    refine aw_getX6 C K inX6_demand_6 dX6_demand_44 2 (by decide) qX6_demand_fieldLink_RX6_7 0 (wX6_g ..) rfl ?_
    refine aw_iload_n C dX6_demand_47 1 rfl ?_
    obtain ⟨b48, h⟩ := h
    refine aw_iald C K dX6_demand_48 1 (wX6_g2 ..) b48 ?_
    refine aw_if_ge (tgt := 58) C dX6_demand_49 (by decide) (fun c49 => ?_) (fun c49 => ?_)
    · have h := h.1 c49
      refine aw_iload_n C dX6_demand_58 2 rfl ?_
      refine aw_if_lt (tgt := 80) C dX6_demand_59 (by decide) (fun c59 => ?_) (fun c59 => ?_)
      · have h := h.1 c59
        refine aw_aload_n C dX6_demand_80 0 rfl ?_
        refine aw_iconst (v := 2) C dX6_demand_81 (by decide) ?_
        refine aw_callI (As := [.int 2]) (rest := []) C K (mtX6_found l D cy o ad s2 2 _ h) (cwV 1 C.2.2.2.2.1 gX6_demand_X6_found rfl rfl rfl (by decide +kernel) ⟨Nat.le_of_ble_eq_true rfl, Nat.le_of_ble_eq_true rfl⟩) 0 6 (wX6_g ..) rfl rfl rfl rfl (Nat.le_of_ble_eq_true rfl) ⟨Nat.le_of_ble_eq_true rfl, Nat.le_of_ble_eq_true rfl⟩ dX6_demand_82 (fun r82 s82 h => ?_)
        refine aw_lv [] rfl ?_
        exact hQ r82 s82 h 85 dX6_demand_85
      have h := h.2 c59
      refine aw_iload_n C dX6_demand_62 2 rfl ?_
      refine aw_i2l C dX6_demand_63 ?_
      refine aw_iload_n C dX6_demand_64 3 rfl ?_
      refine aw_iload_n C dX6_demand_65 3 rfl ?_
      refine aw_imul C dX6_demand_66 ?_
      refine aw_i2l C dX6_demand_67 ?_
      refine aw_ladd C dX6_demand_68 ?_
      refine aw_aload_n C dX6_demand_69 0 rfl ?_
      refine aw_getX6 C K inX6_demand_6 dX6_demand_70 3 (by decide) qX6_demand_fieldLink_RX6_13 0 (wX6_g ..) rfl ?_
      refine aw_iload_n C dX6_demand_73 1 rfl ?_
      obtain ⟨b74, h⟩ := h
      refine aw_iald C K dX6_demand_74 2 (wX6_g3 ..) b74 ?_
      refine aw_i2l C dX6_demand_75 ?_
      refine aw_lcmp C dX6_demand_76 ?_
      refine aw_if_le (tgt := 86) C dX6_demand_77 (by decide) (fun c77 => ?_) (fun c77 => ?_)
      · have h := h.1 c77
        refine aw_iconst (v := 0) C dX6_demand_86 (by decide) ?_
        refine aw_istore (lv' := [(6, .int 0), (0, .ref o), (1, .int x1), (2, .int x2), (3, .int x3), (4, .int x4), (5, .int x5)]) C dX6_demand_87 (by decide) rfl ?_
        refine aw_iconst (v := 1) C dX6_demand_89 (by decide) ?_
        refine aw_istore (lv' := [(7, .int 1), (6, .int 0), (0, .ref o), (1, .int x1), (2, .int x2), (3, .int x3), (4, .int x4), (5, .int x5)]) C dX6_demand_90 (by decide) rfl ?_
        refine aw_iconst (v := 0) C dX6_demand_92 (by decide) ?_
        refine aw_istore (lv' := [(8, .int 0), (7, .int 1), (6, .int 0), (0, .ref o), (1, .int x1), (2, .int x2), (3, .int x3), (4, .int x4), (5, .int x5)]) C dX6_demand_93 (by decide) rfl ?_
        refine aw_lv [3, 4, 5, 6, 7, 8, 2, 1, 0] rfl ?_
        refine tlX6_demand_95 C K ?_ s2 0 1 0 h
        intro s_295 z295_6 z295_7 h
        refine aw_iload C dX6_demand_295 5 rfl ?_
        refine aw_if_ne (tgt := 303) C dX6_demand_297 (by decide) (fun c297 => ?_) (fun c297 => ?_)
        · have h := h.2 c297
          refine aw_aload_n C dX6_demand_303 0 rfl ?_
          refine aw_iconst (v := 0) C dX6_demand_304 (by decide) ?_
          refine aw_putX6 (ty := .int) C K inX6_demand_6 dX6_demand_305 1 (by decide) qX6_demand_fieldLink_RX6_85 0 (wX6_g ..) rfl (by decide +kernel) rfl rfl (Nat.le_of_ble_eq_true rfl) (wX6_p1 ..) ?_
          obtain ⟨s305, es305⟩ : ∃ z, z = (uF s_295 1 0) := ⟨_, rfl⟩
          rw [← es305]
          have h := h s305 es305
          refine aw_aload_n C dX6_demand_308 0 rfl ?_
          refine aw_iload_n C dX6_demand_309 1 rfl ?_
          refine aw_iload C dX6_demand_310 4 rfl ?_
          refine aw_callV (As := [.int x3, .int z295_6]) (rest := []) C K (mtX6_findParts l D cy o ad s305 x3 z295_6 _ h) (cwV 2 C.2.2.2.2.1 gX6_demand_X6_findParts rfl rfl rfl (by decide +kernel) ⟨Nat.le_of_ble_eq_true rfl, Nat.le_of_ble_eq_true rfl⟩) 0 6 (wX6_g ..) rfl rfl rfl rfl (Nat.le_of_ble_eq_true rfl) ⟨Nat.le_of_ble_eq_true rfl, Nat.le_of_ble_eq_true rfl⟩ dX6_demand_312 (fun s312 h => ?_)
          refine aw_iload C dX6_demand_315 2 rfl ?_
          refine aw_ldc (v := (-1000000)) C dX6_demand_317 qX6_demand_constant_RX6_118_1000000 ?_
          refine aw_icmp_ne (tgt := 329) C dX6_demand_319 (by decide) (fun c319 => ?_) (fun c319 => ?_)
          · have h := h.2 c319
            refine aw_iload C dX6_demand_329 2 rfl ?_
            refine aw_i2l C dX6_demand_331 ?_
            refine aw_lconst (v := 0) C dX6_demand_332 (by decide) ?_
            refine aw_aload_n C dX6_demand_333 0 rfl ?_
            refine aw_getX6 C K inX6_demand_6 dX6_demand_334 25 (by decide) qX6_demand_fieldLink_RX6_195 0 (wX6_g ..) rfl ?_
            refine aw_iconst (v := 1) C dX6_demand_337 (by decide) ?_
            refine aw_isub C dX6_demand_338 ?_
            refine aw_i2l C dX6_demand_339 ?_
            refine aw_callS (As := [.long x4.toInt64, .long 0, .long (((sF s312 25) - 1).toInt64)]) (rest := []) C (mtX6_in l x4.toInt64 0 (((sF s312 25) - 1).toInt64) _ h) (va_cwS 3 C.2.2.2.2.1 gX6_demand_X6_in rfl rfl rfl (by decide +kernel) ⟨Nat.le_of_ble_eq_true rfl, Nat.le_of_ble_eq_true rfl⟩) rfl rfl (Nat.le_of_ble_eq_true rfl) ⟨rfl, rfl⟩ ⟨Nat.zero_le _, Nat.zero_le _⟩ dX6_demand_340 (fun r340 h => ?_)
            refine aw_if_ne (tgt := 351) C dX6_demand_343 (by decide) (fun c343 => ?_) (fun c343 => ?_)
            · have h := h.2 c343
              refine aw_iload C dX6_demand_351 3 rfl ?_
              refine aw_if_ge (tgt := 366) C dX6_demand_353 (by decide) (fun c353 => ?_) (fun c353 => ?_)
              · have h := h.1 c353
                refine aw_aload_n C dX6_demand_366 0 rfl ?_
                refine aw_getX6 C K inX6_demand_6 dX6_demand_367 26 (by decide) qX6_demand_fieldLink_RX6_68 0 (wX6_g ..) rfl ?_
                refine aw_bipush (v := 6) C dX6_demand_370 (by decide) ?_
                refine aw_iload C dX6_demand_372 2 rfl ?_
                refine aw_imul C dX6_demand_374 ?_
                refine aw_iload C dX6_demand_375 3 rfl ?_
                refine aw_iadd C dX6_demand_377 ?_
                obtain ⟨b378, h⟩ := h
                refine aw_iald C K dX6_demand_378 20 (wX6_g26 ..) b378 ?_
                refine aw_lv [] rfl ?_
                exact hQ (sA s312 26 ((6 * x4) + x5).toNatClampNeg) s312 h 379 dX6_demand_379
              have h := h.2 c353
              refine aw_aload_n C dX6_demand_356 0 rfl ?_
              refine aw_getX6 C K inX6_demand_6 dX6_demand_357 27 (by decide) qX6_demand_fieldLink_RX6_71 0 (wX6_g ..) rfl ?_
              refine aw_iload C dX6_demand_360 2 rfl ?_
              obtain ⟨b362, h⟩ := h
              refine aw_iald C K dX6_demand_362 21 (wX6_g27 ..) b362 ?_
              refine aw_goto (tgt := 379) C dX6_demand_363 (by decide) ?_
              refine aw_lv [] rfl ?_
              exact hQ (sA s312 27 x4.toNatClampNeg) s312 h 379 dX6_demand_379
            have h := h.1 c343
            refine aw_ldc (v := (-1000000)) C dX6_demand_346 qX6_demand_constant_RX6_118_1000000 ?_
            refine aw_goto (tgt := 379) C dX6_demand_348 (by decide) ?_
            refine aw_lv [] rfl ?_
            exact hQ (-1000000) s312 h 379 dX6_demand_379
          have h := h.1 c319
          refine aw_aload_n C dX6_demand_322 0 rfl ?_
          refine aw_getX6 C K inX6_demand_6 dX6_demand_323 25 (by decide) qX6_demand_fieldLink_RX6_195 0 (wX6_g ..) rfl ?_
          refine aw_goto (tgt := 379) C dX6_demand_326 (by decide) ?_
          refine aw_lv [] rfl ?_
          exact hQ (sF s312 25) s312 h 379 dX6_demand_379
        have h := h.1 c297
        refine aw_ldc (v := (-1000001)) C dX6_demand_300 qX6_demand_constant_RX6_101_1000001 ?_
        refine aw_lv [] rfl ?_
        exact hQ (-1000001) s_295 h 302 dX6_demand_302
      have h := h.2 c77
      refine aw_aload_n C dX6_demand_80 0 rfl ?_
      refine aw_iconst (v := 2) C dX6_demand_81 (by decide) ?_
      refine aw_callI (As := [.int 2]) (rest := []) C K (mtX6_found l D cy o ad s2 2 _ h) (cwV 1 C.2.2.2.2.1 gX6_demand_X6_found rfl rfl rfl (by decide +kernel) ⟨Nat.le_of_ble_eq_true rfl, Nat.le_of_ble_eq_true rfl⟩) 0 6 (wX6_g ..) rfl rfl rfl rfl (Nat.le_of_ble_eq_true rfl) ⟨Nat.le_of_ble_eq_true rfl, Nat.le_of_ble_eq_true rfl⟩ dX6_demand_82 (fun r82 s82 h => ?_)
      refine aw_lv [] rfl ?_
      exact hQ r82 s82 h 85 dX6_demand_85
    have h := h.2 c49
    refine aw_aload_n C dX6_demand_52 0 rfl ?_
    refine aw_iconst (v := 1) C dX6_demand_53 (by decide) ?_
    refine aw_callI (As := [.int 1]) (rest := []) C K (mtX6_found l D cy o ad s2 1 _ h) (cwV 1 C.2.2.2.2.1 gX6_demand_X6_found rfl rfl rfl (by decide +kernel) ⟨Nat.le_of_ble_eq_true rfl, Nat.le_of_ble_eq_true rfl⟩) 0 6 (wX6_g ..) rfl rfl rfl rfl (Nat.le_of_ble_eq_true rfl) ⟨Nat.le_of_ble_eq_true rfl, Nat.le_of_ble_eq_true rfl⟩ dX6_demand_54 (fun r54 s54 h => ?_)
    refine aw_lv [] rfl ?_
    exact hQ r54 s54 h 57 dX6_demand_57
  have h := h.1 c37
  refine aw_ldc (v := (-1000001)) C dX6_demand_40 qX6_demand_constant_RX6_101_1000001 ?_
  refine aw_lv [] rfl ?_
  exact hQ (-1000001) s2 h 42 dX6_demand_42
end SX6_demand
theorem mtX6_demand (l : Launch) (D : va_G) (cy : Nat → ClassId) (o : Nat) (ad : Nat → Nat) (s : St) (x1 : Int32) (x2 : Int32) (x3 : Int32) (x4 : Int32) (x5 : Int32) (Q : Int32 → St → Prop) (hw : pX6_demand  s x1 x2 x3 x4 x5 Q) : mI l yX6_demand wsX6_demand rmX6_demand D cy [.ref o, .int x1, .int x2, .int x3, .int x4, .int x5] (wX6 cy o ad s) (wX6 cy o ad) Q :=
  metI (Wd := wX6 cy o ad) ⟨rfl, rfl⟩ (by decide) rfl (Nat.le_of_ble_eq_true rfl) (fun C K hQ => eX6_demand C K hQ s x1 x2 x3 x4 x5 hw)
def rmX6_cross : Room := { frames := 1, cells := 0, slots := 0, locals := 25 }
theorem inX6_cross_6 : ∀ w ∈ wsX60, w ∈ wsX6_cross := fun w h => (List.mem_cons_of_mem _ (List.mem_append_right _ h))
theorem qX6_cross_fieldLink_RX6_81 : Cond.fieldLink RX6 81 "StageSwitchModel" "thrown" "I" ∈ wsX6_cross := (List.mem_cons_of_mem _ (List.mem_append_left _ (List.mem_of_getElem? (i := 0) rfl)))
theorem qX6_cross_constantLong_RX6_212_64 : Cond.constantLong RX6 212 (64) ∈ wsX6_cross := (List.mem_cons_of_mem _ (List.mem_append_left _ (List.mem_of_getElem? (i := 1) rfl)))
theorem qX6_cross_constant_RX6_101_1000001 : Cond.constant RX6 101 (-1000001) ∈ wsX6_cross := (List.mem_cons_of_mem _ (List.mem_append_left _ (List.mem_of_getElem? (i := 3) rfl)))
theorem qX6_cross_constantLong_RX6_99_2 : Cond.constantLong RX6 99 (2) ∈ wsX6_cross := (List.mem_cons_of_mem _ (List.mem_append_left _ (List.mem_of_getElem? (i := 2) rfl)))
theorem qX6_cross_fieldLink_RX6_77 : Cond.fieldLink RX6 77 "StageSwitchModel" "costs" "[J" ∈ wsX6_cross := (List.mem_cons_of_mem _ (List.mem_append_left _ (List.mem_of_getElem? (i := 4) rfl)))
section SX6_cross
variable {p : Program} {l : Launch} {e : Env} {s0 : State} {m : MethodId} {args : Array Value} {below : List Frame} {meth : Method} {c : Code} {D : va_G} {A : Nat → Prop} {H0 : Heap} {cy : Nat → ClassId} {Z : State → Prop}
theorem tjX6_cross_108 (C : ctB p s0 m args c cX6_cross 12 RX6 wsX6_cross) (K : ctK s0 D A H0 cy) {o : Nat} {ad : Nat → Nat}  {kH : Int64 → Int32 → Prop} (s : St) (x1 : Int32) (x2 : Int32) (x3 : Int32) (x4 : Int32) (x5 : Int32) (x6 : Int64) (x8 : Int32) (u0 : Int32) (hkH : ∀ (y6 : Int64) (y8 : Int32), kH y6 y8 → atG p l e rmX6_cross s0 m args below meth c 0 0 Z 12 (iW D A H0 (wX6 cy o ad s)) [(0, .ref o), (1, .int x1), (2, .int x2), (3, .int x3), (4, .int x4), (5, .int x5), (6, .long y6), (8, .int y8)] [] 73) (h : jX6_cross_108 kH s x1 x2 x3 x4 x5 x6 x8 u0) : atG p l e rmX6_cross s0 m args below meth c 0 0 Z 12 (iW D A H0 (wX6 cy o ad s)) [(0, .ref o), (1, .int x1), (2, .int x2), (3, .int x3), (4, .int x4), (5, .int x5), (6, .long x6), (8, .int x8)] [.int u0] 108 := by
  delta jX6_cross_108 at h
  refine aw_istore (lv' := [(9, .int u0), (0, .ref o), (1, .int x1), (2, .int x2), (3, .int x3), (4, .int x4), (5, .int x5), (6, .long x6), (8, .int x8)]) C dX6_cross_108 (by decide) rfl ?_
  refine aw_ldc2 (v := 2) C dX6_cross_110 qX6_cross_constantLong_RX6_99_2 ?_
  refine aw_iload C dX6_cross_113 6 rfl ?_
  refine aw_i2l C dX6_cross_115 ?_
  refine aw_lmul C dX6_cross_116 ?_
  refine aw_iload C dX6_cross_117 0 rfl ?_
  refine aw_i2l C dX6_cross_119 ?_
  refine aw_lmul C dX6_cross_120 ?_
  refine aw_iload C dX6_cross_121 0 rfl ?_
  refine aw_i2l C dX6_cross_123 ?_
  refine aw_aload_n C dX6_cross_124 1 rfl ?_
  refine aw_getX6 C K inX6_cross_6 dX6_cross_125 29 (by decide) qX6_cross_fieldLink_RX6_77 0 (wX6_g ..) rfl ?_
  refine aw_bipush (v := 65) C dX6_cross_128 (by decide) ?_
  refine aw_iload C dX6_cross_130 5 rfl ?_
  refine aw_iconst (v := 1) C dX6_cross_132 (by decide) ?_
  refine aw_isub C dX6_cross_133 ?_
  refine aw_imul C dX6_cross_134 ?_
  refine aw_iload C dX6_cross_135 6 rfl ?_
  refine aw_iload C dX6_cross_137 8 rfl ?_
  obtain ⟨hz139, h⟩ := h
  refine aw_idiv C dX6_cross_139 hz139 ?_
  refine aw_iadd C dX6_cross_140 ?_
  obtain ⟨b141, h⟩ := h
  refine aw_lald C K dX6_cross_141 23 (wX6_g29 ..) b141 ?_
  refine aw_lmul C dX6_cross_142 ?_
  refine aw_ladd C dX6_cross_143 ?_
  refine aw_nameL (fun v143 ev143 => ?_)
  have h := h v143 ev143
  refine aw_lstore (lv' := [(10, .long v143), (9, .int u0), (0, .ref o), (1, .int x1), (2, .int x2), (3, .int x3), (4, .int x4), (5, .int x5), (6, .long x6), (8, .int x8)]) C dX6_cross_144 (by decide) rfl ?_
  refine aw_lload C dX6_cross_146 0 rfl ?_
  refine aw_lload C dX6_cross_148 8 rfl ?_
  refine aw_lcmp C dX6_cross_150 ?_
  refine aw_if_ge (tgt := 159) C dX6_cross_151 (by decide) (fun c151 => ?_) (fun c151 => ?_)
  · have h := h.1 c151
    refine aw_lload C dX6_cross_159 8 rfl ?_
    refine aw_lstore (lv' := [(6, .long x6), (10, .long v143), (9, .int u0), (0, .ref o), (1, .int x1), (2, .int x2), (3, .int x3), (4, .int x4), (5, .int x5), (8, .int x8)]) C dX6_cross_161 (by decide) rfl ?_
    obtain ⟨x8_163, ex8_163⟩ : ∃ y : Int32, y = x8 + 1 := ⟨_, rfl⟩
    have h := h x8_163 ex8_163
    refine aw_iinc (v := x8_163) (lv' := [(8, .int x8_163), (6, .long x6), (10, .long v143), (9, .int u0), (0, .ref o), (1, .int x1), (2, .int x2), (3, .int x3), (4, .int x4), (5, .int x5)]) C dX6_cross_163 9 rfl (by rw [ex8_163]; rfl) (by decide) rfl ?_
    refine aw_goto (tgt := 73) C dX6_cross_166 (by decide) ?_
    refine aw_lv [4, 5, 6, 7, 8, 9, 1, 0] rfl ?_
    exact hkH x6 x8_163 h
  have h := h.2 c151
  refine aw_lload C dX6_cross_154 0 rfl ?_
  refine aw_goto (tgt := 161) C dX6_cross_156 (by decide) ?_
  refine aw_lstore (lv' := [(6, .long v143), (10, .long v143), (9, .int u0), (0, .ref o), (1, .int x1), (2, .int x2), (3, .int x3), (4, .int x4), (5, .int x5), (8, .int x8)]) C dX6_cross_161 (by decide) rfl ?_
  obtain ⟨x8_163, ex8_163⟩ : ∃ y : Int32, y = x8 + 1 := ⟨_, rfl⟩
  have h := h x8_163 ex8_163
  refine aw_iinc (v := x8_163) (lv' := [(8, .int x8_163), (6, .long v143), (10, .long v143), (9, .int u0), (0, .ref o), (1, .int x1), (2, .int x2), (3, .int x3), (4, .int x4), (5, .int x5)]) C dX6_cross_163 9 rfl (by rw [ex8_163]; rfl) (by decide) rfl ?_
  refine aw_goto (tgt := 73) C dX6_cross_166 (by decide) ?_
  refine aw_lv [4, 5, 6, 7, 8, 9, 1, 0] rfl ?_
  exact hkH v143 x8_163 h
theorem tbX6_cross_73 (C : ctB p s0 m args c cX6_cross 12 RX6 wsX6_cross) (K : ctK s0 D A H0 cy) {o : Nat} {ad : Nat → Nat}  {s : St} {x1 : Int32} {x2 : Int32} {x3 : Int32} {x4 : Int32} {x5 : Int32} {k169 : Int64 → Prop} (hk169 : ∀ (y6 : Int64), k169 y6 → atG p l e rmX6_cross s0 m args below meth c 0 0 Z 12 (iW D A H0 (wX6 cy o ad s)) [(0, .ref o), (1, .int x1), (2, .int x2), (3, .int x3), (4, .int x4), (5, .int x5), (6, .long y6)] [] 169) {kH : Int64 → Int32 → Prop} (hkH : ∀ (y6 : Int64) (y8 : Int32), kH y6 y8 → atG p l e rmX6_cross s0 m args below meth c 0 0 Z 12 (iW D A H0 (wX6 cy o ad s)) [(0, .ref o), (1, .int x1), (2, .int x2), (3, .int x3), (4, .int x4), (5, .int x5), (6, .long y6), (8, .int y8)] [] 73) (x6 : Int64) (x8 : Int32) (h : bX6_cross_73 s x1 x2 x3 x4 x5 k169 kH x6 x8) : atG p l e rmX6_cross s0 m args below meth c 0 0 Z 12 (iW D A H0 (wX6 cy o ad s)) [(0, .ref o), (1, .int x1), (2, .int x2), (3, .int x3), (4, .int x4), (5, .int x5), (6, .long x6), (8, .int x8)] [] 73 := by
  delta bX6_cross_73 at h
  refine aw_iload C dX6_cross_73 7 rfl ?_
  refine aw_iload C dX6_cross_75 5 rfl ?_
  refine aw_icmp_ge (tgt := 169) C dX6_cross_77 (by decide) (fun c77 => ?_) (fun c77 => ?_)
  · have h := h.1 c77
    refine aw_lv [0, 1, 2, 3, 4, 5, 6] rfl ?_
    exact hk169 x6 h
  have h := h.2 c77
  refine aw_iload C dX6_cross_80 4 rfl ?_
  refine aw_if_le (tgt := 169) C dX6_cross_82 (by decide) (fun c82 => ?_) (fun c82 => ?_)
  · have h := h.1 c82
    refine aw_lv [0, 1, 2, 3, 4, 5, 6] rfl ?_
    exact hk169 x6 h
  have h := h.2 c82
  refine aw_iload C dX6_cross_85 5 rfl ?_
  refine aw_iload C dX6_cross_87 7 rfl ?_
  obtain ⟨hz89, h⟩ := h
  refine aw_irem C dX6_cross_89 hz89 ?_
  refine aw_if_ne (tgt := 163) C dX6_cross_90 (by decide) (fun c90 => ?_) (fun c90 => ?_)
  · have h := h.2 c90
    obtain ⟨x8_163, ex8_163⟩ : ∃ y : Int32, y = x8 + 1 := ⟨_, rfl⟩
    have h := h x8_163 ex8_163
    refine aw_iinc (v := x8_163) (lv' := [(8, .int x8_163), (0, .ref o), (1, .int x1), (2, .int x2), (3, .int x3), (4, .int x4), (5, .int x5), (6, .long x6)]) C dX6_cross_163 7 rfl (by rw [ex8_163]; rfl) (by decide) rfl ?_
    refine aw_goto (tgt := 73) C dX6_cross_166 (by decide) ?_
    refine aw_lv [1, 2, 3, 4, 5, 6, 7, 0] rfl ?_
    exact hkH x6 x8_163 h
  have h := h.1 c90
  refine aw_iload_n C dX6_cross_93 3 rfl ?_
  refine aw_if_ne (tgt := 102) C dX6_cross_94 (by decide) (fun c94 => ?_) (fun c94 => ?_)
  · have h := h.2 c94
    refine aw_iconst (v := 2) C dX6_cross_102 (by decide) ?_
    refine aw_iload C dX6_cross_103 7 rfl ?_
    refine aw_imul C dX6_cross_105 ?_
    refine aw_iconst (v := 1) C dX6_cross_106 (by decide) ?_
    refine aw_isub C dX6_cross_107 ?_
    exact tjX6_cross_108 C K s x1 x2 x3 x4 x5 x6 x8 ((2 * x8) - 1) hkH h
  have h := h.1 c94
  refine aw_iload C dX6_cross_97 7 rfl ?_
  refine aw_goto (tgt := 108) C dX6_cross_99 (by decide) ?_
  exact tjX6_cross_108 C K s x1 x2 x3 x4 x5 x6 x8 x8 hkH h
theorem tlX6_cross_73 (C : ctB p s0 m args c cX6_cross 12 RX6 wsX6_cross) (K : ctK s0 D A H0 cy) {o : Nat} {ad : Nat → Nat}  {s : St} {x1 : Int32} {x2 : Int32} {x3 : Int32} {x4 : Int32} {x5 : Int32} {k169 : Int64 → Prop} (hk169 : ∀ (y6 : Int64), k169 y6 → atG p l e rmX6_cross s0 m args below meth c 0 0 Z 12 (iW D A H0 (wX6 cy o ad s)) [(0, .ref o), (1, .int x1), (2, .int x2), (3, .int x3), (4, .int x4), (5, .int x5), (6, .long y6)] [] 169) (x6 : Int64) (x8 : Int32) (h : lX6_cross_73 s x1 x2 x3 x4 x5 k169 x6 x8) : atG p l e rmX6_cross s0 m args below meth c 0 0 Z 12 (iW D A H0 (wX6 cy o ad s)) [(0, .ref o), (1, .int x1), (2, .int x2), (3, .int x3), (4, .int x4), (5, .int x5), (6, .long x6), (8, .int x8)] [] 73 :=
  lp_W (σ := Int64 × Int32) (P := fun q => atG p l e rmX6_cross s0 m args below meth c 0 0 Z 12 (iW D A H0 (wX6 cy o ad s)) [(0, .ref o), (1, .int x1), (2, .int x2), (3, .int x3), (4, .int x4), (5, .int x5), (6, .long q.1), (8, .int q.2)] [] 73) (fun K2 hK2 q hb => tbX6_cross_73 C K hk169 (fun x6 x8 hk => hK2 (x6, x8) hk) q.1 q.2 hb) (x6, x8) h
theorem tbX6_cross_54 (C : ctB p s0 m args c cX6_cross 12 RX6 wsX6_cross) (K : ctK s0 D A H0 cy) {o : Nat} {ad : Nat → Nat}  {x1 : Int32} {x2 : Int32} {x3 : Int32} {x4 : Int32} {k190 : St → Prop} (hk190 : ∀ (s : St), k190 s → atG p l e rmX6_cross s0 m args below meth c 0 0 Z 12 (iW D A H0 (wX6 cy o ad s)) [(0, .ref o), (1, .int x1), (2, .int x2), (3, .int x3), (4, .int x4)] [] 190) {kH : St → Int32 → Prop} (hkH : ∀ (s : St) (y5 : Int32), kH s y5 → atG p l e rmX6_cross s0 m args below meth c 0 0 Z 12 (iW D A H0 (wX6 cy o ad s)) [(0, .ref o), (1, .int x1), (2, .int x2), (3, .int x3), (4, .int x4), (5, .int y5)] [] 54) (s : St) (x5 : Int32) (h : bX6_cross_54 x1 x2 x3 x4 k190 kH s x5) : atG p l e rmX6_cross s0 m args below meth c 0 0 Z 12 (iW D A H0 (wX6 cy o ad s)) [(0, .ref o), (1, .int x1), (2, .int x2), (3, .int x3), (4, .int x4), (5, .int x5)] [] 54 := by
  delta bX6_cross_54 at h
  refine aw_iload C dX6_cross_54 5 rfl ?_
  refine aw_bipush (v := 64) C dX6_cross_56 (by decide) ?_
  refine aw_icmp_gt (tgt := 190) C dX6_cross_58 (by decide) (fun c58 => ?_) (fun c58 => ?_)
  · have h := h.1 c58
    refine aw_lv [0, 1, 2, 3, 4] rfl ?_
    exact hk190 s h
  have h := h.2 c58
  refine aw_iload C dX6_cross_61 5 rfl ?_
  refine aw_i2l C dX6_cross_63 ?_
  refine aw_iload C dX6_cross_64 5 rfl ?_
  refine aw_i2l C dX6_cross_66 ?_
  refine aw_lmul C dX6_cross_67 ?_
  refine aw_nameL (fun x6_68 ex6_68 => ?_)
  have h := h x6_68 ex6_68
  refine aw_lstore (lv' := [(6, .long x6_68), (0, .ref o), (1, .int x1), (2, .int x2), (3, .int x3), (4, .int x4), (5, .int x5)]) C dX6_cross_68 (by decide) rfl ?_
  refine aw_iconst (v := 2) C dX6_cross_70 (by decide) ?_
  refine aw_istore (lv' := [(8, .int 2), (6, .long x6_68), (0, .ref o), (1, .int x1), (2, .int x2), (3, .int x3), (4, .int x4), (5, .int x5)]) C dX6_cross_71 (by decide) rfl ?_
  refine aw_lv [2, 3, 4, 5, 6, 7, 1, 0] rfl ?_
  refine tlX6_cross_73 C K ?_ x6_68 2 h
  intro z169_6 h
  refine aw_aload_n C dX6_cross_169 0 rfl ?_
  refine aw_getX6 C K inX6_cross_6 dX6_cross_170 29 (by decide) qX6_cross_fieldLink_RX6_77 0 (wX6_g ..) rfl ?_
  refine aw_bipush (v := 65) C dX6_cross_173 (by decide) ?_
  refine aw_iload C dX6_cross_175 4 rfl ?_
  refine aw_imul C dX6_cross_177 ?_
  refine aw_iload C dX6_cross_178 5 rfl ?_
  refine aw_iadd C dX6_cross_180 ?_
  refine aw_lload C dX6_cross_181 6 rfl ?_
  obtain ⟨b183, h⟩ := h
  refine aw_last C K dX6_cross_183 23 (wX6_g29 ..) (wX6_s29 ..) b183 ?_
  obtain ⟨s183, es183⟩ : ∃ z, z = (uJ s 29 (vp_updL (sJ s 29) ((65 * x4) + x5).toNatClampNeg z169_6)) := ⟨_, rfl⟩
  rw [← es183]
  have h := h s183 es183
  obtain ⟨x5_184, ex5_184⟩ : ∃ y : Int32, y = x5 + 1 := ⟨_, rfl⟩
  have h := h x5_184 ex5_184
  refine aw_iinc (v := x5_184) (lv' := [(5, .int x5_184), (0, .ref o), (1, .int x1), (2, .int x2), (3, .int x3), (4, .int x4), (6, .long z169_6)]) C dX6_cross_184 5 rfl (by rw [ex5_184]; rfl) (by decide) rfl ?_
  refine aw_goto (tgt := 54) C dX6_cross_187 (by decide) ?_
  refine aw_lv [1, 2, 3, 4, 5, 0] rfl ?_
  exact hkH s183 x5_184 h
theorem tlX6_cross_54 (C : ctB p s0 m args c cX6_cross 12 RX6 wsX6_cross) (K : ctK s0 D A H0 cy) {o : Nat} {ad : Nat → Nat}  {x1 : Int32} {x2 : Int32} {x3 : Int32} {x4 : Int32} {k190 : St → Prop} (hk190 : ∀ (s : St), k190 s → atG p l e rmX6_cross s0 m args below meth c 0 0 Z 12 (iW D A H0 (wX6 cy o ad s)) [(0, .ref o), (1, .int x1), (2, .int x2), (3, .int x3), (4, .int x4)] [] 190) (s : St) (x5 : Int32) (h : lX6_cross_54 x1 x2 x3 x4 k190 s x5) : atG p l e rmX6_cross s0 m args below meth c 0 0 Z 12 (iW D A H0 (wX6 cy o ad s)) [(0, .ref o), (1, .int x1), (2, .int x2), (3, .int x3), (4, .int x4), (5, .int x5)] [] 54 :=
  lp_W (σ := St × Int32) (P := fun q => atG p l e rmX6_cross s0 m args below meth c 0 0 Z 12 (iW D A H0 (wX6 cy o ad q.1)) [(0, .ref o), (1, .int x1), (2, .int x2), (3, .int x3), (4, .int x4), (5, .int q.2)] [] 54) (fun K2 hK2 q hb => tbX6_cross_54 C K hk190 (fun s x5 hk => hK2 (s, x5) hk) q.1 q.2 hb) (s, x5) h
theorem tbX6_cross_45 (C : ctB p s0 m args c cX6_cross 12 RX6 wsX6_cross) (K : ctK s0 D A H0 cy) {o : Nat} {ad : Nat → Nat}  {x1 : Int32} {x2 : Int32} {x3 : Int32} {k196 : St → Prop} (hk196 : ∀ (s : St), k196 s → atG p l e rmX6_cross s0 m args below meth c 0 0 Z 12 (iW D A H0 (wX6 cy o ad s)) [(0, .ref o), (1, .int x1), (2, .int x2)] [] 196) {kH : St → Int32 → Prop} (hkH : ∀ (s : St) (y4 : Int32), kH s y4 → atG p l e rmX6_cross s0 m args below meth c 0 0 Z 12 (iW D A H0 (wX6 cy o ad s)) [(0, .ref o), (1, .int x1), (2, .int x2), (3, .int x3), (4, .int y4)] [] 45) (s : St) (x4 : Int32) (h : bX6_cross_45 x1 x2 x3 k196 kH s x4) : atG p l e rmX6_cross s0 m args below meth c 0 0 Z 12 (iW D A H0 (wX6 cy o ad s)) [(0, .ref o), (1, .int x1), (2, .int x2), (3, .int x3), (4, .int x4)] [] 45 := by
  delta bX6_cross_45 at h
  refine aw_iload C dX6_cross_45 4 rfl ?_
  refine aw_iload_n C dX6_cross_47 2 rfl ?_
  refine aw_icmp_gt (tgt := 196) C dX6_cross_48 (by decide) (fun c48 => ?_) (fun c48 => ?_)
  · have h := h.1 c48
    refine aw_lv [0, 1, 2] rfl ?_
    exact hk196 s h
  have h := h.2 c48
  refine aw_iconst (v := 1) C dX6_cross_51 (by decide) ?_
  refine aw_istore (lv' := [(5, .int 1), (0, .ref o), (1, .int x1), (2, .int x2), (3, .int x3), (4, .int x4)]) C dX6_cross_52 (by decide) rfl ?_
  refine aw_lv [1, 2, 3, 4, 5, 0] rfl ?_
  refine tlX6_cross_54 C K ?_ s 1 h
  intro s_190 h
  obtain ⟨x4_190, ex4_190⟩ : ∃ y : Int32, y = x4 + 1 := ⟨_, rfl⟩
  have h := h x4_190 ex4_190
  refine aw_iinc (v := x4_190) (lv' := [(4, .int x4_190), (0, .ref o), (1, .int x1), (2, .int x2), (3, .int x3)]) C dX6_cross_190 4 rfl (by rw [ex4_190]; rfl) (by decide) rfl ?_
  refine aw_goto (tgt := 45) C dX6_cross_193 (by decide) ?_
  refine aw_lv [1, 2, 3, 4, 0] rfl ?_
  exact hkH s_190 x4_190 h
theorem tlX6_cross_45 (C : ctB p s0 m args c cX6_cross 12 RX6 wsX6_cross) (K : ctK s0 D A H0 cy) {o : Nat} {ad : Nat → Nat}  {x1 : Int32} {x2 : Int32} {x3 : Int32} {k196 : St → Prop} (hk196 : ∀ (s : St), k196 s → atG p l e rmX6_cross s0 m args below meth c 0 0 Z 12 (iW D A H0 (wX6 cy o ad s)) [(0, .ref o), (1, .int x1), (2, .int x2)] [] 196) (s : St) (x4 : Int32) (h : lX6_cross_45 x1 x2 x3 k196 s x4) : atG p l e rmX6_cross s0 m args below meth c 0 0 Z 12 (iW D A H0 (wX6 cy o ad s)) [(0, .ref o), (1, .int x1), (2, .int x2), (3, .int x3), (4, .int x4)] [] 45 :=
  lp_W (σ := St × Int32) (P := fun q => atG p l e rmX6_cross s0 m args below meth c 0 0 Z 12 (iW D A H0 (wX6 cy o ad q.1)) [(0, .ref o), (1, .int x1), (2, .int x2), (3, .int x3), (4, .int q.2)] [] 45) (fun K2 hK2 q hb => tbX6_cross_45 C K hk196 (fun s x4 hk => hK2 (s, x4) hk) q.1 q.2 hb) (s, x4) h
theorem eX6_cross (C : ctB p s0 m args c cX6_cross 12 RX6 wsX6_cross) (K : ctK s0 D A H0 cy) {o : Nat} {ad : Nat → Nat} {Q : Int32 → St → Prop} (hQ : ∀ (v : Int32) (u : St), Q v u → ∀ pc, decode cX6_cross pc = .ok (.ireturn, 1) → atG p l e rmX6_cross s0 m args below meth c 0 0 Z 12 (iW D A H0 (wX6 cy o ad u)) [] [.int v] pc) (s : St) (x1 : Int32) (x2 : Int32) (x3 : Int32) (h : pX6_cross  s x1 x2 x3 Q) : atG p l e rmX6_cross s0 m args below meth c 0 0 Z 12 (iW D A H0 (wX6 cy o ad s)) [(0, .ref o), (1, .int x1), (2, .int x2), (3, .int x3)] [] 0 := by
  delta pX6_cross at h
  refine aw_aload_n C dX6_cross_0 0 rfl ?_
  refine aw_iconst (v := 0) C dX6_cross_1 (by decide) ?_
  refine aw_putX6 (ty := .int) C K inX6_cross_6 dX6_cross_2 0 (by decide) qX6_cross_fieldLink_RX6_81 0 (wX6_g ..) rfl (by decide +kernel) rfl rfl (Nat.le_of_ble_eq_true rfl) (wX6_p0 ..) ?_
  obtain ⟨s2, es2⟩ : ∃ z, z = (uF s 0 0) := ⟨_, rfl⟩
  rw [← es2]
  have h := h s2 es2
  refine aw_iload_n C dX6_cross_5 1 rfl ?_
  refine aw_i2l C dX6_cross_6 ?_
  refine aw_lconst (v := 1) C dX6_cross_7 (by decide) ?_
  refine aw_ldc2 (v := 64) C dX6_cross_8 qX6_cross_constantLong_RX6_212_64 ?_
  refine aw_callS (As := [.long x1.toInt64, .long 1, .long 64]) (rest := []) C (mtX6_in l x1.toInt64 1 64 _ h) (va_cwS 3 C.2.2.2.2.1 gX6_cross_X6_in rfl rfl rfl (by decide +kernel) ⟨Nat.le_of_ble_eq_true rfl, Nat.le_of_ble_eq_true rfl⟩) rfl rfl (Nat.le_of_ble_eq_true rfl) ⟨rfl, rfl⟩ ⟨Nat.zero_le _, Nat.zero_le _⟩ dX6_cross_11 (fun r11 h => ?_)
  refine aw_if_eq (tgt := 39) C dX6_cross_14 (by decide) (fun c14 => ?_) (fun c14 => ?_)
  · have h := h.1 c14
    refine aw_ldc (v := (-1000001)) C dX6_cross_39 qX6_cross_constant_RX6_101_1000001 ?_
    refine aw_lv [] rfl ?_
    exact hQ (-1000001) s2 h 41 dX6_cross_41
  have h := h.2 c14
  refine aw_iload_n C dX6_cross_17 2 rfl ?_
  refine aw_i2l C dX6_cross_18 ?_
  refine aw_lconst (v := 0) C dX6_cross_19 (by decide) ?_
  refine aw_ldc2 (v := 2) C dX6_cross_20 qX6_cross_constantLong_RX6_99_2 ?_
  refine aw_callS (As := [.long x2.toInt64, .long 0, .long 2]) (rest := []) C (mtX6_in l x2.toInt64 0 2 _ h) (va_cwS 3 C.2.2.2.2.1 gX6_cross_X6_in rfl rfl rfl (by decide +kernel) ⟨Nat.le_of_ble_eq_true rfl, Nat.le_of_ble_eq_true rfl⟩) rfl rfl (Nat.le_of_ble_eq_true rfl) ⟨rfl, rfl⟩ ⟨Nat.zero_le _, Nat.zero_le _⟩ dX6_cross_23 (fun r23 h => ?_)
  refine aw_if_eq (tgt := 39) C dX6_cross_26 (by decide) (fun c26 => ?_) (fun c26 => ?_)
  · have h := h.1 c26
    refine aw_ldc (v := (-1000001)) C dX6_cross_39 qX6_cross_constant_RX6_101_1000001 ?_
    refine aw_lv [] rfl ?_
    exact hQ (-1000001) s2 h 41 dX6_cross_41
  have h := h.2 c26
  refine aw_iload_n C dX6_cross_29 3 rfl ?_
  refine aw_i2l C dX6_cross_30 ?_
  refine aw_lconst (v := 0) C dX6_cross_31 (by decide) ?_
  refine aw_lconst (v := 1) C dX6_cross_32 (by decide) ?_
  refine aw_callS (As := [.long x3.toInt64, .long 0, .long 1]) (rest := []) C (mtX6_in l x3.toInt64 0 1 _ h) (va_cwS 3 C.2.2.2.2.1 gX6_cross_X6_in rfl rfl rfl (by decide +kernel) ⟨Nat.le_of_ble_eq_true rfl, Nat.le_of_ble_eq_true rfl⟩) rfl rfl (Nat.le_of_ble_eq_true rfl) ⟨rfl, rfl⟩ ⟨Nat.zero_le _, Nat.zero_le _⟩ dX6_cross_33 (fun r33 h => ?_)
  refine aw_if_ne (tgt := 42) C dX6_cross_36 (by decide) (fun c36 => ?_) (fun c36 => ?_)
  · have h := h.2 c36
    refine aw_iconst (v := 0) C dX6_cross_42 (by decide) ?_
    refine aw_istore (lv' := [(4, .int 0), (0, .ref o), (1, .int x1), (2, .int x2), (3, .int x3)]) C dX6_cross_43 (by decide) rfl ?_
    refine aw_lv [1, 2, 3, 4, 0] rfl ?_
    refine tlX6_cross_45 C K ?_ s2 0 h
    intro s_196 h
    refine aw_aload_n C dX6_cross_196 0 rfl ?_
    refine aw_getX6 C K inX6_cross_6 dX6_cross_197 29 (by decide) qX6_cross_fieldLink_RX6_77 0 (wX6_g ..) rfl ?_
    refine aw_bipush (v := 65) C dX6_cross_200 (by decide) ?_
    refine aw_iload_n C dX6_cross_202 2 rfl ?_
    refine aw_imul C dX6_cross_203 ?_
    refine aw_iload_n C dX6_cross_204 1 rfl ?_
    refine aw_iadd C dX6_cross_205 ?_
    obtain ⟨b206, h⟩ := h
    refine aw_lald C K dX6_cross_206 23 (wX6_g29 ..) b206 ?_
    refine aw_l2i C dX6_cross_207 ?_
    refine aw_lv [] rfl ?_
    exact hQ ((sJ s_196 29 ((65 * x2) + x1).toNatClampNeg).toInt32) s_196 h 208 dX6_cross_208
  have h := h.1 c36
  refine aw_ldc (v := (-1000001)) C dX6_cross_39 qX6_cross_constant_RX6_101_1000001 ?_
  refine aw_lv [] rfl ?_
  exact hQ (-1000001) s2 h 41 dX6_cross_41
end SX6_cross
theorem mtX6_cross (l : Launch) (D : va_G) (cy : Nat → ClassId) (o : Nat) (ad : Nat → Nat) (s : St) (x1 : Int32) (x2 : Int32) (x3 : Int32) (Q : Int32 → St → Prop) (hw : pX6_cross  s x1 x2 x3 Q) : mI l yX6_cross wsX6_cross rmX6_cross D cy [.ref o, .int x1, .int x2, .int x3] (wX6 cy o ad s) (wX6 cy o ad) Q :=
  metI (Wd := wX6 cy o ad) ⟨rfl, rfl⟩ (by decide) rfl (Nat.le_of_ble_eq_true rfl) (fun C K hQ => eX6_cross C K hQ s x1 x2 x3 hw)
def rmX6_shut : Room := { frames := 1, cells := 0, slots := 0, locals := 25 }
theorem inX6_shut_6 : ∀ w ∈ wsX60, w ∈ wsX6_shut := fun w h => (List.mem_cons_of_mem _ (List.mem_append_right _ h))
theorem qX6_shut_fieldLink_RX6_81 : Cond.fieldLink RX6 81 "StageSwitchModel" "thrown" "I" ∈ wsX6_shut := (List.mem_cons_of_mem _ (List.mem_append_left _ (List.mem_of_getElem? (i := 0) rfl)))
theorem qX6_shut_constantLong_RX6_214_9 : Cond.constantLong RX6 214 (9) ∈ wsX6_shut := (List.mem_cons_of_mem _ (List.mem_append_left _ (List.mem_of_getElem? (i := 1) rfl)))
theorem qX6_shut_constantLong_RX6_218_1000001 : Cond.constantLong RX6 218 (-1000001) ∈ wsX6_shut := (List.mem_cons_of_mem _ (List.mem_append_left _ (List.mem_of_getElem? (i := 3) rfl)))
theorem qX6_shut_constantLong_RX6_216_10 : Cond.constantLong RX6 216 (10) ∈ wsX6_shut := (List.mem_cons_of_mem _ (List.mem_append_left _ (List.mem_of_getElem? (i := 2) rfl)))
section SX6_shut
variable {p : Program} {l : Launch} {e : Env} {s0 : State} {m : MethodId} {args : Array Value} {below : List Frame} {meth : Method} {c : Code} {D : va_G} {A : Nat → Prop} {H0 : Heap} {cy : Nat → ClassId} {Z : State → Prop}
theorem tbX6_shut_38 (C : ctB p s0 m args c cX6_shut 6 RX6 wsX6_shut) (K : ctK s0 D A H0 cy) {o : Nat} {ad : Nat → Nat}  {s : St} {x1 : Int32} {x2 : Int32} {k66 : Int64 → Prop} (hk66 : ∀ (y3 : Int64), k66 y3 → atG p l e rmX6_shut s0 m args below meth c 0 0 Z 6 (iW D A H0 (wX6 cy o ad s)) [(0, .ref o), (3, .long y3)] [] 66) {kH : Int64 → Int32 → Prop} (hkH : ∀ (y3 : Int64) (y5 : Int32), kH y3 y5 → atG p l e rmX6_shut s0 m args below meth c 0 0 Z 6 (iW D A H0 (wX6 cy o ad s)) [(0, .ref o), (1, .int x1), (2, .int x2), (3, .long y3), (5, .int y5)] [] 38) (x3 : Int64) (x5 : Int32) (h : bX6_shut_38 s x1 x2 k66 kH x3 x5) : atG p l e rmX6_shut s0 m args below meth c 0 0 Z 6 (iW D A H0 (wX6 cy o ad s)) [(0, .ref o), (1, .int x1), (2, .int x2), (3, .long x3), (5, .int x5)] [] 38 := by
  delta bX6_shut_38 at h
  refine aw_iload C dX6_shut_38 4 rfl ?_
  refine aw_iload_n C dX6_shut_40 1 rfl ?_
  refine aw_icmp_ge (tgt := 66) C dX6_shut_41 (by decide) (fun c41 => ?_) (fun c41 => ?_)
  · have h := h.1 c41
    refine aw_lv [0, 3] rfl ?_
    exact hk66 x3 h
  have h := h.2 c41
  refine aw_lload_n C dX6_shut_44 3 rfl ?_
  refine aw_bipush (v := 100) C dX6_shut_45 (by decide) ?_
  refine aw_bipush (v := 10) C dX6_shut_47 (by decide) ?_
  refine aw_iload_n C dX6_shut_49 2 rfl ?_
  refine aw_isub C dX6_shut_50 ?_
  refine aw_bipush (v := 10) C dX6_shut_51 (by decide) ?_
  refine aw_iload_n C dX6_shut_53 2 rfl ?_
  refine aw_isub C dX6_shut_54 ?_
  refine aw_imul C dX6_shut_55 ?_
  refine aw_isub C dX6_shut_56 ?_
  refine aw_i2l C dX6_shut_57 ?_
  refine aw_lmul C dX6_shut_58 ?_
  refine aw_nameL (fun x3_59 ex3_59 => ?_)
  have h := h x3_59 ex3_59
  refine aw_lstore_n (lv' := [(3, .long x3_59), (0, .ref o), (1, .int x1), (2, .int x2), (5, .int x5)]) C dX6_shut_59 (by decide) rfl ?_
  obtain ⟨x5_60, ex5_60⟩ : ∃ y : Int32, y = x5 + 1 := ⟨_, rfl⟩
  have h := h x5_60 ex5_60
  refine aw_iinc (v := x5_60) (lv' := [(5, .int x5_60), (3, .long x3_59), (0, .ref o), (1, .int x1), (2, .int x2)]) C dX6_shut_60 4 rfl (by rw [ex5_60]; rfl) (by decide) rfl ?_
  refine aw_goto (tgt := 38) C dX6_shut_63 (by decide) ?_
  refine aw_lv [2, 3, 4, 1, 0] rfl ?_
  exact hkH x3_59 x5_60 h
theorem tlX6_shut_38 (C : ctB p s0 m args c cX6_shut 6 RX6 wsX6_shut) (K : ctK s0 D A H0 cy) {o : Nat} {ad : Nat → Nat}  {s : St} {x1 : Int32} {x2 : Int32} {k66 : Int64 → Prop} (hk66 : ∀ (y3 : Int64), k66 y3 → atG p l e rmX6_shut s0 m args below meth c 0 0 Z 6 (iW D A H0 (wX6 cy o ad s)) [(0, .ref o), (3, .long y3)] [] 66) (x3 : Int64) (x5 : Int32) (h : lX6_shut_38 s x1 x2 k66 x3 x5) : atG p l e rmX6_shut s0 m args below meth c 0 0 Z 6 (iW D A H0 (wX6 cy o ad s)) [(0, .ref o), (1, .int x1), (2, .int x2), (3, .long x3), (5, .int x5)] [] 38 :=
  lp_W (σ := Int64 × Int32) (P := fun q => atG p l e rmX6_shut s0 m args below meth c 0 0 Z 6 (iW D A H0 (wX6 cy o ad s)) [(0, .ref o), (1, .int x1), (2, .int x2), (3, .long q.1), (5, .int q.2)] [] 38) (fun K2 hK2 q hb => tbX6_shut_38 C K hk66 (fun x3 x5 hk => hK2 (x3, x5) hk) q.1 q.2 hb) (x3, x5) h
theorem eX6_shut (C : ctB p s0 m args c cX6_shut 6 RX6 wsX6_shut) (K : ctK s0 D A H0 cy) {o : Nat} {ad : Nat → Nat} {Q : Int64 → St → Prop} (hQ : ∀ (v : Int64) (u : St), Q v u → ∀ pc, decode cX6_shut pc = .ok (.lreturn, 1) → atG p l e rmX6_shut s0 m args below meth c 0 0 Z 6 (iW D A H0 (wX6 cy o ad u)) [] [.long v] pc) (s : St) (x1 : Int32) (x2 : Int32) (h : pX6_shut  s x1 x2 Q) : atG p l e rmX6_shut s0 m args below meth c 0 0 Z 6 (iW D A H0 (wX6 cy o ad s)) [(0, .ref o), (1, .int x1), (2, .int x2)] [] 0 := by
  delta pX6_shut at h
  refine aw_aload_n C dX6_shut_0 0 rfl ?_
  refine aw_iconst (v := 0) C dX6_shut_1 (by decide) ?_
  refine aw_putX6 (ty := .int) C K inX6_shut_6 dX6_shut_2 0 (by decide) qX6_shut_fieldLink_RX6_81 0 (wX6_g ..) rfl (by decide +kernel) rfl rfl (Nat.le_of_ble_eq_true rfl) (wX6_p0 ..) ?_
  obtain ⟨s2, es2⟩ : ∃ z, z = (uF s 0 0) := ⟨_, rfl⟩
  rw [← es2]
  have h := h s2 es2
  refine aw_iload_n C dX6_shut_5 1 rfl ?_
  refine aw_i2l C dX6_shut_6 ?_
  refine aw_lconst (v := 1) C dX6_shut_7 (by decide) ?_
  refine aw_ldc2 (v := 9) C dX6_shut_8 qX6_shut_constantLong_RX6_214_9 ?_
  refine aw_callS (As := [.long x1.toInt64, .long 1, .long 9]) (rest := []) C (mtX6_in l x1.toInt64 1 9 _ h) (va_cwS 3 C.2.2.2.2.1 gX6_shut_X6_in rfl rfl rfl (by decide +kernel) ⟨Nat.le_of_ble_eq_true rfl, Nat.le_of_ble_eq_true rfl⟩) rfl rfl (Nat.le_of_ble_eq_true rfl) ⟨rfl, rfl⟩ ⟨Nat.zero_le _, Nat.zero_le _⟩ dX6_shut_11 (fun r11 h => ?_)
  refine aw_if_eq (tgt := 29) C dX6_shut_14 (by decide) (fun c14 => ?_) (fun c14 => ?_)
  · have h := h.1 c14
    refine aw_ldc2 (v := (-1000001)) C dX6_shut_29 qX6_shut_constantLong_RX6_218_1000001 ?_
    refine aw_lv [] rfl ?_
    exact hQ (-1000001) s2 h 32 dX6_shut_32
  have h := h.2 c14
  refine aw_iload_n C dX6_shut_17 2 rfl ?_
  refine aw_i2l C dX6_shut_18 ?_
  refine aw_lconst (v := 0) C dX6_shut_19 (by decide) ?_
  refine aw_ldc2 (v := 10) C dX6_shut_20 qX6_shut_constantLong_RX6_216_10 ?_
  refine aw_callS (As := [.long x2.toInt64, .long 0, .long 10]) (rest := []) C (mtX6_in l x2.toInt64 0 10 _ h) (va_cwS 3 C.2.2.2.2.1 gX6_shut_X6_in rfl rfl rfl (by decide +kernel) ⟨Nat.le_of_ble_eq_true rfl, Nat.le_of_ble_eq_true rfl⟩) rfl rfl (Nat.le_of_ble_eq_true rfl) ⟨rfl, rfl⟩ ⟨Nat.zero_le _, Nat.zero_le _⟩ dX6_shut_23 (fun r23 h => ?_)
  refine aw_if_ne (tgt := 33) C dX6_shut_26 (by decide) (fun c26 => ?_) (fun c26 => ?_)
  · have h := h.2 c26
    refine aw_lconst (v := 1) C dX6_shut_33 (by decide) ?_
    refine aw_lstore_n (lv' := [(3, .long 1), (0, .ref o), (1, .int x1), (2, .int x2)]) C dX6_shut_34 (by decide) rfl ?_
    refine aw_iconst (v := 0) C dX6_shut_35 (by decide) ?_
    refine aw_istore (lv' := [(5, .int 0), (3, .long 1), (0, .ref o), (1, .int x1), (2, .int x2)]) C dX6_shut_36 (by decide) rfl ?_
    refine aw_lv [2, 3, 4, 1, 0] rfl ?_
    refine tlX6_shut_38 C K ?_ 1 0 h
    intro z66_3 h
    refine aw_lload_n C dX6_shut_66 1 rfl ?_
    refine aw_lv [] rfl ?_
    exact hQ z66_3 s2 h 67 dX6_shut_67
  have h := h.1 c26
  refine aw_ldc2 (v := (-1000001)) C dX6_shut_29 qX6_shut_constantLong_RX6_218_1000001 ?_
  refine aw_lv [] rfl ?_
  exact hQ (-1000001) s2 h 32 dX6_shut_32
end SX6_shut
theorem mtX6_shut (l : Launch) (D : va_G) (cy : Nat → ClassId) (o : Nat) (ad : Nat → Nat) (s : St) (x1 : Int32) (x2 : Int32) (Q : Int64 → St → Prop) (hw : pX6_shut  s x1 x2 Q) : mL l yX6_shut wsX6_shut rmX6_shut D cy [.ref o, .int x1, .int x2] (wX6 cy o ad s) (wX6 cy o ad) Q :=
  metL (Wd := wX6 cy o ad) ⟨rfl, rfl⟩ (by decide) rfl (Nat.le_of_ble_eq_true rfl) (fun C K hQ => eX6_shut C K hQ s x1 x2 hw)
def rmX6_count : Room := { frames := 2, cells := 0, slots := 0, locals := 45 }
theorem inX6_count_6 : ∀ w ∈ wsX60, w ∈ wsX6_count := fun w h => (List.mem_cons_of_mem _ (List.mem_append_right _ h))
theorem qX6_count_fieldLink_RX6_81 : Cond.fieldLink RX6 81 "StageSwitchModel" "thrown" "I" ∈ wsX6_count := (List.mem_cons_of_mem _ (List.mem_append_left _ (List.mem_of_getElem? (i := 0) rfl)))
theorem qX6_count_fieldLink_RX6_7 : Cond.fieldLink RX6 7 "StageSwitchModel" "lane" "[I" ∈ wsX6_count := (List.mem_cons_of_mem _ (List.mem_append_left _ (List.mem_of_getElem? (i := 1) rfl)))
theorem qX6_count_fieldLink_RX6_19 : Cond.fieldLink RX6 19 "StageSwitchModel" "middles" "[I" ∈ wsX6_count := (List.mem_cons_of_mem _ (List.mem_append_left _ (List.mem_of_getElem? (i := 2) rfl)))
theorem qX6_count_constant_RX6_101_1000001 : Cond.constant RX6 101 (-1000001) ∈ wsX6_count := (List.mem_cons_of_mem _ (List.mem_append_left _ (List.mem_of_getElem? (i := 3) rfl)))
section SX6_count
variable {p : Program} {l : Launch} {e : Env} {s0 : State} {m : MethodId} {args : Array Value} {below : List Frame} {meth : Method} {c : Code} {D : va_G} {A : Nat → Prop} {H0 : Heap} {cy : Nat → ClassId} {Z : State → Prop}
theorem tbX6_count_50 (C : ctB p s0 m args c cX6_count 4 RX6 wsX6_count) (K : ctK s0 D A H0 cy) {o : Nat} {ad : Nat → Nat}  {s : St} {k79 : Int32 → Prop} (hk79 : ∀ (y2 : Int32), k79 y2 → atG p l e rmX6_count s0 m args below meth c 0 0 Z 4 (iW D A H0 (wX6 cy o ad s)) [(0, .ref o), (2, .int y2)] [] 79) {kH : Int32 → Int32 → Prop} (hkH : ∀ (y2 : Int32) (y3 : Int32), kH y2 y3 → atG p l e rmX6_count s0 m args below meth c 0 0 Z 4 (iW D A H0 (wX6 cy o ad s)) [(0, .ref o), (2, .int y2), (3, .int y3)] [] 50) (x2 : Int32) (x3 : Int32) (h : bX6_count_50 s k79 kH x2 x3) : atG p l e rmX6_count s0 m args below meth c 0 0 Z 4 (iW D A H0 (wX6 cy o ad s)) [(0, .ref o), (2, .int x2), (3, .int x3)] [] 50 := by
  delta bX6_count_50 at h
  refine aw_iload_n C dX6_count_50 2 rfl ?_
  refine aw_bipush (v := 8) C dX6_count_51 (by decide) ?_
  refine aw_icmp_ge (tgt := 79) C dX6_count_53 (by decide) (fun c53 => ?_) (fun c53 => ?_)
  · have h := h.1 c53
    refine aw_lv [0, 1] rfl ?_
    exact hk79 x2 h
  have h := h.2 c53
  refine aw_iload_n C dX6_count_56 1 rfl ?_
  refine aw_aload_n C dX6_count_57 0 rfl ?_
  refine aw_getX6 C K inX6_count_6 dX6_count_58 2 (by decide) qX6_count_fieldLink_RX6_7 0 (wX6_g ..) rfl ?_
  refine aw_iload_n C dX6_count_61 2 rfl ?_
  obtain ⟨b62, h⟩ := h
  refine aw_iald C K dX6_count_62 1 (wX6_g2 ..) b62 ?_
  refine aw_if_lt (tgt := 70) C dX6_count_63 (by decide) (fun c63 => ?_) (fun c63 => ?_)
  · have h := h.1 c63
    refine aw_iconst (v := 0) C dX6_count_70 (by decide) ?_
    refine aw_iadd C dX6_count_71 ?_
    refine aw_name (fun x2_72 ex2_72 => ?_)
    have h := h x2_72 ex2_72
    refine aw_istore_n (lv' := [(2, .int x2_72), (0, .ref o), (3, .int x3)]) C dX6_count_72 (by decide) rfl ?_
    obtain ⟨x3_73, ex3_73⟩ : ∃ y : Int32, y = x3 + 1 := ⟨_, rfl⟩
    have h := h x3_73 ex3_73
    refine aw_iinc (v := x3_73) (lv' := [(3, .int x3_73), (2, .int x2_72), (0, .ref o)]) C dX6_count_73 2 rfl (by rw [ex3_73]; rfl) (by decide) rfl ?_
    refine aw_goto (tgt := 50) C dX6_count_76 (by decide) ?_
    refine aw_lv [2, 1, 0] rfl ?_
    exact hkH x2_72 x3_73 h
  have h := h.2 c63
  refine aw_iconst (v := 1) C dX6_count_66 (by decide) ?_
  refine aw_goto (tgt := 71) C dX6_count_67 (by decide) ?_
  refine aw_iadd C dX6_count_71 ?_
  refine aw_name (fun x2_72 ex2_72 => ?_)
  have h := h x2_72 ex2_72
  refine aw_istore_n (lv' := [(2, .int x2_72), (0, .ref o), (3, .int x3)]) C dX6_count_72 (by decide) rfl ?_
  obtain ⟨x3_73, ex3_73⟩ : ∃ y : Int32, y = x3 + 1 := ⟨_, rfl⟩
  have h := h x3_73 ex3_73
  refine aw_iinc (v := x3_73) (lv' := [(3, .int x3_73), (2, .int x2_72), (0, .ref o)]) C dX6_count_73 2 rfl (by rw [ex3_73]; rfl) (by decide) rfl ?_
  refine aw_goto (tgt := 50) C dX6_count_76 (by decide) ?_
  refine aw_lv [2, 1, 0] rfl ?_
  exact hkH x2_72 x3_73 h
theorem tlX6_count_50 (C : ctB p s0 m args c cX6_count 4 RX6 wsX6_count) (K : ctK s0 D A H0 cy) {o : Nat} {ad : Nat → Nat}  {s : St} {k79 : Int32 → Prop} (hk79 : ∀ (y2 : Int32), k79 y2 → atG p l e rmX6_count s0 m args below meth c 0 0 Z 4 (iW D A H0 (wX6 cy o ad s)) [(0, .ref o), (2, .int y2)] [] 79) (x2 : Int32) (x3 : Int32) (h : lX6_count_50 s k79 x2 x3) : atG p l e rmX6_count s0 m args below meth c 0 0 Z 4 (iW D A H0 (wX6 cy o ad s)) [(0, .ref o), (2, .int x2), (3, .int x3)] [] 50 :=
  lp_W (σ := Int32 × Int32) (P := fun q => atG p l e rmX6_count s0 m args below meth c 0 0 Z 4 (iW D A H0 (wX6 cy o ad s)) [(0, .ref o), (2, .int q.1), (3, .int q.2)] [] 50) (fun K2 hK2 q hb => tbX6_count_50 C K hk79 (fun x2 x3 hk => hK2 (x2, x3) hk) q.1 q.2 hb) (x2, x3) h
theorem tbX6_count_83 (C : ctB p s0 m args c cX6_count 4 RX6 wsX6_count) (K : ctK s0 D A H0 cy) {o : Nat} {ad : Nat → Nat}  {s : St} {x1 : Int32} {k126 : Int32 → Prop} (hk126 : ∀ (y2 : Int32), k126 y2 → atG p l e rmX6_count s0 m args below meth c 0 0 Z 4 (iW D A H0 (wX6 cy o ad s)) [(0, .ref o), (2, .int y2)] [] 126) {kH : Int32 → Int32 → Prop} (hkH : ∀ (y2 : Int32) (y3 : Int32), kH y2 y3 → atG p l e rmX6_count s0 m args below meth c 0 0 Z 4 (iW D A H0 (wX6 cy o ad s)) [(0, .ref o), (1, .int x1), (2, .int y2), (3, .int y3)] [] 83) (x2 : Int32) (x3 : Int32) (h : bX6_count_83 s x1 k126 kH x2 x3) : atG p l e rmX6_count s0 m args below meth c 0 0 Z 4 (iW D A H0 (wX6 cy o ad s)) [(0, .ref o), (1, .int x1), (2, .int x2), (3, .int x3)] [] 83 := by
  delta bX6_count_83 at h
  refine aw_iload_n C dX6_count_83 3 rfl ?_
  refine aw_bipush (v := 6) C dX6_count_84 (by decide) ?_
  refine aw_icmp_ge (tgt := 126) C dX6_count_86 (by decide) (fun c86 => ?_) (fun c86 => ?_)
  · have h := h.1 c86
    refine aw_lv [0, 2] rfl ?_
    exact hk126 x2 h
  have h := h.2 c86
  refine aw_iload_n C dX6_count_89 2 rfl ?_
  refine aw_aload_n C dX6_count_90 0 rfl ?_
  refine aw_getX6 C K inX6_count_6 dX6_count_91 5 (by decide) qX6_count_fieldLink_RX6_19 0 (wX6_g ..) rfl ?_
  refine aw_iload_n C dX6_count_94 3 rfl ?_
  obtain ⟨b95, h⟩ := h
  refine aw_iald C K dX6_count_95 4 (wX6_g5 ..) b95 ?_
  refine aw_if_le (tgt := 117) C dX6_count_96 (by decide) (fun c96 => ?_) (fun c96 => ?_)
  · have h := h.1 c96
    refine aw_iconst (v := 0) C dX6_count_117 (by decide) ?_
    refine aw_iadd C dX6_count_118 ?_
    refine aw_name (fun x2_119 ex2_119 => ?_)
    have h := h x2_119 ex2_119
    refine aw_istore_n (lv' := [(2, .int x2_119), (0, .ref o), (1, .int x1), (3, .int x3)]) C dX6_count_119 (by decide) rfl ?_
    obtain ⟨x3_120, ex3_120⟩ : ∃ y : Int32, y = x3 + 1 := ⟨_, rfl⟩
    have h := h x3_120 ex3_120
    refine aw_iinc (v := x3_120) (lv' := [(3, .int x3_120), (2, .int x2_119), (0, .ref o), (1, .int x1)]) C dX6_count_120 3 rfl (by rw [ex3_120]; rfl) (by decide) rfl ?_
    refine aw_goto (tgt := 83) C dX6_count_123 (by decide) ?_
    refine aw_lv [2, 3, 1, 0] rfl ?_
    exact hkH x2_119 x3_120 h
  have h := h.2 c96
  refine aw_aload_n C dX6_count_99 0 rfl ?_
  refine aw_iload_n C dX6_count_100 3 rfl ?_
  refine aw_callI (As := [.int x3]) (rest := [.int x2]) C K (mtX6_kindOf l D cy o ad s x3 _ h) (cwV 1 C.2.2.2.2.1 gX6_count_X6_kindOf rfl rfl rfl (by decide +kernel) ⟨Nat.le_of_ble_eq_true rfl, Nat.le_of_ble_eq_true rfl⟩) 0 6 (wX6_g ..) rfl rfl rfl rfl (Nat.le_of_ble_eq_true rfl) ⟨Nat.le_of_ble_eq_true rfl, Nat.le_of_ble_eq_true rfl⟩ dX6_count_101 (fun r101 s101 h => ?_)
  obtain ⟨h, hu101⟩ := h
  rw [hu101]
  refine aw_iload_n C dX6_count_104 1 rfl ?_
  refine aw_iconst (v := 1) C dX6_count_105 (by decide) ?_
  refine aw_isub C dX6_count_106 ?_
  refine aw_callS (As := [.int r101, .int (x1 - 1)]) (rest := [.int x2]) C (mtX6_isOf l r101 (x1 - 1) _ h) (va_cwS 2 C.2.2.2.2.1 gX6_count_X6_isOf rfl rfl rfl (by decide +kernel) ⟨Nat.le_of_ble_eq_true rfl, Nat.le_of_ble_eq_true rfl⟩) rfl rfl (Nat.le_of_ble_eq_true rfl) ⟨rfl, rfl⟩ ⟨Nat.zero_le _, Nat.zero_le _⟩ dX6_count_107 (fun r107 h => ?_)
  refine aw_if_eq (tgt := 117) C dX6_count_110 (by decide) (fun c110 => ?_) (fun c110 => ?_)
  · have h := h.1 c110
    refine aw_iconst (v := 0) C dX6_count_117 (by decide) ?_
    refine aw_iadd C dX6_count_118 ?_
    refine aw_name (fun x2_119 ex2_119 => ?_)
    have h := h x2_119 ex2_119
    refine aw_istore_n (lv' := [(2, .int x2_119), (0, .ref o), (1, .int x1), (3, .int x3)]) C dX6_count_119 (by decide) rfl ?_
    obtain ⟨x3_120, ex3_120⟩ : ∃ y : Int32, y = x3 + 1 := ⟨_, rfl⟩
    have h := h x3_120 ex3_120
    refine aw_iinc (v := x3_120) (lv' := [(3, .int x3_120), (2, .int x2_119), (0, .ref o), (1, .int x1)]) C dX6_count_120 3 rfl (by rw [ex3_120]; rfl) (by decide) rfl ?_
    refine aw_goto (tgt := 83) C dX6_count_123 (by decide) ?_
    refine aw_lv [2, 3, 1, 0] rfl ?_
    exact hkH x2_119 x3_120 h
  have h := h.2 c110
  refine aw_iconst (v := 1) C dX6_count_113 (by decide) ?_
  refine aw_goto (tgt := 118) C dX6_count_114 (by decide) ?_
  refine aw_iadd C dX6_count_118 ?_
  refine aw_name (fun x2_119 ex2_119 => ?_)
  have h := h x2_119 ex2_119
  refine aw_istore_n (lv' := [(2, .int x2_119), (0, .ref o), (1, .int x1), (3, .int x3)]) C dX6_count_119 (by decide) rfl ?_
  obtain ⟨x3_120, ex3_120⟩ : ∃ y : Int32, y = x3 + 1 := ⟨_, rfl⟩
  have h := h x3_120 ex3_120
  refine aw_iinc (v := x3_120) (lv' := [(3, .int x3_120), (2, .int x2_119), (0, .ref o), (1, .int x1)]) C dX6_count_120 3 rfl (by rw [ex3_120]; rfl) (by decide) rfl ?_
  refine aw_goto (tgt := 83) C dX6_count_123 (by decide) ?_
  refine aw_lv [2, 3, 1, 0] rfl ?_
  exact hkH x2_119 x3_120 h
theorem tlX6_count_83 (C : ctB p s0 m args c cX6_count 4 RX6 wsX6_count) (K : ctK s0 D A H0 cy) {o : Nat} {ad : Nat → Nat}  {s : St} {x1 : Int32} {k126 : Int32 → Prop} (hk126 : ∀ (y2 : Int32), k126 y2 → atG p l e rmX6_count s0 m args below meth c 0 0 Z 4 (iW D A H0 (wX6 cy o ad s)) [(0, .ref o), (2, .int y2)] [] 126) (x2 : Int32) (x3 : Int32) (h : lX6_count_83 s x1 k126 x2 x3) : atG p l e rmX6_count s0 m args below meth c 0 0 Z 4 (iW D A H0 (wX6 cy o ad s)) [(0, .ref o), (1, .int x1), (2, .int x2), (3, .int x3)] [] 83 :=
  lp_W (σ := Int32 × Int32) (P := fun q => atG p l e rmX6_count s0 m args below meth c 0 0 Z 4 (iW D A H0 (wX6 cy o ad s)) [(0, .ref o), (1, .int x1), (2, .int q.1), (3, .int q.2)] [] 83) (fun K2 hK2 q hb => tbX6_count_83 C K hk126 (fun x2 x3 hk => hK2 (x2, x3) hk) q.1 q.2 hb) (x2, x3) h
theorem tbX6_count_130 (C : ctB p s0 m args c cX6_count 4 RX6 wsX6_count) (K : ctK s0 D A H0 cy) {o : Nat} {ad : Nat → Nat}  {s : St} {k150 : Int32 → Prop} (hk150 : ∀ (y2 : Int32), k150 y2 → atG p l e rmX6_count s0 m args below meth c 0 0 Z 4 (iW D A H0 (wX6 cy o ad s)) [(0, .ref o), (2, .int y2)] [] 150) {kH : Int32 → Int32 → Prop} (hkH : ∀ (y2 : Int32) (y3 : Int32), kH y2 y3 → atG p l e rmX6_count s0 m args below meth c 0 0 Z 4 (iW D A H0 (wX6 cy o ad s)) [(0, .ref o), (2, .int y2), (3, .int y3)] [] 130) (x2 : Int32) (x3 : Int32) (h : bX6_count_130 s k150 kH x2 x3) : atG p l e rmX6_count s0 m args below meth c 0 0 Z 4 (iW D A H0 (wX6 cy o ad s)) [(0, .ref o), (2, .int x2), (3, .int x3)] [] 130 := by
  delta bX6_count_130 at h
  refine aw_iload_n C dX6_count_130 2 rfl ?_
  refine aw_bipush (v := 6) C dX6_count_131 (by decide) ?_
  refine aw_icmp_ge (tgt := 150) C dX6_count_133 (by decide) (fun c133 => ?_) (fun c133 => ?_)
  · have h := h.1 c133
    refine aw_lv [0, 1] rfl ?_
    exact hk150 x2 h
  have h := h.2 c133
  refine aw_iload_n C dX6_count_136 1 rfl ?_
  refine aw_aload_n C dX6_count_137 0 rfl ?_
  refine aw_iload_n C dX6_count_138 2 rfl ?_
  refine aw_callI (As := [.int x3]) (rest := [.int x2]) C K (mtX6_calls l D cy o ad s x3 _ h) (cwV 1 C.2.2.2.2.1 gX6_count_X6_calls rfl rfl rfl (by decide +kernel) ⟨Nat.le_of_ble_eq_true rfl, Nat.le_of_ble_eq_true rfl⟩) 0 6 (wX6_g ..) rfl rfl rfl rfl (Nat.le_of_ble_eq_true rfl) ⟨Nat.le_of_ble_eq_true rfl, Nat.le_of_ble_eq_true rfl⟩ dX6_count_139 (fun r139 s139 h => ?_)
  obtain ⟨h, hu139⟩ := h
  rw [hu139]
  refine aw_iadd C dX6_count_142 ?_
  refine aw_name (fun x2_143 ex2_143 => ?_)
  have h := h x2_143 ex2_143
  refine aw_istore_n (lv' := [(2, .int x2_143), (0, .ref o), (3, .int x3)]) C dX6_count_143 (by decide) rfl ?_
  obtain ⟨x3_144, ex3_144⟩ : ∃ y : Int32, y = x3 + 1 := ⟨_, rfl⟩
  have h := h x3_144 ex3_144
  refine aw_iinc (v := x3_144) (lv' := [(3, .int x3_144), (2, .int x2_143), (0, .ref o)]) C dX6_count_144 2 rfl (by rw [ex3_144]; rfl) (by decide) rfl ?_
  refine aw_goto (tgt := 130) C dX6_count_147 (by decide) ?_
  refine aw_lv [2, 1, 0] rfl ?_
  exact hkH x2_143 x3_144 h
theorem tlX6_count_130 (C : ctB p s0 m args c cX6_count 4 RX6 wsX6_count) (K : ctK s0 D A H0 cy) {o : Nat} {ad : Nat → Nat}  {s : St} {k150 : Int32 → Prop} (hk150 : ∀ (y2 : Int32), k150 y2 → atG p l e rmX6_count s0 m args below meth c 0 0 Z 4 (iW D A H0 (wX6 cy o ad s)) [(0, .ref o), (2, .int y2)] [] 150) (x2 : Int32) (x3 : Int32) (h : lX6_count_130 s k150 x2 x3) : atG p l e rmX6_count s0 m args below meth c 0 0 Z 4 (iW D A H0 (wX6 cy o ad s)) [(0, .ref o), (2, .int x2), (3, .int x3)] [] 130 :=
  lp_W (σ := Int32 × Int32) (P := fun q => atG p l e rmX6_count s0 m args below meth c 0 0 Z 4 (iW D A H0 (wX6 cy o ad s)) [(0, .ref o), (2, .int q.1), (3, .int q.2)] [] 130) (fun K2 hK2 q hb => tbX6_count_130 C K hk150 (fun x2 x3 hk => hK2 (x2, x3) hk) q.1 q.2 hb) (x2, x3) h
theorem eX6_count (C : ctB p s0 m args c cX6_count 4 RX6 wsX6_count) (K : ctK s0 D A H0 cy) {o : Nat} {ad : Nat → Nat} {Q : Int32 → St → Prop} (hQ : ∀ (v : Int32) (u : St), Q v u → ∀ pc, decode cX6_count pc = .ok (.ireturn, 1) → atG p l e rmX6_count s0 m args below meth c 0 0 Z 4 (iW D A H0 (wX6 cy o ad u)) [] [.int v] pc) (s : St) (x1 : Int32) (h : pX6_count  s x1 Q) : atG p l e rmX6_count s0 m args below meth c 0 0 Z 4 (iW D A H0 (wX6 cy o ad s)) [(0, .ref o), (1, .int x1)] [] 0 := by
  delta pX6_count at h
  refine aw_aload_n C dX6_count_0 0 rfl ?_
  refine aw_iconst (v := 0) C dX6_count_1 (by decide) ?_
  refine aw_putX6 (ty := .int) C K inX6_count_6 dX6_count_2 0 (by decide) qX6_count_fieldLink_RX6_81 0 (wX6_g ..) rfl (by decide +kernel) rfl rfl (Nat.le_of_ble_eq_true rfl) (wX6_p0 ..) ?_
  obtain ⟨s2, es2⟩ : ∃ z, z = (uF s 0 0) := ⟨_, rfl⟩
  rw [← es2]
  have h := h s2 es2
  refine aw_iconst (v := 0) C dX6_count_5 (by decide) ?_
  refine aw_istore_n (lv' := [(2, .int 0), (0, .ref o), (1, .int x1)]) C dX6_count_6 (by decide) rfl ?_
  refine aw_iload_n C dX6_count_7 2 rfl ?_
  by_cases c8_0 : x1 = 0
  · refine aw_tabIn (tgt := 48) C dX6_count_8 c8_0 (by decide) (by decide) rfl (by decide) ?_
    have h := h.1 c8_0
    refine aw_iconst (v := 0) C dX6_count_48 (by decide) ?_
    refine aw_istore_n (lv' := [(3, .int 0), (2, .int 0), (0, .ref o), (1, .int x1)]) C dX6_count_49 (by decide) rfl ?_
    refine aw_lv [2, 1, 0] rfl ?_
    refine tlX6_count_50 C K ?_ 0 0 h
    intro z79_2 h
    refine aw_iload_n C dX6_count_79 1 rfl ?_
    refine aw_lv [] rfl ?_
    exact hQ z79_2 s2 h 80 dX6_count_80
  have h := h.2 c8_0
  by_cases c8_1 : x1 = 1
  · refine aw_tabIn (tgt := 81) C dX6_count_8 c8_1 (by decide) (by decide) rfl (by decide) ?_
    have h := h.1 c8_1
    refine aw_iconst (v := 0) C dX6_count_81 (by decide) ?_
    refine aw_istore_n (lv' := [(3, .int 0), (2, .int 0), (0, .ref o), (1, .int x1)]) C dX6_count_82 (by decide) rfl ?_
    refine aw_lv [2, 3, 1, 0] rfl ?_
    refine tlX6_count_83 C K ?_ 0 0 h
    intro z126_2 h
    refine aw_iload_n C dX6_count_126 1 rfl ?_
    refine aw_lv [] rfl ?_
    exact hQ z126_2 s2 h 127 dX6_count_127
  have h := h.2 c8_1
  by_cases c8_2 : x1 = 2
  · refine aw_tabIn (tgt := 81) C dX6_count_8 c8_2 (by decide) (by decide) rfl (by decide) ?_
    have h := h.1 c8_2
    refine aw_iconst (v := 0) C dX6_count_81 (by decide) ?_
    refine aw_istore_n (lv' := [(3, .int 0), (2, .int 0), (0, .ref o), (1, .int x1)]) C dX6_count_82 (by decide) rfl ?_
    refine aw_lv [2, 3, 1, 0] rfl ?_
    refine tlX6_count_83 C K ?_ 0 0 h
    intro z126_2 h
    refine aw_iload_n C dX6_count_126 1 rfl ?_
    refine aw_lv [] rfl ?_
    exact hQ z126_2 s2 h 127 dX6_count_127
  have h := h.2 c8_2
  by_cases c8_3 : x1 = 3
  · refine aw_tabIn (tgt := 81) C dX6_count_8 c8_3 (by decide) (by decide) rfl (by decide) ?_
    have h := h.1 c8_3
    refine aw_iconst (v := 0) C dX6_count_81 (by decide) ?_
    refine aw_istore_n (lv' := [(3, .int 0), (2, .int 0), (0, .ref o), (1, .int x1)]) C dX6_count_82 (by decide) rfl ?_
    refine aw_lv [2, 3, 1, 0] rfl ?_
    refine tlX6_count_83 C K ?_ 0 0 h
    intro z126_2 h
    refine aw_iload_n C dX6_count_126 1 rfl ?_
    refine aw_lv [] rfl ?_
    exact hQ z126_2 s2 h 127 dX6_count_127
  have h := h.2 c8_3
  by_cases c8_4 : x1 = 4
  · refine aw_tabIn (tgt := 81) C dX6_count_8 c8_4 (by decide) (by decide) rfl (by decide) ?_
    have h := h.1 c8_4
    refine aw_iconst (v := 0) C dX6_count_81 (by decide) ?_
    refine aw_istore_n (lv' := [(3, .int 0), (2, .int 0), (0, .ref o), (1, .int x1)]) C dX6_count_82 (by decide) rfl ?_
    refine aw_lv [2, 3, 1, 0] rfl ?_
    refine tlX6_count_83 C K ?_ 0 0 h
    intro z126_2 h
    refine aw_iload_n C dX6_count_126 1 rfl ?_
    refine aw_lv [] rfl ?_
    exact hQ z126_2 s2 h 127 dX6_count_127
  have h := h.2 c8_4
  by_cases c8_5 : x1 = 5
  · refine aw_tabIn (tgt := 128) C dX6_count_8 c8_5 (by decide) (by decide) rfl (by decide) ?_
    have h := h.1 c8_5
    refine aw_iconst (v := 0) C dX6_count_128 (by decide) ?_
    refine aw_istore_n (lv' := [(3, .int 0), (2, .int 0), (0, .ref o), (1, .int x1)]) C dX6_count_129 (by decide) rfl ?_
    refine aw_lv [2, 1, 0] rfl ?_
    refine tlX6_count_130 C K ?_ 0 0 h
    intro z150_2 h
    refine aw_iload_n C dX6_count_150 1 rfl ?_
    refine aw_lv [] rfl ?_
    exact hQ z150_2 s2 h 151 dX6_count_151
  have h := h.2 c8_5
  refine aw_tabOut (tgt := 152) C dX6_count_8 (tab_out 0 6 (by decide) (fun j hj => match j, hj with | 0, _ => fun e => c8_0 (Int32.toInt_inj.mp (e.trans (by decide))) | 1, _ => fun e => c8_1 (Int32.toInt_inj.mp (e.trans (by decide))) | 2, _ => fun e => c8_2 (Int32.toInt_inj.mp (e.trans (by decide))) | 3, _ => fun e => c8_3 (Int32.toInt_inj.mp (e.trans (by decide))) | 4, _ => fun e => c8_4 (Int32.toInt_inj.mp (e.trans (by decide))) | 5, _ => fun e => c8_5 (Int32.toInt_inj.mp (e.trans (by decide))) | j + 6, hj => absurd hj (by omega))) (by decide) ?_
  refine aw_ldc (v := (-1000001)) C dX6_count_152 qX6_count_constant_RX6_101_1000001 ?_
  refine aw_lv [] rfl ?_
  exact hQ (-1000001) s2 h 154 dX6_count_154
end SX6_count
theorem mtX6_count (l : Launch) (D : va_G) (cy : Nat → ClassId) (o : Nat) (ad : Nat → Nat) (s : St) (x1 : Int32) (Q : Int32 → St → Prop) (hw : pX6_count  s x1 Q) : mI l yX6_count wsX6_count rmX6_count D cy [.ref o, .int x1] (wX6 cy o ad s) (wX6 cy o ad) Q :=
  metI (Wd := wX6 cy o ad) ⟨rfl, rfl⟩ (by decide) rfl (Nat.le_of_ble_eq_true rfl) (fun C K hQ => eX6_count C K hQ s x1 hw)
def rmX6_status : Room := { frames := 0, cells := 0, slots := 0, locals := 0 }
theorem inX6_status_6 : ∀ w ∈ wsX60, w ∈ wsX6_status := fun w h => (List.mem_cons_of_mem _ (List.mem_append_right _ h))
theorem qX6_status_fieldLink_RX6_81 : Cond.fieldLink RX6 81 "StageSwitchModel" "thrown" "I" ∈ wsX6_status := (List.mem_cons_of_mem _ (List.mem_append_left _ (List.mem_of_getElem? (i := 0) rfl)))
theorem qX6_status_fieldLink_RX6_85 : Cond.fieldLink RX6 85 "StageSwitchModel" "status" "I" ∈ wsX6_status := (List.mem_cons_of_mem _ (List.mem_append_left _ (List.mem_of_getElem? (i := 1) rfl)))
section SX6_status
variable {p : Program} {l : Launch} {e : Env} {s0 : State} {m : MethodId} {args : Array Value} {below : List Frame} {meth : Method} {c : Code} {D : va_G} {A : Nat → Prop} {H0 : Heap} {cy : Nat → ClassId} {Z : State → Prop}
theorem eX6_status (C : ctB p s0 m args c cX6_status 1 RX6 wsX6_status) (K : ctK s0 D A H0 cy) {o : Nat} {ad : Nat → Nat} {Q : Int32 → St → Prop} (hQ : ∀ (v : Int32) (u : St), Q v u → ∀ pc, decode cX6_status pc = .ok (.ireturn, 1) → atG p l e rmX6_status s0 m args below meth c 0 0 Z 1 (iW D A H0 (wX6 cy o ad u)) [] [.int v] pc) (s : St)  (h : pX6_status  s Q) : atG p l e rmX6_status s0 m args below meth c 0 0 Z 1 (iW D A H0 (wX6 cy o ad s)) [(0, .ref o)] [] 0 := by
  delta pX6_status at h
  refine aw_aload_n C dX6_status_0 0 rfl ?_
  refine aw_iconst (v := 0) C dX6_status_1 (by decide) ?_
  refine aw_putX6 (ty := .int) C K inX6_status_6 dX6_status_2 0 (by decide) qX6_status_fieldLink_RX6_81 0 (wX6_g ..) rfl (by decide +kernel) rfl rfl (Nat.le_of_ble_eq_true rfl) (wX6_p0 ..) ?_
  obtain ⟨s2, es2⟩ : ∃ z, z = (uF s 0 0) := ⟨_, rfl⟩
  rw [← es2]
  have h := h s2 es2
  refine aw_aload_n C dX6_status_5 0 rfl ?_
  refine aw_getX6 C K inX6_status_6 dX6_status_6 1 (by decide) qX6_status_fieldLink_RX6_85 0 (wX6_g ..) rfl ?_
  refine aw_lv [] rfl ?_
  exact hQ (sF s2 1) s2 h 9 dX6_status_9
end SX6_status
theorem mtX6_status (l : Launch) (D : va_G) (cy : Nat → ClassId) (o : Nat) (ad : Nat → Nat) (s : St)  (Q : Int32 → St → Prop) (hw : pX6_status  s Q) : mI l yX6_status wsX6_status rmX6_status D cy [.ref o] (wX6 cy o ad s) (wX6 cy o ad) Q :=
  metI (Wd := wX6 cy o ad) ⟨rfl, rfl⟩ (by decide) rfl (Nat.le_of_ble_eq_true rfl) (fun C K hQ => eX6_status C K hQ s hw)
