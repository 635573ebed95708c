def rmX5_found : Room := { frames := 0, cells := 0, slots := 0, locals := 0 }
theorem inX5_found_5 : ∀ w ∈ wsX50, w ∈ wsX5_found := fun w h => (List.mem_cons_of_mem _ (List.mem_append_right _ h))
theorem qX5_found_fieldLink_RX5_42 : Cond.fieldLink RX5 42 "StageSwitch" "latestFinding" "I" ∈ wsX5_found := (List.mem_cons_of_mem _ (List.mem_append_left _ (List.mem_of_getElem? (i := 0) rfl)))
theorem qX5_found_constant_RX5_204_1000010 : Cond.constant RX5 204 (-1000010) ∈ wsX5_found := (List.mem_cons_of_mem _ (List.mem_append_left _ (List.mem_of_getElem? (i := 1) rfl)))
section SX5_found
variable {p : Program} {l : Launch} {e : Env} {s0 : State} {m : MethodId} {args : Array Value} {below : List Frame} {meth : Method} {c : Code} {D : va_G} {A : Nat → Prop} {H0 : Heap} {cy : Nat → ClassId} {Z : State → Prop}
theorem eX5_found (C : ctB p s0 m args c cX5_found 2 RX5 wsX5_found) (K : ctK s0 D A H0 cy) {o : Nat} {ad : Nat → Nat} {oa : Nat} {aa : Nat → Nat} {or_ : Nat} {ar : Nat → Nat} {op : Nat} {ap : Nat → Nat} {Q : Int32 → TS → Prop} (hQ : ∀ (v : Int32) (u : TS), Q v u → ∀ pc, decode cX5_found pc = .ok (.ireturn, 1) → atG p l e rmX5_found s0 m args below meth c 0 0 Z 2 (iW D A H0 (wX5 cy o ad oa aa or_ ar op ap u)) [] [.int v] pc) (s : TS) (x1 : Int32) (h : pX5_found  s x1 Q) : atG p l e rmX5_found s0 m args below meth c 0 0 Z 2 (iW D A H0 (wX5 cy o ad oa aa or_ ar op ap s)) [(0, .ref o), (1, .int x1)] [] 0 := by
  delta pX5_found at h
  refine aw_aload_n C dX5_found_0 0 rfl ?_
  refine aw_iload_n C dX5_found_1 1 rfl ?_
  refine aw_putX5 (ty := .int) C K inX5_found_5 dX5_found_2 5 (by decide) qX5_found_fieldLink_RX5_42 0 (g5 ..) rfl (by decide +kernel) rfl rfl (Nat.le_of_ble_eq_true rfl) (p5 ..) ?_
  obtain ⟨s2, es2⟩ : ∃ z, z = (uX s (uF (tX s) 5 x1)) := ⟨_, rfl⟩
  rw [← es2]
  have h := h s2 es2
  refine aw_ldc (v := (-1000010)) C dX5_found_5 qX5_found_constant_RX5_204_1000010 ?_
  refine aw_iload_n C dX5_found_7 1 rfl ?_
  refine aw_isub C dX5_found_8 ?_
  refine aw_lv [] rfl ?_
  exact hQ ((-1000010) - x1) s2 h 9 dX5_found_9
end SX5_found
theorem mtX5_found (l : Launch) (D : va_G) (cy : Nat → ClassId) (o : Nat) (ad : Nat → Nat) (oa : Nat) (aa : Nat → Nat) (or_ : Nat) (ar : Nat → Nat) (op : Nat) (ap : Nat → Nat) (s : TS) (x1 : Int32) (Q : Int32 → TS → Prop) (hw : pX5_found  s x1 Q) : mI l yX5_found wsX5_found rmX5_found D cy [.ref o, .int x1] (wX5 cy o ad oa aa or_ ar op ap s) (wX5 cy o ad oa aa or_ ar op ap) Q :=
  metI (Wd := wX5 cy o ad oa aa or_ ar op ap) ⟨rfl, rfl⟩ (by decide) rfl (Nat.le_of_ble_eq_true rfl) (fun C K hQ => eX5_found C K hQ s x1 hw)
def rmX5_fine : Room := { frames := 0, cells := 0, slots := 0, locals := 0 }
theorem inX5_fine_5 : ∀ w ∈ wsX50, w ∈ wsX5_fine := fun w h => (List.mem_cons_of_mem _ (List.mem_append_right _ h))
theorem qX5_fine_fieldLink_RX5_42 : Cond.fieldLink RX5 42 "StageSwitch" "latestFinding" "I" ∈ wsX5_fine := (List.mem_cons_of_mem _ (List.mem_append_left _ (List.mem_of_getElem? (i := 0) rfl)))
section SX5_fine
variable {p : Program} {l : Launch} {e : Env} {s0 : State} {m : MethodId} {args : Array Value} {below : List Frame} {meth : Method} {c : Code} {D : va_G} {A : Nat → Prop} {H0 : Heap} {cy : Nat → ClassId} {Z : State → Prop}
theorem eX5_fine (C : ctB p s0 m args c cX5_fine 2 RX5 wsX5_fine) (K : ctK s0 D A H0 cy) {o : Nat} {ad : Nat → Nat} {oa : Nat} {aa : Nat → Nat} {or_ : Nat} {ar : Nat → Nat} {op : Nat} {ap : Nat → Nat} {Q : Int32 → TS → Prop} (hQ : ∀ (v : Int32) (u : TS), Q v u → ∀ pc, decode cX5_fine pc = .ok (.ireturn, 1) → atG p l e rmX5_fine s0 m args below meth c 0 0 Z 2 (iW D A H0 (wX5 cy o ad oa aa or_ ar op ap u)) [] [.int v] pc) (s : TS) (x1 : Int32) (h : pX5_fine  s x1 Q) : atG p l e rmX5_fine s0 m args below meth c 0 0 Z 2 (iW D A H0 (wX5 cy o ad oa aa or_ ar op ap s)) [(0, .ref o), (1, .int x1)] [] 0 := by
  delta pX5_fine at h
  refine aw_aload_n C dX5_fine_0 0 rfl ?_
  refine aw_iconst (v := 0) C dX5_fine_1 (by decide) ?_
  refine aw_putX5 (ty := .int) C K inX5_fine_5 dX5_fine_2 5 (by decide) qX5_fine_fieldLink_RX5_42 0 (g5 ..) rfl (by decide +kernel) rfl rfl (Nat.le_of_ble_eq_true rfl) (p5 ..) ?_
  obtain ⟨s2, es2⟩ : ∃ z, z = (uX s (uF (tX s) 5 0)) := ⟨_, rfl⟩
  rw [← es2]
  have h := h s2 es2
  refine aw_iload_n C dX5_fine_5 1 rfl ?_
  refine aw_lv [] rfl ?_
  exact hQ x1 s2 h 6 dX5_fine_6
end SX5_fine
theorem mtX5_fine (l : Launch) (D : va_G) (cy : Nat → ClassId) (o : Nat) (ad : Nat → Nat) (oa : Nat) (aa : Nat → Nat) (or_ : Nat) (ar : Nat → Nat) (op : Nat) (ap : Nat → Nat) (s : TS) (x1 : Int32) (Q : Int32 → TS → Prop) (hw : pX5_fine  s x1 Q) : mI l yX5_fine wsX5_fine rmX5_fine D cy [.ref o, .int x1] (wX5 cy o ad oa aa or_ ar op ap s) (wX5 cy o ad oa aa or_ ar op ap) Q :=
  metI (Wd := wX5 cy o ad oa aa or_ ar op ap) ⟨rfl, rfl⟩ (by decide) rfl (Nat.le_of_ble_eq_true rfl) (fun C K hQ => eX5_fine C K hQ s x1 hw)
def rmX5_set : Room := { frames := 2, cells := 0, slots := 0, locals := 42 }
theorem inX5_set_4 : ∀ w ∈ wsX40, w ∈ wsX5_set := fun w h => (List.mem_cons_of_mem _ (List.mem_append_right _ h))
theorem inX5_set_5 : ∀ w ∈ wsX50, w ∈ wsX5_set := fun w h => (List.mem_cons_of_mem _ (List.mem_append_left _ (List.mem_append_right _ h)))
theorem qX5_set_fieldLink_RX5_11 : Cond.fieldLink RX5 11 "StageSwitch" "sheets" "[LStageSwitch$Sheet;" ∈ wsX5_set := (List.mem_cons_of_mem _ (List.mem_append_left _ (List.mem_append_left _ (List.mem_append_left _ (List.mem_of_getElem? (i := 1) rfl)))))
theorem qX5_set_fieldLink_RX5_69 : Cond.fieldLink RX5 69 "StageSwitch$Sheet" "items" "[I" ∈ wsX5_set := (List.mem_cons_of_mem _ (List.mem_append_left _ (List.mem_append_left _ (List.mem_append_left _ (List.mem_of_getElem? (i := 2) rfl)))))
theorem qX5_set_constant_RX5_54_1000001 : Cond.constant RX5 54 (-1000001) ∈ wsX5_set := (List.mem_cons_of_mem _ (List.mem_append_left _ (List.mem_append_left _ (List.mem_append_left _ (List.mem_of_getElem? (i := 0) rfl)))))
section SX5_set
variable {p : Program} {l : Launch} {e : Env} {s0 : State} {m : MethodId} {args : Array Value} {below : List Frame} {meth : Method} {c : Code} {D : va_G} {A : Nat → Prop} {H0 : Heap} {cy : Nat → ClassId} {Z : State → Prop}
theorem eX5_set (C : ctB p s0 m args c cX5_set 5 RX5 wsX5_set) (K : ctK s0 D A H0 cy) {o : Nat} {ad : Nat → Nat} {oa : Nat} {aa : Nat → Nat} {or_ : Nat} {ar : Nat → Nat} {op : Nat} {ap : Nat → Nat} {Q : Int32 → TS → Prop} (hQ : ∀ (v : Int32) (u : TS), Q v u → ∀ pc, decode cX5_set pc = .ok (.ireturn, 1) → atG p l e rmX5_set s0 m args below meth c 0 0 Z 5 (iW D A H0 (wX5 cy o ad oa aa or_ ar op ap u)) [] [.int v] pc) (s : TS) (x1 : Int32) (x2 : Int32) (x3 : Int32) (h : pX5_set  s x1 x2 x3 Q) : atG p l e rmX5_set s0 m args below meth c 0 0 Z 5 (iW D A H0 (wX5 cy o ad oa aa or_ ar op ap s)) [(0, .ref o), (1, .int x1), (2, .int x2), (3, .int x3)] [] 0 := by
  delta pX5_set at h
  refine aw_iload_n C dX5_set_0 1 rfl ?_
  refine aw_callS (As := [.int x1]) (rest := []) C (mtX5_isSheet l x1 _ h) (va_cwS 1 C.2.2.2.2.1 gX5_set_X5_isSheet rfl rfl rfl (by decide +kernel) ⟨Nat.le_of_ble_eq_true rfl, Nat.le_of_ble_eq_true rfl⟩) rfl rfl (Nat.le_of_ble_eq_true rfl) ⟨rfl, rfl⟩ ⟨Nat.zero_le _, Nat.zero_le _⟩ dX5_set_1 (fun r1 h => ?_)
  refine aw_if_ne (tgt := 10) C dX5_set_4 (by decide) (fun c4 => ?_) (fun c4 => ?_)
  · have h := h.2 c4
    refine aw_aload_n C dX5_set_10 0 rfl ?_
    refine aw_getX5 C K inX5_set_5 dX5_set_11 0 (by decide) qX5_set_fieldLink_RX5_11 0 (g5 ..) rfl ?_
    refine aw_iload_n C dX5_set_14 1 rfl ?_
    obtain ⟨b15, h⟩ := h
    rcases hz15 : tS s x1.toNatClampNeg with _ | ⟨o15, a15, l15, t15⟩
    · have h := h.1 hz15
      refine aw_aaldN C K dX5_set_15 1 4 (g5S ..) rfl b15 (by show Option.map _ _ = _; rw [hz15]; rfl) ?_
      refine aw_astoreN (lv' := [(4, .null), (0, .ref o), (1, .int x1), (2, .int x2), (3, .int x3)]) C dX5_set_16 (by decide) rfl ?_
      refine aw_aloadN C dX5_set_18 0 rfl ?_
      refine aw_ifnonnullN C dX5_set_20 ?_
      refine aw_aload_n C dX5_set_23 1 rfl ?_
      refine aw_iconst (v := 1) C dX5_set_24 (by decide) ?_
      refine aw_callFI (cells2 := 0) (slots2 := 0) (Wx := wX5 cy o ad oa aa or_ ar op ap) (wr := []) (As := [.int 1]) (rest := []) C K (mtX5_found l D cy o ad oa aa or_ ar op ap s 1 _ h) (permNil _) (fun u => permNil _) (cwV 1 C.2.2.2.2.1 gX5_set_X5_found rfl rfl rfl (by decide +kernel) ⟨Nat.le_of_ble_eq_true rfl, Nat.le_of_ble_eq_true rfl⟩) 0 5 (g5 ..) rfl rfl rfl rfl (Nat.le_of_ble_eq_true rfl) rfl rfl ⟨Nat.le_of_ble_eq_true rfl, Nat.le_of_ble_eq_true rfl⟩ dX5_set_25 (fun r25 s25 h => ?_)
      refine aw_lv [] rfl ?_
      exact hQ r25 s25 h 28 dX5_set_28
    have h := h.2 o15 a15 l15 t15 hz15
    refine aw_aaldS (r := o15) C K dX5_set_15 1 4 (g5S ..) rfl b15 (by show Option.map _ _ = _; rw [hz15]; rfl) ?_
    refine aw_astore (lv' := [(4, .ref o15), (0, .ref o), (1, .int x1), (2, .int x2), (3, .int x3)]) C dX5_set_16 (by decide) rfl ?_
    refine aw_aload C dX5_set_18 0 rfl ?_
    refine aw_ifnonnull (tgt := 29) C dX5_set_20 (by decide) ?_
    refine aw_aload C dX5_set_29 0 rfl ?_
    refine aw_iload_n C dX5_set_31 3 rfl ?_
    refine aw_iconst (v := 1) C dX5_set_32 (by decide) ?_
    refine aw_callFI (cells2 := 0) (slots2 := 0) (Wx := (fun u33 => (wX5 cy o ad oa aa or_ ar op ap (uS s x1.toNatClampNeg (some (o15, a15, l15, u33)))))) (wr := r5S cy o ad oa aa or_ ar op ap s x1.toNatClampNeg) (As := [.int x2, .int 1]) (rest := []) C K (mtX4_holds l D cy o15 a15 l15 t15 x2 1 _ h) (foS cy o ad oa aa or_ ar op ap s (vp_in_lt b15) hz15) (fun u => (foS' cy o ad oa aa or_ ar op ap s (vp_in_lt b15) hz15 u)) (cwV 2 C.2.2.2.2.1 gX5_set_X4_holds rfl rfl rfl (by decide +kernel) ⟨Nat.le_of_ble_eq_true rfl, Nat.le_of_ble_eq_true rfl⟩) 0 4 (wX4_g ..) rfl rfl rfl rfl (Nat.le_of_ble_eq_true rfl) rfl rfl ⟨Nat.le_of_ble_eq_true rfl, Nat.le_of_ble_eq_true rfl⟩ dX5_set_33 (fun r33 u33 h => ?_)
    obtain ⟨h, hu33⟩ := h
    refine aw_perm (w1 := (wX5 cy o ad oa aa or_ ar op ap s)) (by show ((wX5 cy o ad oa aa or_ ar op ap (uS s x1.toNatClampNeg (some (o15, a15, l15, u33))))).Perm _; rw [hu33, uS_self hz15] <;> exact List.Perm.refl _) ?_
    refine aw_if_ne (tgt := 45) C dX5_set_36 (by decide) (fun c36 => ?_) (fun c36 => ?_)
    · have h := h.2 c36
      refine aw_aload C dX5_set_45 0 rfl ?_
      refine aw_perm (w1 := wX4 cy o15 a15 l15 t15 ++ r5S cy o ad oa aa or_ ar op ap s x1.toNatClampNeg) (foS cy o ad oa aa or_ ar op ap s (vp_in_lt b15) hz15) ?_
      refine aw_getX4 C K inX5_set_4 dX5_set_47 1 (by decide) qX5_set_fieldLink_RX5_69 0 (wX4_ag ..) rfl ?_
      refine aw_perm (w1 := (wX5 cy o ad oa aa or_ ar op ap s)) (foS cy o ad oa aa or_ ar op ap s (vp_in_lt b15) hz15).symm ?_
      refine aw_iload_n C dX5_set_50 3 rfl ?_
      refine aw_aload C dX5_set_51 0 rfl ?_
      refine aw_iload_n C dX5_set_53 4 rfl ?_
      refine aw_callFI (cells2 := 0) (slots2 := 0) (Wx := (fun u54 => (wX5 cy o ad oa aa or_ ar op ap (uS s x1.toNatClampNeg (some (o15, a15, l15, u54)))))) (wr := r5S cy o ad oa aa or_ ar op ap s x1.toNatClampNeg) (As := [.int x3]) (rest := [.int x2, .ref (a15 1)]) C K (mtX4_cutToLane l D cy o15 a15 l15 t15 x3 _ h) (foS cy o ad oa aa or_ ar op ap s (vp_in_lt b15) hz15) (fun u => (foS' cy o ad oa aa or_ ar op ap s (vp_in_lt b15) hz15 u)) (cwV 1 C.2.2.2.2.1 gX5_set_X4_cutToLane rfl rfl rfl (by decide +kernel) ⟨Nat.le_of_ble_eq_true rfl, Nat.le_of_ble_eq_true rfl⟩) 0 4 (wX4_g ..) rfl rfl rfl rfl (Nat.le_of_ble_eq_true rfl) rfl rfl ⟨Nat.le_of_ble_eq_true rfl, Nat.le_of_ble_eq_true rfl⟩ dX5_set_54 (fun r54 u54 h => ?_)
      obtain ⟨h, hu54⟩ := h
      refine aw_perm (w1 := (wX5 cy o ad oa aa or_ ar op ap s)) (by show ((wX5 cy o ad oa aa or_ ar op ap (uS s x1.toNatClampNeg (some (o15, a15, l15, u54))))).Perm _; rw [hu54, uS_self hz15] <;> exact List.Perm.refl _) ?_
      obtain ⟨b57, h⟩ := h
      refine aw_perm (w1 := wX4 cy o15 a15 l15 t15 ++ r5S cy o ad oa aa or_ ar op ap s x1.toNatClampNeg) (foS cy o ad oa aa or_ ar op ap s (vp_in_lt b15) hz15) ?_
      refine aw_iast C K dX5_set_57 1 (wX4_ag1 ..) (wX4_as1 ..) b57 ?_
      refine aw_perm (w1 := (wX5 cy o ad oa aa or_ ar op ap (uS s x1.toNatClampNeg (some (o15, a15, l15, (uA t15 1 (upd (sA t15 1) x2.toNatClampNeg r54))))))) (foS' cy o ad oa aa or_ ar op ap s (vp_in_lt b15) hz15 (uA t15 1 (upd (sA t15 1) x2.toNatClampNeg r54))).symm ?_
      obtain ⟨s57, es57⟩ : ∃ z, z = (uS s x1.toNatClampNeg (some (o15, a15, l15, (uA t15 1 (upd (sA t15 1) x2.toNatClampNeg r54))))) := ⟨_, rfl⟩
      rw [← es57]
      have h := h s57 es57
      have hz15_57 : tS s57 x1.toNatClampNeg = some (o15, a15, l15, (uA t15 1 (upd (sA t15 1) x2.toNatClampNeg r54))) := by rw [es57]; exact if_pos rfl
      refine aw_aload_n C dX5_set_58 1 rfl ?_
      refine aw_aload C dX5_set_59 0 rfl ?_
      refine aw_perm (w1 := wX4 cy o15 a15 l15 (uA t15 1 (upd (sA t15 1) x2.toNatClampNeg r54)) ++ r5S cy o ad oa aa or_ ar op ap s57 x1.toNatClampNeg) (foS cy o ad oa aa or_ ar op ap s57 (vp_in_lt b15) hz15_57) ?_
      refine aw_getX4 C K inX5_set_4 dX5_set_61 1 (by decide) qX5_set_fieldLink_RX5_69 0 (wX4_ag ..) rfl ?_
      refine aw_perm (w1 := (wX5 cy o ad oa aa or_ ar op ap s57)) (foS cy o ad oa aa or_ ar op ap s57 (vp_in_lt b15) hz15_57).symm ?_
      refine aw_iload_n C dX5_set_64 3 rfl ?_
      obtain ⟨b65, h⟩ := h
      refine aw_perm (w1 := wX4 cy o15 a15 l15 (uA t15 1 (upd (sA t15 1) x2.toNatClampNeg r54)) ++ r5S cy o ad oa aa or_ ar op ap s57 x1.toNatClampNeg) (foS cy o ad oa aa or_ ar op ap s57 (vp_in_lt b15) hz15_57) ?_
      refine aw_iald C K dX5_set_65 1 (wX4_ag1 ..) b65 ?_
      refine aw_perm (w1 := (wX5 cy o ad oa aa or_ ar op ap s57)) (foS cy o ad oa aa or_ ar op ap s57 (vp_in_lt b15) hz15_57).symm ?_
      refine aw_callFI (cells2 := 0) (slots2 := 0) (Wx := wX5 cy o ad oa aa or_ ar op ap) (wr := []) (As := [.int (sA (uA t15 1 (upd (sA t15 1) x2.toNatClampNeg r54)) 1 x2.toNatClampNeg)]) (rest := []) C K (mtX5_fine l D cy o ad oa aa or_ ar op ap s57 (sA (uA t15 1 (upd (sA t15 1) x2.toNatClampNeg r54)) 1 x2.toNatClampNeg) _ h) (permNil _) (fun u => permNil _) (cwV 1 C.2.2.2.2.1 gX5_set_X5_fine rfl rfl rfl (by decide +kernel) ⟨Nat.le_of_ble_eq_true rfl, Nat.le_of_ble_eq_true rfl⟩) 0 5 (g5 ..) rfl rfl rfl rfl (Nat.le_of_ble_eq_true rfl) rfl rfl ⟨Nat.le_of_ble_eq_true rfl, Nat.le_of_ble_eq_true rfl⟩ dX5_set_66 (fun r66 s66 h => ?_)
      refine aw_lv [] rfl ?_
      exact hQ r66 s66 h 69 dX5_set_69
    have h := h.1 c36
    refine aw_aload_n C dX5_set_39 1 rfl ?_
    refine aw_iconst (v := 2) C dX5_set_40 (by decide) ?_
    refine aw_callFI (cells2 := 0) (slots2 := 0) (Wx := wX5 cy o ad oa aa or_ ar op ap) (wr := []) (As := [.int 2]) (rest := []) C K (mtX5_found l D cy o ad oa aa or_ ar op ap s 2 _ h) (permNil _) (fun u => permNil _) (cwV 1 C.2.2.2.2.1 gX5_set_X5_found rfl rfl rfl (by decide +kernel) ⟨Nat.le_of_ble_eq_true rfl, Nat.le_of_ble_eq_true rfl⟩) 0 5 (g5 ..) rfl rfl rfl rfl (Nat.le_of_ble_eq_true rfl) rfl rfl ⟨Nat.le_of_ble_eq_true rfl, Nat.le_of_ble_eq_true rfl⟩ dX5_set_41 (fun r41 s41 h => ?_)
    refine aw_lv [] rfl ?_
    exact hQ r41 s41 h 44 dX5_set_44
  have h := h.1 c4
  refine aw_ldc (v := (-1000001)) C dX5_set_7 qX5_set_constant_RX5_54_1000001 ?_
  refine aw_lv [] rfl ?_
  exact hQ (-1000001) s h 9 dX5_set_9
end SX5_set
theorem mtX5_set (l : Launch) (D : va_G) (cy : Nat → ClassId) (o : Nat) (ad : Nat → Nat) (oa : Nat) (aa : Nat → Nat) (or_ : Nat) (ar : Nat → Nat) (op : Nat) (ap : Nat → Nat) (s : TS) (x1 : Int32) (x2 : Int32) (x3 : Int32) (Q : Int32 → TS → Prop) (hw : pX5_set  s x1 x2 x3 Q) : mI l yX5_set wsX5_set rmX5_set D cy [.ref o, .int x1, .int x2, .int x3] (wX5 cy o ad oa aa or_ ar op ap s) (wX5 cy o ad oa aa or_ ar op ap) Q :=
  metI (Wd := wX5 cy o ad oa aa or_ ar op ap) ⟨rfl, rfl⟩ (by decide) rfl (Nat.le_of_ble_eq_true rfl) (fun C K hQ => eX5_set C K hQ s x1 x2 x3 hw)
def rmX5_copy : Room := { frames := 2, cells := 0, slots := 0, locals := 42 }
theorem inX5_copy_4 : ∀ w ∈ wsX40, w ∈ wsX5_copy := fun w h => (List.mem_cons_of_mem _ (List.mem_append_right _ h))
theorem inX5_copy_5 : ∀ w ∈ wsX50, w ∈ wsX5_copy := fun w h => (List.mem_cons_of_mem _ (List.mem_append_left _ (List.mem_append_right _ h)))
theorem qX5_copy_constant_RX5_54_1000001 : Cond.constant RX5 54 (-1000001) ∈ wsX5_copy := (List.mem_cons_of_mem _ (List.mem_append_left _ (List.mem_append_left _ (List.mem_append_left _ (List.mem_of_getElem? (i := 0) rfl)))))
theorem qX5_copy_fieldLink_RX5_11 : Cond.fieldLink RX5 11 "StageSwitch" "sheets" "[LStageSwitch$Sheet;" ∈ wsX5_copy := (List.mem_cons_of_mem _ (List.mem_append_left _ (List.mem_append_left _ (List.mem_append_left _ (List.mem_of_getElem? (i := 1) rfl)))))
theorem qX5_copy_fieldLink_RX5_76 : Cond.fieldLink RX5 76 "StageSwitch$Sheet" "lane" "I" ∈ wsX5_copy := (List.mem_cons_of_mem _ (List.mem_append_left _ (List.mem_append_left _ (List.mem_append_left _ (List.mem_of_getElem? (i := 2) rfl)))))
theorem qX5_copy_fieldLink_RX5_69 : Cond.fieldLink RX5 69 "StageSwitch$Sheet" "items" "[I" ∈ wsX5_copy := (List.mem_cons_of_mem _ (List.mem_append_left _ (List.mem_append_left _ (List.mem_append_left _ (List.mem_of_getElem? (i := 3) rfl)))))
theorem qX5_copy_methodLink_RX5_79_arraycopyName : Cond.methodLink RX5 79 arraycopyName ∈ wsX5_copy := (List.mem_cons_of_mem _ (List.mem_append_left _ (List.mem_append_left _ (List.mem_append_left _ (List.mem_of_getElem? (i := 4) rfl)))))
theorem qX5_copy_native_arraycopyName : Cond.native arraycopyName ∈ wsX5_copy := (List.mem_cons_of_mem _ (List.mem_append_left _ (List.mem_append_left _ (List.mem_append_left _ (List.mem_of_getElem? (i := 5) rfl)))))
theorem qX5_copy_static_arraycopyName : Cond.static arraycopyName ∈ wsX5_copy := (List.mem_cons_of_mem _ (List.mem_append_left _ (List.mem_append_left _ (List.mem_append_left _ (List.mem_of_getElem? (i := 6) rfl)))))
theorem qX5_copy_initialized : Cond.initialized "java/lang/System" ∈ wsX5_copy := (List.mem_cons_of_mem _ (List.mem_append_left _ (List.mem_append_left _ (List.mem_append_left _ (List.mem_of_getElem? (i := 7) rfl)))))
section SX5_copy
variable {p : Program} {l : Launch} {e : Env} {s0 : State} {m : MethodId} {args : Array Value} {below : List Frame} {meth : Method} {c : Code} {D : va_G} {A : Nat → Prop} {H0 : Heap} {cy : Nat → ClassId} {Z : State → Prop}
theorem eX5_copy (C : ctB p s0 m args c cX5_copy 8 RX5 wsX5_copy) (K : ctK s0 D A H0 cy) {o : Nat} {ad : Nat → Nat} {oa : Nat} {aa : Nat → Nat} {or_ : Nat} {ar : Nat → Nat} {op : Nat} {ap : Nat → Nat} {Q : Int32 → TS → Prop} (hQ : ∀ (v : Int32) (u : TS), Q v u → ∀ pc, decode cX5_copy pc = .ok (.ireturn, 1) → atG p l e rmX5_copy s0 m args below meth c 0 0 Z 8 (iW D A H0 (wX5 cy o ad oa aa or_ ar op ap u)) [] [.int v] pc) (s : TS) (x1 : Int32) (x2 : Int32) (x3 : Int32) (x4 : Int32) (x5 : Int32) (h : pX5_copy  s x1 x2 x3 x4 x5 Q) : atG p l e rmX5_copy s0 m args below meth c 0 0 Z 8 (iW D A H0 (wX5 cy o ad oa aa or_ ar op ap s)) [(0, .ref o), (1, .int x1), (2, .int x2), (3, .int x3), (4, .int x4), (5, .int x5)] [] 0 := by
  delta pX5_copy at h
  refine aw_iload_n C dX5_copy_0 1 rfl ?_
  refine aw_callS (As := [.int x1]) (rest := []) C (mtX5_isSheet l x1 _ h) (va_cwS 1 C.2.2.2.2.1 gX5_copy_X5_isSheet rfl rfl rfl (by decide +kernel) ⟨Nat.le_of_ble_eq_true rfl, Nat.le_of_ble_eq_true rfl⟩) rfl rfl (Nat.le_of_ble_eq_true rfl) ⟨rfl, rfl⟩ ⟨Nat.zero_le _, Nat.zero_le _⟩ dX5_copy_1 (fun r1 h => ?_)
  refine aw_if_eq (tgt := 14) C dX5_copy_4 (by decide) (fun c4 => ?_) (fun c4 => ?_)
  · have h := h.1 c4
    refine aw_ldc (v := (-1000001)) C dX5_copy_14 qX5_copy_constant_RX5_54_1000001 ?_
    refine aw_lv [] rfl ?_
    exact hQ (-1000001) s h 16 dX5_copy_16
  have h := h.2 c4
  refine aw_iload_n C dX5_copy_7 3 rfl ?_
  refine aw_callS (As := [.int x3]) (rest := []) C (mtX5_isSheet l x3 _ h) (va_cwS 1 C.2.2.2.2.1 gX5_copy_X5_isSheet rfl rfl rfl (by decide +kernel) ⟨Nat.le_of_ble_eq_true rfl, Nat.le_of_ble_eq_true rfl⟩) rfl rfl (Nat.le_of_ble_eq_true rfl) ⟨rfl, rfl⟩ ⟨Nat.zero_le _, Nat.zero_le _⟩ dX5_copy_8 (fun r8 h => ?_)
  refine aw_if_ne (tgt := 17) C dX5_copy_11 (by decide) (fun c11 => ?_) (fun c11 => ?_)
  · have h := h.2 c11
    refine aw_aload_n C dX5_copy_17 0 rfl ?_
    refine aw_getX5 C K inX5_copy_5 dX5_copy_18 0 (by decide) qX5_copy_fieldLink_RX5_11 0 (g5 ..) rfl ?_
    refine aw_iload_n C dX5_copy_21 1 rfl ?_
    obtain ⟨b22, h⟩ := h
    rcases hz22 : tS s x1.toNatClampNeg with _ | ⟨o22, a22, l22, t22⟩
    · have h := h.1 hz22
      refine aw_aaldN C K dX5_copy_22 1 4 (g5S ..) rfl b22 (by show Option.map _ _ = _; rw [hz22]; rfl) ?_
      refine aw_astoreN (lv' := [(6, .null), (0, .ref o), (1, .int x1), (2, .int x2), (3, .int x3), (4, .int x4), (5, .int x5)]) C dX5_copy_23 (by decide) rfl ?_
      refine aw_aload_n C dX5_copy_25 1 rfl ?_
      refine aw_getX5 C K inX5_copy_5 dX5_copy_26 0 (by decide) qX5_copy_fieldLink_RX5_11 0 (g5 ..) rfl ?_
      refine aw_iload_n C dX5_copy_29 4 rfl ?_
      obtain ⟨b30, h⟩ := h
      rcases hz30 : tS s x3.toNatClampNeg with _ | ⟨o30, a30, l30, t30⟩
      · have h := h.1 hz30
        refine aw_aaldN C K dX5_copy_30 1 4 (g5S ..) rfl b30 (by show Option.map _ _ = _; rw [hz30]; rfl) ?_
        refine aw_astoreN (lv' := [(7, .null), (6, .null), (0, .ref o), (1, .int x1), (2, .int x2), (3, .int x3), (4, .int x4), (5, .int x5)]) C dX5_copy_31 (by decide) rfl ?_
        refine aw_aloadN C dX5_copy_33 1 rfl ?_
        refine aw_ifnullN (tgt := 43) C dX5_copy_35 (by decide) ?_
        refine aw_aload_n C dX5_copy_43 2 rfl ?_
        refine aw_iconst (v := 1) C dX5_copy_44 (by decide) ?_
        refine aw_callFI (cells2 := 0) (slots2 := 0) (Wx := wX5 cy o ad oa aa or_ ar op ap) (wr := []) (As := [.int 1]) (rest := []) C K (mtX5_found l D cy o ad oa aa or_ ar op ap s 1 _ h) (permNil _) (fun u => permNil _) (cwV 1 C.2.2.2.2.1 gX5_copy_X5_found rfl rfl rfl (by decide +kernel) ⟨Nat.le_of_ble_eq_true rfl, Nat.le_of_ble_eq_true rfl⟩) 0 5 (g5 ..) rfl rfl rfl rfl (Nat.le_of_ble_eq_true rfl) rfl rfl ⟨Nat.le_of_ble_eq_true rfl, Nat.le_of_ble_eq_true rfl⟩ dX5_copy_45 (fun r45 s45 h => ?_)
        refine aw_lv [] rfl ?_
        exact hQ r45 s45 h 48 dX5_copy_48
      have h := h.2 o30 a30 l30 t30 hz30
      refine aw_aaldS (r := o30) C K dX5_copy_30 1 4 (g5S ..) rfl b30 (by show Option.map _ _ = _; rw [hz30]; rfl) ?_
      refine aw_astore (lv' := [(7, .ref o30), (6, .null), (0, .ref o), (1, .int x1), (2, .int x2), (3, .int x3), (4, .int x4), (5, .int x5)]) C dX5_copy_31 (by decide) rfl ?_
      refine aw_aloadN C dX5_copy_33 1 rfl ?_
      refine aw_ifnullN (tgt := 43) C dX5_copy_35 (by decide) ?_
      refine aw_aload_n C dX5_copy_43 2 rfl ?_
      refine aw_iconst (v := 1) C dX5_copy_44 (by decide) ?_
      refine aw_callFI (cells2 := 0) (slots2 := 0) (Wx := wX5 cy o ad oa aa or_ ar op ap) (wr := []) (As := [.int 1]) (rest := []) C K (mtX5_found l D cy o ad oa aa or_ ar op ap s 1 _ h) (permNil _) (fun u => permNil _) (cwV 1 C.2.2.2.2.1 gX5_copy_X5_found rfl rfl rfl (by decide +kernel) ⟨Nat.le_of_ble_eq_true rfl, Nat.le_of_ble_eq_true rfl⟩) 0 5 (g5 ..) rfl rfl rfl rfl (Nat.le_of_ble_eq_true rfl) rfl rfl ⟨Nat.le_of_ble_eq_true rfl, Nat.le_of_ble_eq_true rfl⟩ dX5_copy_45 (fun r45 s45 h => ?_)
      refine aw_lv [] rfl ?_
      exact hQ r45 s45 h 48 dX5_copy_48
    have h := h.2 o22 a22 l22 t22 hz22
    refine aw_aaldS (r := o22) C K dX5_copy_22 1 4 (g5S ..) rfl b22 (by show Option.map _ _ = _; rw [hz22]; rfl) ?_
    refine aw_astore (lv' := [(6, .ref o22), (0, .ref o), (1, .int x1), (2, .int x2), (3, .int x3), (4, .int x4), (5, .int x5)]) C dX5_copy_23 (by decide) rfl ?_
    refine aw_aload_n C dX5_copy_25 1 rfl ?_
    refine aw_getX5 C K inX5_copy_5 dX5_copy_26 0 (by decide) qX5_copy_fieldLink_RX5_11 0 (g5 ..) rfl ?_
    refine aw_iload_n C dX5_copy_29 4 rfl ?_
    obtain ⟨b30, h⟩ := h
    rcases hz30 : tS s x3.toNatClampNeg with _ | ⟨o30, a30, l30, t30⟩
    · have h := h.1 hz30
      refine aw_aaldN C K dX5_copy_30 1 4 (g5S ..) rfl b30 (by show Option.map _ _ = _; rw [hz30]; rfl) ?_
      refine aw_astoreN (lv' := [(7, .null), (6, .ref o22), (0, .ref o), (1, .int x1), (2, .int x2), (3, .int x3), (4, .int x4), (5, .int x5)]) C dX5_copy_31 (by decide) rfl ?_
      refine aw_aload C dX5_copy_33 1 rfl ?_
      refine aw_ifnull C dX5_copy_35 ?_
      refine aw_aloadN C dX5_copy_38 0 rfl ?_
      refine aw_ifnonnullN C dX5_copy_40 ?_
      refine aw_aload_n C dX5_copy_43 2 rfl ?_
      refine aw_iconst (v := 1) C dX5_copy_44 (by decide) ?_
      refine aw_callFI (cells2 := 0) (slots2 := 0) (Wx := wX5 cy o ad oa aa or_ ar op ap) (wr := []) (As := [.int 1]) (rest := []) C K (mtX5_found l D cy o ad oa aa or_ ar op ap s 1 _ h) (permNil _) (fun u => permNil _) (cwV 1 C.2.2.2.2.1 gX5_copy_X5_found rfl rfl rfl (by decide +kernel) ⟨Nat.le_of_ble_eq_true rfl, Nat.le_of_ble_eq_true rfl⟩) 0 5 (g5 ..) rfl rfl rfl rfl (Nat.le_of_ble_eq_true rfl) rfl rfl ⟨Nat.le_of_ble_eq_true rfl, Nat.le_of_ble_eq_true rfl⟩ dX5_copy_45 (fun r45 s45 h => ?_)
      refine aw_lv [] rfl ?_
      exact hQ r45 s45 h 48 dX5_copy_48
    have h := h.2 o30 a30 l30 t30 hz30
    refine aw_aaldS (r := o30) C K dX5_copy_30 1 4 (g5S ..) rfl b30 (by show Option.map _ _ = _; rw [hz30]; rfl) ?_
    refine aw_astore (lv' := [(7, .ref o30), (6, .ref o22), (0, .ref o), (1, .int x1), (2, .int x2), (3, .int x3), (4, .int x4), (5, .int x5)]) C dX5_copy_31 (by decide) rfl ?_
    refine aw_aload C dX5_copy_33 1 rfl ?_
    refine aw_ifnull C dX5_copy_35 ?_
    refine aw_aload C dX5_copy_38 0 rfl ?_
    refine aw_ifnonnull (tgt := 49) C dX5_copy_40 (by decide) ?_
    refine aw_aload C dX5_copy_49 1 rfl ?_
    refine aw_perm (w1 := wX4 cy o22 a22 l22 t22 ++ r5S cy o ad oa aa or_ ar op ap s x1.toNatClampNeg) (foS cy o ad oa aa or_ ar op ap s (vp_in_lt b22) hz22) ?_
    refine aw_getX4 C K inX5_copy_4 dX5_copy_51 0 (by decide) qX5_copy_fieldLink_RX5_76 0 (wX4_ag ..) rfl ?_
    refine aw_perm (w1 := (wX5 cy o ad oa aa or_ ar op ap s)) (foS cy o ad oa aa or_ ar op ap s (vp_in_lt b22) hz22).symm ?_
    refine aw_aload C dX5_copy_54 0 rfl ?_
    refine aw_perm (w1 := wX4 cy o30 a30 l30 t30 ++ r5S cy o ad oa aa or_ ar op ap s x3.toNatClampNeg) (foS cy o ad oa aa or_ ar op ap s (vp_in_lt b30) hz30) ?_
    refine aw_getX4 C K inX5_copy_4 dX5_copy_56 0 (by decide) qX5_copy_fieldLink_RX5_76 0 (wX4_ag ..) rfl ?_
    refine aw_perm (w1 := (wX5 cy o ad oa aa or_ ar op ap s)) (foS cy o ad oa aa or_ ar op ap s (vp_in_lt b30) hz30).symm ?_
    refine aw_icmp_eq (tgt := 68) C dX5_copy_59 (by decide) (fun c59 => ?_) (fun c59 => ?_)
    · have h := h.1 c59
      refine aw_aload C dX5_copy_68 1 rfl ?_
      refine aw_iload_n C dX5_copy_70 4 rfl ?_
      refine aw_iload C dX5_copy_71 7 rfl ?_
      refine aw_callFI (cells2 := 0) (slots2 := 0) (Wx := (fun u73 => (wX5 cy o ad oa aa or_ ar op ap (uS s x1.toNatClampNeg (some (o22, a22, l22, u73)))))) (wr := r5S cy o ad oa aa or_ ar op ap s x1.toNatClampNeg) (As := [.int x2, .int x5]) (rest := []) C K (mtX4_holds l D cy o22 a22 l22 t22 x2 x5 _ h) (foS cy o ad oa aa or_ ar op ap s (vp_in_lt b22) hz22) (fun u => (foS' cy o ad oa aa or_ ar op ap s (vp_in_lt b22) hz22 u)) (cwV 2 C.2.2.2.2.1 gX5_copy_X4_holds rfl rfl rfl (by decide +kernel) ⟨Nat.le_of_ble_eq_true rfl, Nat.le_of_ble_eq_true rfl⟩) 0 4 (wX4_g ..) rfl rfl rfl rfl (Nat.le_of_ble_eq_true rfl) rfl rfl ⟨Nat.le_of_ble_eq_true rfl, Nat.le_of_ble_eq_true rfl⟩ dX5_copy_73 (fun r73 u73 h => ?_)
      obtain ⟨h, hu73⟩ := h
      refine aw_perm (w1 := (wX5 cy o ad oa aa or_ ar op ap s)) (by show ((wX5 cy o ad oa aa or_ ar op ap (uS s x1.toNatClampNeg (some (o22, a22, l22, u73))))).Perm _; rw [hu73, uS_self hz22] <;> exact List.Perm.refl _) ?_
      refine aw_if_eq (tgt := 91) C dX5_copy_76 (by decide) (fun c76 => ?_) (fun c76 => ?_)
      · have h := h.1 c76
        refine aw_aload_n C dX5_copy_91 2 rfl ?_
        refine aw_iconst (v := 2) C dX5_copy_92 (by decide) ?_
        refine aw_callFI (cells2 := 0) (slots2 := 0) (Wx := wX5 cy o ad oa aa or_ ar op ap) (wr := []) (As := [.int 2]) (rest := []) C K (mtX5_found l D cy o ad oa aa or_ ar op ap s 2 _ h) (permNil _) (fun u => permNil _) (cwV 1 C.2.2.2.2.1 gX5_copy_X5_found rfl rfl rfl (by decide +kernel) ⟨Nat.le_of_ble_eq_true rfl, Nat.le_of_ble_eq_true rfl⟩) 0 5 (g5 ..) rfl rfl rfl rfl (Nat.le_of_ble_eq_true rfl) rfl rfl ⟨Nat.le_of_ble_eq_true rfl, Nat.le_of_ble_eq_true rfl⟩ dX5_copy_93 (fun r93 s93 h => ?_)
        refine aw_lv [] rfl ?_
        exact hQ r93 s93 h 96 dX5_copy_96
      have h := h.2 c76
      refine aw_aload C dX5_copy_79 0 rfl ?_
      refine aw_iload C dX5_copy_81 6 rfl ?_
      refine aw_iload C dX5_copy_83 7 rfl ?_
      refine aw_callFI (cells2 := 0) (slots2 := 0) (Wx := (fun u85 => (wX5 cy o ad oa aa or_ ar op ap (uS s x3.toNatClampNeg (some (o30, a30, l30, u85)))))) (wr := r5S cy o ad oa aa or_ ar op ap s x3.toNatClampNeg) (As := [.int x4, .int x5]) (rest := []) C K (mtX4_holds l D cy o30 a30 l30 t30 x4 x5 _ h) (foS cy o ad oa aa or_ ar op ap s (vp_in_lt b30) hz30) (fun u => (foS' cy o ad oa aa or_ ar op ap s (vp_in_lt b30) hz30 u)) (cwV 2 C.2.2.2.2.1 gX5_copy_X4_holds rfl rfl rfl (by decide +kernel) ⟨Nat.le_of_ble_eq_true rfl, Nat.le_of_ble_eq_true rfl⟩) 0 4 (wX4_g ..) rfl rfl rfl rfl (Nat.le_of_ble_eq_true rfl) rfl rfl ⟨Nat.le_of_ble_eq_true rfl, Nat.le_of_ble_eq_true rfl⟩ dX5_copy_85 (fun r85 u85 h => ?_)
      obtain ⟨h, hu85⟩ := h
      refine aw_perm (w1 := (wX5 cy o ad oa aa or_ ar op ap s)) (by show ((wX5 cy o ad oa aa or_ ar op ap (uS s x3.toNatClampNeg (some (o30, a30, l30, u85))))).Perm _; rw [hu85, uS_self hz30] <;> exact List.Perm.refl _) ?_
      refine aw_if_ne (tgt := 97) C dX5_copy_88 (by decide) (fun c88 => ?_) (fun c88 => ?_)
      · have h := h.2 c88
        refine aw_aload C dX5_copy_97 1 rfl ?_
        refine aw_perm (w1 := wX4 cy o22 a22 l22 t22 ++ r5S cy o ad oa aa or_ ar op ap s x1.toNatClampNeg) (foS cy o ad oa aa or_ ar op ap s (vp_in_lt b22) hz22) ?_
        refine aw_getX4 C K inX5_copy_4 dX5_copy_99 1 (by decide) qX5_copy_fieldLink_RX5_69 0 (wX4_ag ..) rfl ?_
        refine aw_perm (w1 := (wX5 cy o ad oa aa or_ ar op ap s)) (foS cy o ad oa aa or_ ar op ap s (vp_in_lt b22) hz22).symm ?_
        refine aw_iload_n C dX5_copy_102 4 rfl ?_
        refine aw_aload C dX5_copy_103 0 rfl ?_
        refine aw_perm (w1 := wX4 cy o30 a30 l30 t30 ++ r5S cy o ad oa aa or_ ar op ap s x3.toNatClampNeg) (foS cy o ad oa aa or_ ar op ap s (vp_in_lt b30) hz30) ?_
        refine aw_getX4 C K inX5_copy_4 dX5_copy_105 1 (by decide) qX5_copy_fieldLink_RX5_69 0 (wX4_ag ..) rfl ?_
        refine aw_perm (w1 := (wX5 cy o ad oa aa or_ ar op ap s)) (foS cy o ad oa aa or_ ar op ap s (vp_in_lt b30) hz30).symm ?_
        refine aw_iload C dX5_copy_108 6 rfl ?_
        refine aw_iload C dX5_copy_110 7 rfl ?_
        obtain ⟨b1, b2, b3, b4, b5, h⟩ := h
        refine aw_perm (w1 := wX4 cy o30 a30 l30 t30 ++ r5S cy o ad oa aa or_ ar op ap s x3.toNatClampNeg) (foS cy o ad oa aa or_ ar op ap s (vp_in_lt b30) hz30) ?_
        obtain ⟨k112, hk112⟩ := List.getElem?_of_mem (show ((a22 1, .inl (cy 0, l22 1, .inl (sA t22 1))) : Nat × va_E) ∈ wX4 cy o30 a30 l30 t30 ++ r5S cy o ad oa aa or_ ar op ap s x3.toNatClampNeg from ((foS cy o ad oa aa or_ ar op ap s (vp_in_lt b30) hz30).symm.trans (foS cy o ad oa aa or_ ar op ap s (vp_in_lt b22) hz22)).mem_iff.mpr (List.mem_append_left _ (List.mem_cons_of_mem _ List.mem_cons_self)))
        refine aw_copyi C K dX5_copy_112 qX5_copy_methodLink_RX5_79_arraycopyName qX5_copy_native_arraycopyName qX5_copy_static_arraycopyName qX5_copy_initialized k112 1 hk112 (wX4_ag1 ..) b1 b2 b3 b4 b5 (Nat.le_of_ble_eq_true rfl) (Nat.le_of_ble_eq_true rfl) (wX4_as1 ..) ?_
        refine aw_perm (w1 := (wX5 cy o ad oa aa or_ ar op ap (uS s x3.toNatClampNeg (some (o30, a30, l30, (uA t30 1 (va_cpy (sA t22 1) (sA t30 1) x2.toNatClampNeg x4.toNatClampNeg x5.toNatClampNeg))))))) (foS' cy o ad oa aa or_ ar op ap s (vp_in_lt b30) hz30 (uA t30 1 (va_cpy (sA t22 1) (sA t30 1) x2.toNatClampNeg x4.toNatClampNeg x5.toNatClampNeg))).symm ?_
        obtain ⟨s112, es112⟩ : ∃ z, z = (uS s x3.toNatClampNeg (some (o30, a30, l30, (uA t30 1 (va_cpy (sA t22 1) (sA t30 1) x2.toNatClampNeg x4.toNatClampNeg x5.toNatClampNeg))))) := ⟨_, rfl⟩
        rw [← es112]
        have h := h s112 es112
        refine aw_aload_n C dX5_copy_115 2 rfl ?_
        refine aw_iload C dX5_copy_116 7 rfl ?_
        refine aw_callFI (cells2 := 0) (slots2 := 0) (Wx := wX5 cy o ad oa aa or_ ar op ap) (wr := []) (As := [.int x5]) (rest := []) C K (mtX5_fine l D cy o ad oa aa or_ ar op ap s112 x5 _ h) (permNil _) (fun u => permNil _) (cwV 1 C.2.2.2.2.1 gX5_copy_X5_fine rfl rfl rfl (by decide +kernel) ⟨Nat.le_of_ble_eq_true rfl, Nat.le_of_ble_eq_true rfl⟩) 0 5 (g5 ..) rfl rfl rfl rfl (Nat.le_of_ble_eq_true rfl) rfl rfl ⟨Nat.le_of_ble_eq_true rfl, Nat.le_of_ble_eq_true rfl⟩ dX5_copy_118 (fun r118 s118 h => ?_)
        refine aw_lv [] rfl ?_
        exact hQ r118 s118 h 121 dX5_copy_121
      have h := h.1 c88
      refine aw_aload_n C dX5_copy_91 2 rfl ?_
      refine aw_iconst (v := 2) C dX5_copy_92 (by decide) ?_
      refine aw_callFI (cells2 := 0) (slots2 := 0) (Wx := wX5 cy o ad oa aa or_ ar op ap) (wr := []) (As := [.int 2]) (rest := []) C K (mtX5_found l D cy o ad oa aa or_ ar op ap s 2 _ h) (permNil _) (fun u => permNil _) (cwV 1 C.2.2.2.2.1 gX5_copy_X5_found rfl rfl rfl (by decide +kernel) ⟨Nat.le_of_ble_eq_true rfl, Nat.le_of_ble_eq_true rfl⟩) 0 5 (g5 ..) rfl rfl rfl rfl (Nat.le_of_ble_eq_true rfl) rfl rfl ⟨Nat.le_of_ble_eq_true rfl, Nat.le_of_ble_eq_true rfl⟩ dX5_copy_93 (fun r93 s93 h => ?_)
      refine aw_lv [] rfl ?_
      exact hQ r93 s93 h 96 dX5_copy_96
    have h := h.2 c59
    refine aw_aload_n C dX5_copy_62 2 rfl ?_
    refine aw_iconst (v := 5) C dX5_copy_63 (by decide) ?_
    refine aw_callFI (cells2 := 0) (slots2 := 0) (Wx := wX5 cy o ad oa aa or_ ar op ap) (wr := []) (As := [.int 5]) (rest := []) C K (mtX5_found l D cy o ad oa aa or_ ar op ap s 5 _ h) (permNil _) (fun u => permNil _) (cwV 1 C.2.2.2.2.1 gX5_copy_X5_found rfl rfl rfl (by decide +kernel) ⟨Nat.le_of_ble_eq_true rfl, Nat.le_of_ble_eq_true rfl⟩) 0 5 (g5 ..) rfl rfl rfl rfl (Nat.le_of_ble_eq_true rfl) rfl rfl ⟨Nat.le_of_ble_eq_true rfl, Nat.le_of_ble_eq_true rfl⟩ dX5_copy_64 (fun r64 s64 h => ?_)
    refine aw_lv [] rfl ?_
    exact hQ r64 s64 h 67 dX5_copy_67
  have h := h.1 c11
  refine aw_ldc (v := (-1000001)) C dX5_copy_14 qX5_copy_constant_RX5_54_1000001 ?_
  refine aw_lv [] rfl ?_
  exact hQ (-1000001) s h 16 dX5_copy_16
end SX5_copy
theorem mtX5_copy (l : Launch) (D : va_G) (cy : Nat → ClassId) (o : Nat) (ad : Nat → Nat) (oa : Nat) (aa : Nat → Nat) (or_ : Nat) (ar : Nat → Nat) (op : Nat) (ap : Nat → Nat) (s : TS) (x1 : Int32) (x2 : Int32) (x3 : Int32) (x4 : Int32) (x5 : Int32) (Q : Int32 → TS → Prop) (hw : pX5_copy  s x1 x2 x3 x4 x5 Q) : mI l yX5_copy wsX5_copy rmX5_copy D cy [.ref o, .int x1, .int x2, .int x3, .int x4, .int x5] (wX5 cy o ad oa aa or_ ar op ap s) (wX5 cy o ad oa aa or_ ar op ap) Q :=
  metI (Wd := wX5 cy o ad oa aa or_ ar op ap) ⟨rfl, rfl⟩ (by decide) rfl (Nat.le_of_ble_eq_true rfl) (fun C K hQ => eX5_copy C K hQ s x1 x2 x3 x4 x5 hw)
def rmX5_drop : Room := { frames := 2, cells := 0, slots := 0, locals := 42 }
theorem inX5_drop_4 : ∀ w ∈ wsX40, w ∈ wsX5_drop := fun w h => (List.mem_cons_of_mem _ (List.mem_append_right _ h))
theorem inX5_drop_5 : ∀ w ∈ wsX50, w ∈ wsX5_drop := fun w h => (List.mem_cons_of_mem _ (List.mem_append_left _ (List.mem_append_right _ h)))
theorem qX5_drop_fieldLink_RX5_11 : Cond.fieldLink RX5 11 "StageSwitch" "sheets" "[LStageSwitch$Sheet;" ∈ wsX5_drop := (List.mem_cons_of_mem _ (List.mem_append_left _ (List.mem_append_left _ (List.mem_of_getElem? (i := 1) rfl))))
theorem qX5_drop_fieldLink_RX5_69 : Cond.fieldLink RX5 69 "StageSwitch$Sheet" "items" "[I" ∈ wsX5_drop := (List.mem_cons_of_mem _ (List.mem_append_left _ (List.mem_append_left _ (List.mem_of_getElem? (i := 2) rfl))))
theorem qX5_drop_constant_RX5_54_1000001 : Cond.constant RX5 54 (-1000001) ∈ wsX5_drop := (List.mem_cons_of_mem _ (List.mem_append_left _ (List.mem_append_left _ (List.mem_of_getElem? (i := 0) rfl))))
section SX5_drop
variable {p : Program} {l : Launch} {e : Env} {s0 : State} {m : MethodId} {args : Array Value} {below : List Frame} {meth : Method} {c : Code} {D : va_G} {A : Nat → Prop} {H0 : Heap} {cy : Nat → ClassId} {Z : State → Prop}
theorem eX5_drop (C : ctB p s0 m args c cX5_drop 3 RX5 wsX5_drop) (K : ctK s0 D A H0 cy) {o : Nat} {ad : Nat → Nat} {oa : Nat} {aa : Nat → Nat} {or_ : Nat} {ar : Nat → Nat} {op : Nat} {ap : Nat → Nat} {Q : Int32 → TS → Prop} (hQ : ∀ (v : Int32) (u : TS), Q v u → ∀ pc, decode cX5_drop pc = .ok (.ireturn, 1) → atG p l e rmX5_drop s0 m args below meth c 0 0 Z 3 (iW D A H0 (wX5 cy o ad oa aa or_ ar op ap u)) [] [.int v] pc) (s : TS) (x1 : Int32) (h : pX5_drop  s x1 Q) : atG p l e rmX5_drop s0 m args below meth c 0 0 Z 3 (iW D A H0 (wX5 cy o ad oa aa or_ ar op ap s)) [(0, .ref o), (1, .int x1)] [] 0 := by
  delta pX5_drop at h
  refine aw_iload_n C dX5_drop_0 1 rfl ?_
  refine aw_callS (As := [.int x1]) (rest := []) C (mtX5_isSheet l x1 _ h) (va_cwS 1 C.2.2.2.2.1 gX5_drop_X5_isSheet rfl rfl rfl (by decide +kernel) ⟨Nat.le_of_ble_eq_true rfl, Nat.le_of_ble_eq_true rfl⟩) rfl rfl (Nat.le_of_ble_eq_true rfl) ⟨rfl, rfl⟩ ⟨Nat.zero_le _, Nat.zero_le _⟩ dX5_drop_1 (fun r1 h => ?_)
  refine aw_if_ne (tgt := 10) C dX5_drop_4 (by decide) (fun c4 => ?_) (fun c4 => ?_)
  · have h := h.2 c4
    refine aw_aload_n C dX5_drop_10 0 rfl ?_
    refine aw_getX5 C K inX5_drop_5 dX5_drop_11 0 (by decide) qX5_drop_fieldLink_RX5_11 0 (g5 ..) rfl ?_
    refine aw_iload_n C dX5_drop_14 1 rfl ?_
    obtain ⟨b15, h⟩ := h
    rcases hz15 : tS s x1.toNatClampNeg with _ | ⟨o15, a15, l15, t15⟩
    · have h := h.1 hz15
      refine aw_aaldN C K dX5_drop_15 1 4 (g5S ..) rfl b15 (by show Option.map _ _ = _; rw [hz15]; rfl) ?_
      refine aw_astore_nN (lv' := [(2, .null), (0, .ref o), (1, .int x1)]) C dX5_drop_16 (by decide) rfl ?_
      refine aw_aload_nN C dX5_drop_17 0 rfl ?_
      refine aw_ifnonnullN C dX5_drop_18 ?_
      refine aw_aload_n C dX5_drop_21 1 rfl ?_
      refine aw_iconst (v := 1) C dX5_drop_22 (by decide) ?_
      refine aw_callFI (cells2 := 0) (slots2 := 0) (Wx := wX5 cy o ad oa aa or_ ar op ap) (wr := []) (As := [.int 1]) (rest := []) C K (mtX5_found l D cy o ad oa aa or_ ar op ap s 1 _ h) (permNil _) (fun u => permNil _) (cwV 1 C.2.2.2.2.1 gX5_drop_X5_found rfl rfl rfl (by decide +kernel) ⟨Nat.le_of_ble_eq_true rfl, Nat.le_of_ble_eq_true rfl⟩) 0 5 (g5 ..) rfl rfl rfl rfl (Nat.le_of_ble_eq_true rfl) rfl rfl ⟨Nat.le_of_ble_eq_true rfl, Nat.le_of_ble_eq_true rfl⟩ dX5_drop_23 (fun r23 s23 h => ?_)
      refine aw_lv [] rfl ?_
      exact hQ r23 s23 h 26 dX5_drop_26
    have h := h.2 o15 a15 l15 t15 hz15
    refine aw_aaldS (r := o15) C K dX5_drop_15 1 4 (g5S ..) rfl b15 (by show Option.map _ _ = _; rw [hz15]; rfl) ?_
    refine aw_astore_n (lv' := [(2, .ref o15), (0, .ref o), (1, .int x1)]) C dX5_drop_16 (by decide) rfl ?_
    refine aw_aload_n C dX5_drop_17 0 rfl ?_
    refine aw_ifnonnull (tgt := 27) C dX5_drop_18 (by decide) ?_
    refine aw_aload_n C dX5_drop_27 1 rfl ?_
    refine aw_getX5 C K inX5_drop_5 dX5_drop_28 0 (by decide) qX5_drop_fieldLink_RX5_11 0 (g5 ..) rfl ?_
    refine aw_iload_n C dX5_drop_31 2 rfl ?_
    refine aw_null C dX5_drop_32 ?_
    obtain ⟨b33, h⟩ := h
    refine aw_perm (w1 := (wX5 cy o ad oa aa or_ ar op ap s) ++ wSh cy none) (permNil _) ?_
    refine aw_aastN C K dX5_drop_33 1 4 (by rfl) rfl b33 rfl ?_
    refine aw_perm (w1 := (wX5 cy o ad oa aa or_ ar op ap (uS s x1.toNatClampNeg none)) ++ wSh cy (tS s x1.toNatClampNeg)) (stS cy o ad oa aa or_ ar op ap s (vp_in_lt b33) none) ?_
    refine aw_perm (w1 := (wX5 cy o ad oa aa or_ ar op ap (uS s x1.toNatClampNeg none)) ++ wX4 cy o15 a15 l15 t15) (by rw [hz15]; exact List.Perm.refl _) ?_
    obtain ⟨s33, es33⟩ : ∃ z, z = (uS s x1.toNatClampNeg none) := ⟨_, rfl⟩
    rw [← es33]
    have h := h s33 es33
    refine aw_aload_n C dX5_drop_34 1 rfl ?_
    refine aw_aload_n C dX5_drop_35 0 rfl ?_
    refine aw_perm (w1 := wX4 cy o15 a15 l15 t15 ++ wX5 cy o ad oa aa or_ ar op ap s33) List.perm_append_comm ?_
    refine aw_getX4 C K inX5_drop_4 dX5_drop_36 1 (by decide) qX5_drop_fieldLink_RX5_69 0 (wX4_ag ..) rfl ?_
    refine aw_perm (w1 := (wX5 cy o ad oa aa or_ ar op ap s33 ++ wX4 cy o15 a15 l15 t15)) List.perm_append_comm.symm ?_
    refine aw_perm (w1 := wX4 cy o15 a15 l15 t15 ++ wX5 cy o ad oa aa or_ ar op ap s33) List.perm_append_comm ?_
    refine aw_alen C K dX5_drop_39 1 0 (wX4_ag1 ..) rfl ?_
    refine aw_perm (w1 := (wX5 cy o ad oa aa or_ ar op ap s33 ++ wX4 cy o15 a15 l15 t15)) List.perm_append_comm.symm ?_
    refine aw_callFI (cells2 := 0) (slots2 := 0) (Wx := fun u => wX5 cy o ad oa aa or_ ar op ap u ++ wX4 cy o15 a15 l15 t15) (wr := wX4 cy o15 a15 l15 t15) (As := [.int (Int32.ofNat (l15 1))]) (rest := []) C K (mtX5_fine l D cy o ad oa aa or_ ar op ap s33 (Int32.ofNat (l15 1)) _ h) (List.Perm.refl _) (fun u => List.Perm.refl _) (cwV 1 C.2.2.2.2.1 gX5_drop_X5_fine rfl rfl rfl (by decide +kernel) ⟨Nat.le_of_ble_eq_true rfl, Nat.le_of_ble_eq_true rfl⟩) 0 5 (g5 ..) rfl rfl rfl rfl (Nat.le_of_ble_eq_true rfl) rfl rfl ⟨Nat.le_of_ble_eq_true rfl, Nat.le_of_ble_eq_true rfl⟩ dX5_drop_40 (fun r40 s40 h => ?_)
    refine aw_left ?_
    refine aw_lv [] rfl ?_
    exact hQ r40 s40 h 43 dX5_drop_43
  have h := h.1 c4
  refine aw_ldc (v := (-1000001)) C dX5_drop_7 qX5_drop_constant_RX5_54_1000001 ?_
  refine aw_lv [] rfl ?_
  exact hQ (-1000001) s h 9 dX5_drop_9
end SX5_drop
theorem mtX5_drop (l : Launch) (D : va_G) (cy : Nat → ClassId) (o : Nat) (ad : Nat → Nat) (oa : Nat) (aa : Nat → Nat) (or_ : Nat) (ar : Nat → Nat) (op : Nat) (ap : Nat → Nat) (s : TS) (x1 : Int32) (Q : Int32 → TS → Prop) (hw : pX5_drop  s x1 Q) : mI l yX5_drop wsX5_drop rmX5_drop D cy [.ref o, .int x1] (wX5 cy o ad oa aa or_ ar op ap s) (wX5 cy o ad oa aa or_ ar op ap) Q :=
  metI (Wd := wX5 cy o ad oa aa or_ ar op ap) ⟨rfl, rfl⟩ (by decide) rfl (Nat.le_of_ble_eq_true rfl) (fun C K hQ => eX5_drop C K hQ s x1 hw)
def rmX5_clear : Room := { frames := 2, cells := 0, slots := 0, locals := 42 }
theorem inX5_clear_5 : ∀ w ∈ wsX50, w ∈ wsX5_clear := fun w h => (List.mem_cons_of_mem _ (List.mem_append_right _ h))
theorem qX5_clear_fieldLink_RX5_17 : Cond.fieldLink RX5 17 "StageSwitch" "shelf" "[LStageSwitch$Net;" ∈ wsX5_clear := (List.mem_cons_of_mem _ (List.mem_append_left _ (List.mem_of_getElem? (i := 1) rfl)))
theorem qX5_clear_constant_RX5_54_1000001 : Cond.constant RX5 54 (-1000001) ∈ wsX5_clear := (List.mem_cons_of_mem _ (List.mem_append_left _ (List.mem_of_getElem? (i := 0) rfl)))
section SX5_clear
variable {p : Program} {l : Launch} {e : Env} {s0 : State} {m : MethodId} {args : Array Value} {below : List Frame} {meth : Method} {c : Code} {D : va_G} {A : Nat → Prop} {H0 : Heap} {cy : Nat → ClassId} {Z : State → Prop}
theorem eX5_clear (C : ctB p s0 m args c cX5_clear 3 RX5 wsX5_clear) (K : ctK s0 D A H0 cy) {o : Nat} {ad : Nat → Nat} {oa : Nat} {aa : Nat → Nat} {or_ : Nat} {ar : Nat → Nat} {op : Nat} {ap : Nat → Nat} {Q : Int32 → TS → Prop} (hQ : ∀ (v : Int32) (u : TS), Q v u → ∀ pc, decode cX5_clear pc = .ok (.ireturn, 1) → atG p l e rmX5_clear s0 m args below meth c 0 0 Z 3 (iW D A H0 (wX5 cy o ad oa aa or_ ar op ap u)) [] [.int v] pc) (s : TS) (x1 : Int32) (h : pX5_clear  s x1 Q) : atG p l e rmX5_clear s0 m args below meth c 0 0 Z 3 (iW D A H0 (wX5 cy o ad oa aa or_ ar op ap s)) [(0, .ref o), (1, .int x1)] [] 0 := by
  delta pX5_clear at h
  refine aw_iload_n C dX5_clear_0 1 rfl ?_
  refine aw_callS (As := [.int x1]) (rest := []) C (mtX5_isPlace l x1 _ h) (va_cwS 1 C.2.2.2.2.1 gX5_clear_X5_isPlace rfl rfl rfl (by decide +kernel) ⟨Nat.le_of_ble_eq_true rfl, Nat.le_of_ble_eq_true rfl⟩) rfl rfl (Nat.le_of_ble_eq_true rfl) ⟨rfl, rfl⟩ ⟨Nat.zero_le _, Nat.zero_le _⟩ dX5_clear_1 (fun r1 h => ?_)
  refine aw_if_ne (tgt := 10) C dX5_clear_4 (by decide) (fun c4 => ?_) (fun c4 => ?_)
  · have h := h.2 c4
    refine aw_aload_n C dX5_clear_10 0 rfl ?_
    refine aw_getX5 C K inX5_clear_5 dX5_clear_11 1 (by decide) qX5_clear_fieldLink_RX5_17 0 (g5 ..) rfl ?_
    refine aw_iload_n C dX5_clear_14 1 rfl ?_
    obtain ⟨b15, h⟩ := h
    rcases hz15 : tN s x1.toNatClampNeg with _ | ⟨o15, a15, l15, t15⟩
    · have h := h.1 hz15
      refine aw_aaldN C K dX5_clear_15 2 5 (g5N ..) rfl b15 (by show Option.map _ _ = _; rw [hz15]; rfl) ?_
      refine aw_ifnullN (tgt := 23) C dX5_clear_16 (by decide) ?_
      refine aw_iconst (v := 0) C dX5_clear_23 (by decide) ?_
      refine aw_istore_n (lv' := [(2, .int 0), (0, .ref o), (1, .int x1)]) C dX5_clear_24 (by decide) rfl ?_
      refine aw_aload_n C dX5_clear_25 1 rfl ?_
      refine aw_getX5 C K inX5_clear_5 dX5_clear_26 1 (by decide) qX5_clear_fieldLink_RX5_17 0 (g5 ..) rfl ?_
      refine aw_iload_n C dX5_clear_29 2 rfl ?_
      refine aw_null C dX5_clear_30 ?_
      obtain ⟨b31, h⟩ := h
      refine aw_perm (w1 := (wX5 cy o ad oa aa or_ ar op ap s) ++ wNt cy none) (permNil _) ?_
      refine aw_aastN C K dX5_clear_31 2 5 (by rfl) rfl b31 rfl ?_
      refine aw_perm (w1 := (wX5 cy o ad oa aa or_ ar op ap (uN s x1.toNatClampNeg none)) ++ wNt cy (tN s x1.toNatClampNeg)) (stN cy o ad oa aa or_ ar op ap s (vp_in_lt b31) none) ?_
      refine aw_left ?_
      obtain ⟨s31, es31⟩ : ∃ z, z = (uN s x1.toNatClampNeg none) := ⟨_, rfl⟩
      rw [← es31]
      have h := h s31 es31
      refine aw_iload_n C dX5_clear_32 0 rfl ?_
      refine aw_if_eq (tgt := 40) C dX5_clear_33 (by decide) (fun _ => ?_) (fun q => absurd (by decide) q)
      refine aw_iconst (v := 0) C dX5_clear_40 (by decide) ?_
      refine aw_lv [] rfl ?_
      exact hQ 0 s31 h 41 dX5_clear_41
    have h := h.2 o15 a15 l15 t15 hz15
    refine aw_aaldS (r := o15) C K dX5_clear_15 2 5 (g5N ..) rfl b15 (by show Option.map _ _ = _; rw [hz15]; rfl) ?_
    refine aw_ifnull C dX5_clear_16 ?_
    refine aw_iconst (v := 1) C dX5_clear_19 (by decide) ?_
    refine aw_goto (tgt := 24) C dX5_clear_20 (by decide) ?_
    refine aw_istore_n (lv' := [(2, .int 1), (0, .ref o), (1, .int x1)]) C dX5_clear_24 (by decide) rfl ?_
    refine aw_aload_n C dX5_clear_25 1 rfl ?_
    refine aw_getX5 C K inX5_clear_5 dX5_clear_26 1 (by decide) qX5_clear_fieldLink_RX5_17 0 (g5 ..) rfl ?_
    refine aw_iload_n C dX5_clear_29 2 rfl ?_
    refine aw_null C dX5_clear_30 ?_
    obtain ⟨b31, h⟩ := h
    refine aw_perm (w1 := (wX5 cy o ad oa aa or_ ar op ap s) ++ wNt cy none) (permNil _) ?_
    refine aw_aastN C K dX5_clear_31 2 5 (by rfl) rfl b31 rfl ?_
    refine aw_perm (w1 := (wX5 cy o ad oa aa or_ ar op ap (uN s x1.toNatClampNeg none)) ++ wNt cy (tN s x1.toNatClampNeg)) (stN cy o ad oa aa or_ ar op ap s (vp_in_lt b31) none) ?_
    refine aw_left ?_
    obtain ⟨s31, es31⟩ : ∃ z, z = (uN s x1.toNatClampNeg none) := ⟨_, rfl⟩
    rw [← es31]
    have h := h s31 es31
    refine aw_iload_n C dX5_clear_32 0 rfl ?_
    refine aw_if_eq (tgt := 40) C dX5_clear_33 (by decide) (fun q => absurd q (by decide)) (fun _ => ?_)
    refine aw_iconst (v := 1) C dX5_clear_36 (by decide) ?_
    refine aw_goto (tgt := 41) C dX5_clear_37 (by decide) ?_
    refine aw_lv [] rfl ?_
    exact hQ 1 s31 h 41 dX5_clear_41
  have h := h.1 c4
  refine aw_ldc (v := (-1000001)) C dX5_clear_7 qX5_clear_constant_RX5_54_1000001 ?_
  refine aw_lv [] rfl ?_
  exact hQ (-1000001) s h 9 dX5_clear_9
end SX5_clear
theorem mtX5_clear (l : Launch) (D : va_G) (cy : Nat → ClassId) (o : Nat) (ad : Nat → Nat) (oa : Nat) (aa : Nat → Nat) (or_ : Nat) (ar : Nat → Nat) (op : Nat) (ap : Nat → Nat) (s : TS) (x1 : Int32) (Q : Int32 → TS → Prop) (hw : pX5_clear  s x1 Q) : mI l yX5_clear wsX5_clear rmX5_clear D cy [.ref o, .int x1] (wX5 cy o ad oa aa or_ ar op ap s) (wX5 cy o ad oa aa or_ ar op ap) Q :=
  metI (Wd := wX5 cy o ad oa aa or_ ar op ap) ⟨rfl, rfl⟩ (by decide) rfl (Nat.le_of_ble_eq_true rfl) (fun C K hQ => eX5_clear C K hQ s x1 hw)
def rmX5_kind : Room := { frames := 2, cells := 0, slots := 0, locals := 42 }
theorem inX5_kind_1 : ∀ w ∈ wsX10, w ∈ wsX5_kind := fun w h => (List.mem_cons_of_mem _ (List.mem_append_right _ h))
theorem inX5_kind_5 : ∀ w ∈ wsX50, w ∈ wsX5_kind := fun w h => (List.mem_cons_of_mem _ (List.mem_append_left _ (List.mem_append_right _ h)))
theorem qX5_kind_fieldLink_RX5_17 : Cond.fieldLink RX5 17 "StageSwitch" "shelf" "[LStageSwitch$Net;" ∈ wsX5_kind := (List.mem_cons_of_mem _ (List.mem_append_left _ (List.mem_append_left _ (List.mem_append_left _ (List.mem_of_getElem? (i := 1) rfl)))))
theorem qX5_kind_constant_RX5_54_1000001 : Cond.constant RX5 54 (-1000001) ∈ wsX5_kind := (List.mem_cons_of_mem _ (List.mem_append_left _ (List.mem_append_left _ (List.mem_append_left _ (List.mem_of_getElem? (i := 0) rfl)))))
section SX5_kind
variable {p : Program} {l : Launch} {e : Env} {s0 : State} {m : MethodId} {args : Array Value} {below : List Frame} {meth : Method} {c : Code} {D : va_G} {A : Nat → Prop} {H0 : Heap} {cy : Nat → ClassId} {Z : State → Prop}
theorem eX5_kind (C : ctB p s0 m args c cX5_kind 3 RX5 wsX5_kind) (K : ctK s0 D A H0 cy) {o : Nat} {ad : Nat → Nat} {oa : Nat} {aa : Nat → Nat} {or_ : Nat} {ar : Nat → Nat} {op : Nat} {ap : Nat → Nat} {Q : Int32 → TS → Prop} (hQ : ∀ (v : Int32) (u : TS), Q v u → ∀ pc, decode cX5_kind pc = .ok (.ireturn, 1) → atG p l e rmX5_kind s0 m args below meth c 0 0 Z 3 (iW D A H0 (wX5 cy o ad oa aa or_ ar op ap u)) [] [.int v] pc) (s : TS) (x1 : Int32) (h : pX5_kind  s x1 Q) : atG p l e rmX5_kind s0 m args below meth c 0 0 Z 3 (iW D A H0 (wX5 cy o ad oa aa or_ ar op ap s)) [(0, .ref o), (1, .int x1)] [] 0 := by
  delta pX5_kind at h
  refine aw_iload_n C dX5_kind_0 1 rfl ?_
  refine aw_callS (As := [.int x1]) (rest := []) C (mtX5_isPlace l x1 _ h) (va_cwS 1 C.2.2.2.2.1 gX5_kind_X5_isPlace rfl rfl rfl (by decide +kernel) ⟨Nat.le_of_ble_eq_true rfl, Nat.le_of_ble_eq_true rfl⟩) rfl rfl (Nat.le_of_ble_eq_true rfl) ⟨rfl, rfl⟩ ⟨Nat.zero_le _, Nat.zero_le _⟩ dX5_kind_1 (fun r1 h => ?_)
  refine aw_if_ne (tgt := 10) C dX5_kind_4 (by decide) (fun c4 => ?_) (fun c4 => ?_)
  · have h := h.2 c4
    refine aw_aload_n C dX5_kind_10 0 rfl ?_
    refine aw_getX5 C K inX5_kind_5 dX5_kind_11 1 (by decide) qX5_kind_fieldLink_RX5_17 0 (g5 ..) rfl ?_
    refine aw_iload_n C dX5_kind_14 1 rfl ?_
    obtain ⟨b15, h⟩ := h
    rcases hz15 : tN s x1.toNatClampNeg with _ | ⟨o15, a15, l15, t15⟩
    · have h := h.1 hz15
      refine aw_aaldN C K dX5_kind_15 2 5 (g5N ..) rfl b15 (by show Option.map _ _ = _; rw [hz15]; rfl) ?_
      refine aw_astore_nN (lv' := [(2, .null), (0, .ref o), (1, .int x1)]) C dX5_kind_16 (by decide) rfl ?_
      refine aw_aload_nN C dX5_kind_17 0 rfl ?_
      refine aw_ifnonnullN C dX5_kind_18 ?_
      refine aw_aload_n C dX5_kind_21 1 rfl ?_
      refine aw_iconst (v := 1) C dX5_kind_22 (by decide) ?_
      refine aw_callFI (cells2 := 0) (slots2 := 0) (Wx := wX5 cy o ad oa aa or_ ar op ap) (wr := []) (As := [.int 1]) (rest := []) C K (mtX5_found l D cy o ad oa aa or_ ar op ap s 1 _ h) (permNil _) (fun u => permNil _) (cwV 1 C.2.2.2.2.1 gX5_kind_X5_found rfl rfl rfl (by decide +kernel) ⟨Nat.le_of_ble_eq_true rfl, Nat.le_of_ble_eq_true rfl⟩) 0 5 (g5 ..) rfl rfl rfl rfl (Nat.le_of_ble_eq_true rfl) rfl rfl ⟨Nat.le_of_ble_eq_true rfl, Nat.le_of_ble_eq_true rfl⟩ dX5_kind_23 (fun r23 s23 h => ?_)
      refine aw_lv [] rfl ?_
      exact hQ r23 s23 h 26 dX5_kind_26
    have h := h.2 o15 a15 l15 t15 hz15
    refine aw_aaldS (r := o15) C K dX5_kind_15 2 5 (g5N ..) rfl b15 (by show Option.map _ _ = _; rw [hz15]; rfl) ?_
    refine aw_astore_n (lv' := [(2, .ref o15), (0, .ref o), (1, .int x1)]) C dX5_kind_16 (by decide) rfl ?_
    refine aw_aload_n C dX5_kind_17 0 rfl ?_
    refine aw_ifnonnull (tgt := 27) C dX5_kind_18 (by decide) ?_
    refine aw_aload_n C dX5_kind_27 1 rfl ?_
    refine aw_aload_n C dX5_kind_28 0 rfl ?_
    refine aw_callFI (cells2 := 0) (slots2 := 0) (Wx := (fun u29 => (wX5 cy o ad oa aa or_ ar op ap (uN s x1.toNatClampNeg (some (o15, a15, l15, u29)))))) (wr := r5N cy o ad oa aa or_ ar op ap s x1.toNatClampNeg) (As := []) (rest := [.ref o]) C K (mtX1_toldKind l D cy o15 a15 l15 t15 _ h) (foN cy o ad oa aa or_ ar op ap s (vp_in_lt b15) hz15) (fun u => (foN' cy o ad oa aa or_ ar op ap s (vp_in_lt b15) hz15 u)) (cwV 0 C.2.2.2.2.1 gX5_kind_X1_toldKind rfl rfl rfl (by decide +kernel) ⟨Nat.le_of_ble_eq_true rfl, Nat.le_of_ble_eq_true rfl⟩) 0 1 (wX1_g ..) rfl rfl rfl rfl (Nat.le_of_ble_eq_true rfl) rfl rfl ⟨Nat.le_of_ble_eq_true rfl, Nat.le_of_ble_eq_true rfl⟩ dX5_kind_29 (fun r29 u29 h => ?_)
    obtain ⟨h, hu29⟩ := h
    refine aw_perm (w1 := (wX5 cy o ad oa aa or_ ar op ap s)) (by show ((wX5 cy o ad oa aa or_ ar op ap (uN s x1.toNatClampNeg (some (o15, a15, l15, u29))))).Perm _; rw [hu29, uN_self hz15] <;> exact List.Perm.refl _) ?_
    refine aw_callFI (cells2 := 0) (slots2 := 0) (Wx := wX5 cy o ad oa aa or_ ar op ap) (wr := []) (As := [.int r29]) (rest := []) C K (mtX5_fine l D cy o ad oa aa or_ ar op ap s r29 _ h) (permNil _) (fun u => permNil _) (cwV 1 C.2.2.2.2.1 gX5_kind_X5_fine rfl rfl rfl (by decide +kernel) ⟨Nat.le_of_ble_eq_true rfl, Nat.le_of_ble_eq_true rfl⟩) 0 5 (g5 ..) rfl rfl rfl rfl (Nat.le_of_ble_eq_true rfl) rfl rfl ⟨Nat.le_of_ble_eq_true rfl, Nat.le_of_ble_eq_true rfl⟩ dX5_kind_32 (fun r32 s32 h => ?_)
    refine aw_lv [] rfl ?_
    exact hQ r32 s32 h 35 dX5_kind_35
  have h := h.1 c4
  refine aw_ldc (v := (-1000001)) C dX5_kind_7 qX5_kind_constant_RX5_54_1000001 ?_
  refine aw_lv [] rfl ?_
  exact hQ (-1000001) s h 9 dX5_kind_9
end SX5_kind
theorem mtX5_kind (l : Launch) (D : va_G) (cy : Nat → ClassId) (o : Nat) (ad : Nat → Nat) (oa : Nat) (aa : Nat → Nat) (or_ : Nat) (ar : Nat → Nat) (op : Nat) (ap : Nat → Nat) (s : TS) (x1 : Int32) (Q : Int32 → TS → Prop) (hw : pX5_kind  s x1 Q) : mI l yX5_kind wsX5_kind rmX5_kind D cy [.ref o, .int x1] (wX5 cy o ad oa aa or_ ar op ap s) (wX5 cy o ad oa aa or_ ar op ap) Q :=
  metI (Wd := wX5 cy o ad oa aa or_ ar op ap) ⟨rfl, rfl⟩ (by decide) rfl (Nat.le_of_ble_eq_true rfl) (fun C K hQ => eX5_kind C K hQ s x1 hw)
def rmX5_is : Room := { frames := 2, cells := 0, slots := 0, locals := 42 }
theorem inX5_is_1 : ∀ w ∈ wsX10, w ∈ wsX5_is := fun w h => (List.mem_cons_of_mem _ (List.mem_append_right _ h))
theorem inX5_is_5 : ∀ w ∈ wsX50, w ∈ wsX5_is := fun w h => (List.mem_cons_of_mem _ (List.mem_append_left _ (List.mem_append_right _ h)))
theorem qX5_is_constant_RX5_54_1000001 : Cond.constant RX5 54 (-1000001) ∈ wsX5_is := (List.mem_cons_of_mem _ (List.mem_append_left _ (List.mem_append_left _ (List.mem_of_getElem? (i := 0) rfl))))
theorem qX5_is_fieldLink_RX5_17 : Cond.fieldLink RX5 17 "StageSwitch" "shelf" "[LStageSwitch$Net;" ∈ wsX5_is := (List.mem_cons_of_mem _ (List.mem_append_left _ (List.mem_append_left _ (List.mem_of_getElem? (i := 1) rfl))))
section SX5_is
variable {p : Program} {l : Launch} {e : Env} {s0 : State} {m : MethodId} {args : Array Value} {below : List Frame} {meth : Method} {c : Code} {D : va_G} {A : Nat → Prop} {H0 : Heap} {cy : Nat → ClassId} {Z : State → Prop}
theorem eX5_is (C : ctB p s0 m args c cX5_is 4 RX5 wsX5_is) (K : ctK s0 D A H0 cy) {o : Nat} {ad : Nat → Nat} {oa : Nat} {aa : Nat → Nat} {or_ : Nat} {ar : Nat → Nat} {op : Nat} {ap : Nat → Nat} {Q : Int32 → Prop} (s : TS) (hQ : ∀ (v : Int32), Q v → ∀ pc, decode cX5_is pc = .ok (.ireturn, 1) → atG p l e rmX5_is s0 m args below meth c 0 0 Z 4 (iW D A H0 (wX5 cy o ad oa aa or_ ar op ap s)) [] [.int v] pc) (x1 : Int32) (x2 : Int32) (h : pX5_is  s x1 x2 Q) : atG p l e rmX5_is s0 m args below meth c 0 0 Z 4 (iW D A H0 (wX5 cy o ad oa aa or_ ar op ap s)) [(0, .ref o), (1, .int x1), (2, .int x2)] [] 0 := by
  delta pX5_is at h
  refine aw_iload_n C dX5_is_0 1 rfl ?_
  refine aw_callS (As := [.int x1]) (rest := []) C (mtX5_isPlace l x1 _ h) (va_cwS 1 C.2.2.2.2.1 gX5_is_X5_isPlace rfl rfl rfl (by decide +kernel) ⟨Nat.le_of_ble_eq_true rfl, Nat.le_of_ble_eq_true rfl⟩) rfl rfl (Nat.le_of_ble_eq_true rfl) ⟨rfl, rfl⟩ ⟨Nat.zero_le _, Nat.zero_le _⟩ dX5_is_1 (fun r1 h => ?_)
  refine aw_if_eq (tgt := 14) C dX5_is_4 (by decide) (fun c4 => ?_) (fun c4 => ?_)
  · have h := h.1 c4
    refine aw_ldc (v := (-1000001)) C dX5_is_14 qX5_is_constant_RX5_54_1000001 ?_
    refine aw_lv [] rfl ?_
    exact hQ (-1000001) h 16 dX5_is_16
  have h := h.2 c4
  refine aw_iload_n C dX5_is_7 2 rfl ?_
  refine aw_callS (As := [.int x2]) (rest := []) C (mtX5_isKind l x2 _ h) (va_cwS 1 C.2.2.2.2.1 gX5_is_X5_isKind rfl rfl rfl (by decide +kernel) ⟨Nat.le_of_ble_eq_true rfl, Nat.le_of_ble_eq_true rfl⟩) rfl rfl (Nat.le_of_ble_eq_true rfl) ⟨rfl, rfl⟩ ⟨Nat.zero_le _, Nat.zero_le _⟩ dX5_is_8 (fun r8 h => ?_)
  refine aw_if_ne (tgt := 17) C dX5_is_11 (by decide) (fun c11 => ?_) (fun c11 => ?_)
  · have h := h.2 c11
    refine aw_aload_n C dX5_is_17 0 rfl ?_
    refine aw_getX5 C K inX5_is_5 dX5_is_18 1 (by decide) qX5_is_fieldLink_RX5_17 0 (g5 ..) rfl ?_
    refine aw_iload_n C dX5_is_21 1 rfl ?_
    obtain ⟨b22, h⟩ := h
    rcases hz22 : tN s x1.toNatClampNeg with _ | ⟨o22, a22, l22, t22⟩
    · have h := h.1 hz22
      refine aw_aaldN C K dX5_is_22 2 5 (g5N ..) rfl b22 (by show Option.map _ _ = _; rw [hz22]; rfl) ?_
      refine aw_astore_nN (lv' := [(3, .null), (0, .ref o), (1, .int x1), (2, .int x2)]) C dX5_is_23 (by decide) rfl ?_
      refine aw_aload_nN C dX5_is_24 0 rfl ?_
      refine aw_ifnullN (tgt := 43) C dX5_is_25 (by decide) ?_
      refine aw_iconst (v := 0) C dX5_is_43 (by decide) ?_
      refine aw_lv [] rfl ?_
      exact hQ 0 h 44 dX5_is_44
    have h := h.2 o22 a22 l22 t22 hz22
    refine aw_aaldS (r := o22) C K dX5_is_22 2 5 (g5N ..) rfl b22 (by show Option.map _ _ = _; rw [hz22]; rfl) ?_
    refine aw_astore_n (lv' := [(3, .ref o22), (0, .ref o), (1, .int x1), (2, .int x2)]) C dX5_is_23 (by decide) rfl ?_
    refine aw_aload_n C dX5_is_24 0 rfl ?_
    refine aw_ifnull C dX5_is_25 ?_
    refine aw_aload_n C dX5_is_28 0 rfl ?_
    refine aw_callFI (cells2 := 0) (slots2 := 0) (Wx := (fun u29 => (wX5 cy o ad oa aa or_ ar op ap (uN s x1.toNatClampNeg (some (o22, a22, l22, u29)))))) (wr := r5N cy o ad oa aa or_ ar op ap s x1.toNatClampNeg) (As := []) (rest := []) C K (mtX1_toldKind l D cy o22 a22 l22 t22 _ h) (foN cy o ad oa aa or_ ar op ap s (vp_in_lt b22) hz22) (fun u => (foN' cy o ad oa aa or_ ar op ap s (vp_in_lt b22) hz22 u)) (cwV 0 C.2.2.2.2.1 gX5_is_X1_toldKind rfl rfl rfl (by decide +kernel) ⟨Nat.le_of_ble_eq_true rfl, Nat.le_of_ble_eq_true rfl⟩) 0 1 (wX1_g ..) rfl rfl rfl rfl (Nat.le_of_ble_eq_true rfl) rfl rfl ⟨Nat.le_of_ble_eq_true rfl, Nat.le_of_ble_eq_true rfl⟩ dX5_is_29 (fun r29 u29 h => ?_)
    obtain ⟨h, hu29⟩ := h
    refine aw_perm (w1 := (wX5 cy o ad oa aa or_ ar op ap s)) (by show ((wX5 cy o ad oa aa or_ ar op ap (uN s x1.toNatClampNeg (some (o22, a22, l22, u29))))).Perm _; rw [hu29, uN_self hz22] <;> exact List.Perm.refl _) ?_
    refine aw_iload_n C dX5_is_32 3 rfl ?_
    refine aw_callS (As := [.int r29, .int x2]) (rest := []) C (mtX5_countsAs l r29 x2 _ h) (va_cwS 2 C.2.2.2.2.1 gX5_is_X5_countsAs rfl rfl rfl (by decide +kernel) ⟨Nat.le_of_ble_eq_true rfl, Nat.le_of_ble_eq_true rfl⟩) rfl rfl (Nat.le_of_ble_eq_true rfl) ⟨rfl, rfl⟩ ⟨Nat.zero_le _, Nat.zero_le _⟩ dX5_is_33 (fun r33 h => ?_)
    refine aw_if_eq (tgt := 43) C dX5_is_36 (by decide) (fun c36 => ?_) (fun c36 => ?_)
    · have h := h.1 c36
      refine aw_iconst (v := 0) C dX5_is_43 (by decide) ?_
      refine aw_lv [] rfl ?_
      exact hQ 0 h 44 dX5_is_44
    have h := h.2 c36
    refine aw_iconst (v := 1) C dX5_is_39 (by decide) ?_
    refine aw_goto (tgt := 44) C dX5_is_40 (by decide) ?_
    refine aw_lv [] rfl ?_
    exact hQ 1 h 44 dX5_is_44
  have h := h.1 c11
  refine aw_ldc (v := (-1000001)) C dX5_is_14 qX5_is_constant_RX5_54_1000001 ?_
  refine aw_lv [] rfl ?_
  exact hQ (-1000001) h 16 dX5_is_16
end SX5_is
theorem mtX5_is (l : Launch) (D : va_G) (cy : Nat → ClassId) (o : Nat) (ad : Nat → Nat) (oa : Nat) (aa : Nat → Nat) (or_ : Nat) (ar : Nat → Nat) (op : Nat) (ap : Nat → Nat) (s : TS) (x1 : Int32) (x2 : Int32) (Q : Int32 → Prop) (hw : pX5_is  s x1 x2 Q) : mI l yX5_is wsX5_is rmX5_is D cy [.ref o, .int x1, .int x2] (wX5 cy o ad oa aa or_ ar op ap s) (wX5 cy o ad oa aa or_ ar op ap) (fun r u => Q r ∧ u = s) :=
  metI (Wd := wX5 cy o ad oa aa or_ ar op ap) ⟨rfl, rfl⟩ (by decide) rfl (Nat.le_of_ble_eq_true rfl) (fun C K hQ => eX5_is C K s (fun v hq => hQ v s ⟨hq, rfl⟩) x1 x2 hw)
def rmX5_as : Room := { frames := 2, cells := 0, slots := 0, locals := 42 }
theorem inX5_as_1 : ∀ w ∈ wsX10, w ∈ wsX5_as := fun w h => (List.mem_cons_of_mem _ (List.mem_append_right _ h))
theorem inX5_as_5 : ∀ w ∈ wsX50, w ∈ wsX5_as := fun w h => (List.mem_cons_of_mem _ (List.mem_append_left _ (List.mem_append_right _ h)))
theorem qX5_as_constant_RX5_54_1000001 : Cond.constant RX5 54 (-1000001) ∈ wsX5_as := (List.mem_cons_of_mem _ (List.mem_append_left _ (List.mem_append_left _ (List.mem_append_left _ (List.mem_of_getElem? (i := 0) rfl)))))
theorem qX5_as_fieldLink_RX5_17 : Cond.fieldLink RX5 17 "StageSwitch" "shelf" "[LStageSwitch$Net;" ∈ wsX5_as := (List.mem_cons_of_mem _ (List.mem_append_left _ (List.mem_append_left _ (List.mem_append_left _ (List.mem_of_getElem? (i := 1) rfl)))))
theorem qX5_as_fieldLink_RX5_101 : Cond.fieldLink RX5 101 "StageSwitch$Net" "alive" "I" ∈ wsX5_as := (List.mem_cons_of_mem _ (List.mem_append_left _ (List.mem_append_left _ (List.mem_append_left _ (List.mem_of_getElem? (i := 2) rfl)))))
section SX5_as
variable {p : Program} {l : Launch} {e : Env} {s0 : State} {m : MethodId} {args : Array Value} {below : List Frame} {meth : Method} {c : Code} {D : va_G} {A : Nat → Prop} {H0 : Heap} {cy : Nat → ClassId} {Z : State → Prop}
theorem eX5_as (C : ctB p s0 m args c cX5_as 4 RX5 wsX5_as) (K : ctK s0 D A H0 cy) {o : Nat} {ad : Nat → Nat} {oa : Nat} {aa : Nat → Nat} {or_ : Nat} {ar : Nat → Nat} {op : Nat} {ap : Nat → Nat} {Q : Int32 → TS → Prop} (hQ : ∀ (v : Int32) (u : TS), Q v u → ∀ pc, decode cX5_as pc = .ok (.ireturn, 1) → atG p l e rmX5_as s0 m args below meth c 0 0 Z 4 (iW D A H0 (wX5 cy o ad oa aa or_ ar op ap u)) [] [.int v] pc) (s : TS) (x1 : Int32) (x2 : Int32) (h : pX5_as  s x1 x2 Q) : atG p l e rmX5_as s0 m args below meth c 0 0 Z 4 (iW D A H0 (wX5 cy o ad oa aa or_ ar op ap s)) [(0, .ref o), (1, .int x1), (2, .int x2)] [] 0 := by
  delta pX5_as at h
  refine aw_iload_n C dX5_as_0 1 rfl ?_
  refine aw_callS (As := [.int x1]) (rest := []) C (mtX5_isPlace l x1 _ h) (va_cwS 1 C.2.2.2.2.1 gX5_as_X5_isPlace rfl rfl rfl (by decide +kernel) ⟨Nat.le_of_ble_eq_true rfl, Nat.le_of_ble_eq_true rfl⟩) rfl rfl (Nat.le_of_ble_eq_true rfl) ⟨rfl, rfl⟩ ⟨Nat.zero_le _, Nat.zero_le _⟩ dX5_as_1 (fun r1 h => ?_)
  refine aw_if_eq (tgt := 14) C dX5_as_4 (by decide) (fun c4 => ?_) (fun c4 => ?_)
  · have h := h.1 c4
    refine aw_ldc (v := (-1000001)) C dX5_as_14 qX5_as_constant_RX5_54_1000001 ?_
    refine aw_lv [] rfl ?_
    exact hQ (-1000001) s h 16 dX5_as_16
  have h := h.2 c4
  refine aw_iload_n C dX5_as_7 2 rfl ?_
  refine aw_callS (As := [.int x2]) (rest := []) C (mtX5_isKind l x2 _ h) (va_cwS 1 C.2.2.2.2.1 gX5_as_X5_isKind rfl rfl rfl (by decide +kernel) ⟨Nat.le_of_ble_eq_true rfl, Nat.le_of_ble_eq_true rfl⟩) rfl rfl (Nat.le_of_ble_eq_true rfl) ⟨rfl, rfl⟩ ⟨Nat.zero_le _, Nat.zero_le _⟩ dX5_as_8 (fun r8 h => ?_)
  refine aw_if_ne (tgt := 17) C dX5_as_11 (by decide) (fun c11 => ?_) (fun c11 => ?_)
  · have h := h.2 c11
    refine aw_aload_n C dX5_as_17 0 rfl ?_
    refine aw_getX5 C K inX5_as_5 dX5_as_18 1 (by decide) qX5_as_fieldLink_RX5_17 0 (g5 ..) rfl ?_
    refine aw_iload_n C dX5_as_21 1 rfl ?_
    obtain ⟨b22, h⟩ := h
    rcases hz22 : tN s x1.toNatClampNeg with _ | ⟨o22, a22, l22, t22⟩
    · have h := h.1 hz22
      refine aw_aaldN C K dX5_as_22 2 5 (g5N ..) rfl b22 (by show Option.map _ _ = _; rw [hz22]; rfl) ?_
      refine aw_astore_nN (lv' := [(3, .null), (0, .ref o), (1, .int x1), (2, .int x2)]) C dX5_as_23 (by decide) rfl ?_
      refine aw_aload_nN C dX5_as_24 0 rfl ?_
      refine aw_ifnonnullN C dX5_as_25 ?_
      refine aw_aload_n C dX5_as_28 1 rfl ?_
      refine aw_iconst (v := 1) C dX5_as_29 (by decide) ?_
      refine aw_callFI (cells2 := 0) (slots2 := 0) (Wx := wX5 cy o ad oa aa or_ ar op ap) (wr := []) (As := [.int 1]) (rest := []) C K (mtX5_found l D cy o ad oa aa or_ ar op ap s 1 _ h) (permNil _) (fun u => permNil _) (cwV 1 C.2.2.2.2.1 gX5_as_X5_found rfl rfl rfl (by decide +kernel) ⟨Nat.le_of_ble_eq_true rfl, Nat.le_of_ble_eq_true rfl⟩) 0 5 (g5 ..) rfl rfl rfl rfl (Nat.le_of_ble_eq_true rfl) rfl rfl ⟨Nat.le_of_ble_eq_true rfl, Nat.le_of_ble_eq_true rfl⟩ dX5_as_30 (fun r30 s30 h => ?_)
      refine aw_lv [] rfl ?_
      exact hQ r30 s30 h 33 dX5_as_33
    have h := h.2 o22 a22 l22 t22 hz22
    refine aw_aaldS (r := o22) C K dX5_as_22 2 5 (g5N ..) rfl b22 (by show Option.map _ _ = _; rw [hz22]; rfl) ?_
    refine aw_astore_n (lv' := [(3, .ref o22), (0, .ref o), (1, .int x1), (2, .int x2)]) C dX5_as_23 (by decide) rfl ?_
    refine aw_aload_n C dX5_as_24 0 rfl ?_
    refine aw_ifnonnull (tgt := 34) C dX5_as_25 (by decide) ?_
    refine aw_aload_n C dX5_as_34 0 rfl ?_
    refine aw_callFI (cells2 := 0) (slots2 := 0) (Wx := (fun u35 => (wX5 cy o ad oa aa or_ ar op ap (uN s x1.toNatClampNeg (some (o22, a22, l22, u35)))))) (wr := r5N cy o ad oa aa or_ ar op ap s x1.toNatClampNeg) (As := []) (rest := []) C K (mtX1_toldKind l D cy o22 a22 l22 t22 _ h) (foN cy o ad oa aa or_ ar op ap s (vp_in_lt b22) hz22) (fun u => (foN' cy o ad oa aa or_ ar op ap s (vp_in_lt b22) hz22 u)) (cwV 0 C.2.2.2.2.1 gX5_as_X1_toldKind rfl rfl rfl (by decide +kernel) ⟨Nat.le_of_ble_eq_true rfl, Nat.le_of_ble_eq_true rfl⟩) 0 1 (wX1_g ..) rfl rfl rfl rfl (Nat.le_of_ble_eq_true rfl) rfl rfl ⟨Nat.le_of_ble_eq_true rfl, Nat.le_of_ble_eq_true rfl⟩ dX5_as_35 (fun r35 u35 h => ?_)
    obtain ⟨h, hu35⟩ := h
    refine aw_perm (w1 := (wX5 cy o ad oa aa or_ ar op ap s)) (by show ((wX5 cy o ad oa aa or_ ar op ap (uN s x1.toNatClampNeg (some (o22, a22, l22, u35))))).Perm _; rw [hu35, uN_self hz22] <;> exact List.Perm.refl _) ?_
    refine aw_iload_n C dX5_as_38 3 rfl ?_
    refine aw_callS (As := [.int r35, .int x2]) (rest := []) C (mtX5_countsAs l r35 x2 _ h) (va_cwS 2 C.2.2.2.2.1 gX5_as_X5_countsAs rfl rfl rfl (by decide +kernel) ⟨Nat.le_of_ble_eq_true rfl, Nat.le_of_ble_eq_true rfl⟩) rfl rfl (Nat.le_of_ble_eq_true rfl) ⟨rfl, rfl⟩ ⟨Nat.zero_le _, Nat.zero_le _⟩ dX5_as_39 (fun r39 h => ?_)
    refine aw_if_ne (tgt := 51) C dX5_as_42 (by decide) (fun c42 => ?_) (fun c42 => ?_)
    · have h := h.2 c42
      refine aw_aload_n C dX5_as_51 1 rfl ?_
      refine aw_aload_n C dX5_as_52 0 rfl ?_
      refine aw_perm (w1 := wX1 cy o22 a22 l22 t22 ++ r5N cy o ad oa aa or_ ar op ap s x1.toNatClampNeg) (foN cy o ad oa aa or_ ar op ap s (vp_in_lt b22) hz22) ?_
      refine aw_getX1 C K inX5_as_1 dX5_as_53 13 (by decide) qX5_as_fieldLink_RX5_101 0 (wX1_ag ..) rfl ?_
      refine aw_perm (w1 := (wX5 cy o ad oa aa or_ ar op ap s)) (foN cy o ad oa aa or_ ar op ap s (vp_in_lt b22) hz22).symm ?_
      refine aw_callFI (cells2 := 0) (slots2 := 0) (Wx := wX5 cy o ad oa aa or_ ar op ap) (wr := []) (As := [.int (sF t22 13)]) (rest := []) C K (mtX5_fine l D cy o ad oa aa or_ ar op ap s (sF t22 13) _ h) (permNil _) (fun u => permNil _) (cwV 1 C.2.2.2.2.1 gX5_as_X5_fine rfl rfl rfl (by decide +kernel) ⟨Nat.le_of_ble_eq_true rfl, Nat.le_of_ble_eq_true rfl⟩) 0 5 (g5 ..) rfl rfl rfl rfl (Nat.le_of_ble_eq_true rfl) rfl rfl ⟨Nat.le_of_ble_eq_true rfl, Nat.le_of_ble_eq_true rfl⟩ dX5_as_56 (fun r56 s56 h => ?_)
      refine aw_lv [] rfl ?_
      exact hQ r56 s56 h 59 dX5_as_59
    have h := h.1 c42
    refine aw_aload_n C dX5_as_45 1 rfl ?_
    refine aw_iconst (v := 3) C dX5_as_46 (by decide) ?_
    refine aw_callFI (cells2 := 0) (slots2 := 0) (Wx := wX5 cy o ad oa aa or_ ar op ap) (wr := []) (As := [.int 3]) (rest := []) C K (mtX5_found l D cy o ad oa aa or_ ar op ap s 3 _ h) (permNil _) (fun u => permNil _) (cwV 1 C.2.2.2.2.1 gX5_as_X5_found rfl rfl rfl (by decide +kernel) ⟨Nat.le_of_ble_eq_true rfl, Nat.le_of_ble_eq_true rfl⟩) 0 5 (g5 ..) rfl rfl rfl rfl (Nat.le_of_ble_eq_true rfl) rfl rfl ⟨Nat.le_of_ble_eq_true rfl, Nat.le_of_ble_eq_true rfl⟩ dX5_as_47 (fun r47 s47 h => ?_)
    refine aw_lv [] rfl ?_
    exact hQ r47 s47 h 50 dX5_as_50
  have h := h.1 c11
  refine aw_ldc (v := (-1000001)) C dX5_as_14 qX5_as_constant_RX5_54_1000001 ?_
  refine aw_lv [] rfl ?_
  exact hQ (-1000001) s h 16 dX5_as_16
end SX5_as
theorem mtX5_as (l : Launch) (D : va_G) (cy : Nat → ClassId) (o : Nat) (ad : Nat → Nat) (oa : Nat) (aa : Nat → Nat) (or_ : Nat) (ar : Nat → Nat) (op : Nat) (ap : Nat → Nat) (s : TS) (x1 : Int32) (x2 : Int32) (Q : Int32 → TS → Prop) (hw : pX5_as  s x1 x2 Q) : mI l yX5_as wsX5_as rmX5_as D cy [.ref o, .int x1, .int x2] (wX5 cy o ad oa aa or_ ar op ap s) (wX5 cy o ad oa aa or_ ar op ap) Q :=
  metI (Wd := wX5 cy o ad oa aa or_ ar op ap) ⟨rfl, rfl⟩ (by decide) rfl (Nat.le_of_ble_eq_true rfl) (fun C K hQ => eX5_as C K hQ s x1 x2 hw)
def rmX5_ask : Room := { frames := 5, cells := 0, slots := 0, locals := 106 }
theorem inX5_ask_0 : ∀ w ∈ wsX00, w ∈ wsX5_ask := fun w h => (List.mem_cons_of_mem _ (List.mem_append_left _ (List.mem_append_right _ h)))
theorem inX5_ask_1 : ∀ w ∈ wsX10, w ∈ wsX5_ask := fun w h => (List.mem_cons_of_mem _ (List.mem_append_right _ h))
theorem inX5_ask_5 : ∀ w ∈ wsX50, w ∈ wsX5_ask := fun w h => (List.mem_cons_of_mem _ (List.mem_append_left _ (List.mem_append_left _ (List.mem_append_right _ h))))
theorem qX5_ask_constant_RX5_54_1000001 : Cond.constant RX5 54 (-1000001) ∈ wsX5_ask := (List.mem_cons_of_mem _ (List.mem_append_left _ (List.mem_append_left _ (List.mem_append_left _ (List.mem_append_left _ (List.mem_of_getElem? (i := 0) rfl))))))
theorem qX5_ask_fieldLink_RX5_24 : Cond.fieldLink RX5 24 "StageSwitch" "asks" "LStageSwitch$Asks;" ∈ wsX5_ask := (List.mem_cons_of_mem _ (List.mem_append_left _ (List.mem_append_left _ (List.mem_append_left _ (List.mem_append_left _ (List.mem_of_getElem? (i := 1) rfl))))))
theorem qX5_ask_fieldLink_RX5_17 : Cond.fieldLink RX5 17 "StageSwitch" "shelf" "[LStageSwitch$Net;" ∈ wsX5_ask := (List.mem_cons_of_mem _ (List.mem_append_left _ (List.mem_append_left _ (List.mem_append_left _ (List.mem_append_left _ (List.mem_of_getElem? (i := 2) rfl))))))
section SX5_ask
variable {p : Program} {l : Launch} {e : Env} {s0 : State} {m : MethodId} {args : Array Value} {below : List Frame} {meth : Method} {c : Code} {D : va_G} {A : Nat → Prop} {H0 : Heap} {cy : Nat → ClassId} {Z : State → Prop}
theorem eX5_ask (C : ctB p s0 m args c cX5_ask 4 RX5 wsX5_ask) (K : ctK s0 D A H0 cy) {o : Nat} {ad : Nat → Nat} {oa : Nat} {aa : Nat → Nat} {or_ : Nat} {ar : Nat → Nat} {op : Nat} {ap : Nat → Nat} {Q : Int32 → TS → Prop} (hQ : ∀ (v : Int32) (u : TS), Q v u → ∀ pc, decode cX5_ask pc = .ok (.ireturn, 1) → atG p l e rmX5_ask s0 m args below meth c 0 0 Z 4 (iW D A H0 (wX5 cy o ad oa aa or_ ar op ap u)) [] [.int v] pc) (s : TS) (x1 : Int32) (x2 : Int32) (h : pX5_ask  s x1 x2 Q) : atG p l e rmX5_ask s0 m args below meth c 0 0 Z 4 (iW D A H0 (wX5 cy o ad oa aa or_ ar op ap s)) [(0, .ref o), (1, .int x1), (2, .int x2)] [] 0 := by
  delta pX5_ask at h
  refine aw_iload_n C dX5_ask_0 1 rfl ?_
  refine aw_callS (As := [.int x1]) (rest := []) C (mtX5_isPlace l x1 _ h) (va_cwS 1 C.2.2.2.2.1 gX5_ask_X5_isPlace rfl rfl rfl (by decide +kernel) ⟨Nat.le_of_ble_eq_true rfl, Nat.le_of_ble_eq_true rfl⟩) rfl rfl (Nat.le_of_ble_eq_true rfl) ⟨rfl, rfl⟩ ⟨Nat.zero_le _, Nat.zero_le _⟩ dX5_ask_1 (fun r1 h => ?_)
  refine aw_if_eq (tgt := 16) C dX5_ask_4 (by decide) (fun c4 => ?_) (fun c4 => ?_)
  · have h := h.1 c4
    refine aw_ldc (v := (-1000001)) C dX5_ask_16 qX5_ask_constant_RX5_54_1000001 ?_
    refine aw_lv [] rfl ?_
    exact hQ (-1000001) s h 18 dX5_ask_18
  have h := h.2 c4
  refine aw_iload_n C dX5_ask_7 2 rfl ?_
  refine aw_iconst (v := 0) C dX5_ask_8 (by decide) ?_
  refine aw_iconst (v := 1) C dX5_ask_9 (by decide) ?_
  refine aw_callS (As := [.int x2, .int 0, .int 1]) (rest := []) C (mtX5_within l x2 0 1 _ h) (va_cwS 3 C.2.2.2.2.1 gX5_ask_X5_within rfl rfl rfl (by decide +kernel) ⟨Nat.le_of_ble_eq_true rfl, Nat.le_of_ble_eq_true rfl⟩) rfl rfl (Nat.le_of_ble_eq_true rfl) ⟨rfl, rfl⟩ ⟨Nat.zero_le _, Nat.zero_le _⟩ dX5_ask_10 (fun r10 h => ?_)
  refine aw_if_ne (tgt := 19) C dX5_ask_13 (by decide) (fun c13 => ?_) (fun c13 => ?_)
  · have h := h.2 c13
    refine aw_aload_n C dX5_ask_19 0 rfl ?_
    refine aw_getX5 C K inX5_ask_5 dX5_ask_20 2 (by decide) qX5_ask_fieldLink_RX5_24 0 (g5 ..) rfl ?_
    refine aw_callFV (cells2 := 0) (slots2 := 0) (Wx := (fun u23 => (wX5 cy o ad oa aa or_ ar op ap (uK s u23)))) (wr := r5A cy o ad oa or_ ar op ap s) (As := []) (rest := []) C K (mtX0_emptyTrace l D cy oa aa (tA s) _ h) (foA cy o ad oa aa or_ ar op ap s) (fun u => (foA' cy o ad oa aa or_ ar op ap s u)) (cwV 0 C.2.2.2.2.1 gX5_ask_X0_emptyTrace rfl rfl rfl (by decide +kernel) ⟨Nat.le_of_ble_eq_true rfl, Nat.le_of_ble_eq_true rfl⟩) 0 0 (wX0_g ..) rfl rfl rfl rfl (Nat.le_of_ble_eq_true rfl) rfl rfl ⟨Nat.le_of_ble_eq_true rfl, Nat.le_of_ble_eq_true rfl⟩ dX5_ask_23 (fun u23 h => ?_)
    refine aw_perm (w1 := (wX5 cy o ad oa aa or_ ar op ap (uK s u23))) (List.Perm.refl _) ?_
    obtain ⟨s23, es23⟩ : ∃ z, z = (uK s u23) := ⟨_, rfl⟩
    rw [← es23]
    have h := h s23 es23
    refine aw_aload_n C dX5_ask_26 0 rfl ?_
    refine aw_getX5 C K inX5_ask_5 dX5_ask_27 1 (by decide) qX5_ask_fieldLink_RX5_17 0 (g5 ..) rfl ?_
    refine aw_iload_n C dX5_ask_30 1 rfl ?_
    obtain ⟨b31, h⟩ := h
    rcases hz31 : tN s23 x1.toNatClampNeg with _ | ⟨o31, a31, l31, t31⟩
    · have h := h.1 hz31
      refine aw_aaldN C K dX5_ask_31 2 5 (g5N ..) rfl b31 (by show Option.map _ _ = _; rw [hz31]; rfl) ?_
      refine aw_astore_nN (lv' := [(3, .null), (0, .ref o), (1, .int x1), (2, .int x2)]) C dX5_ask_32 (by decide) rfl ?_
      refine aw_aload_nN C dX5_ask_33 0 rfl ?_
      refine aw_ifnonnullN C dX5_ask_34 ?_
      refine aw_aload_n C dX5_ask_37 1 rfl ?_
      refine aw_iconst (v := 1) C dX5_ask_38 (by decide) ?_
      refine aw_callFI (cells2 := 0) (slots2 := 0) (Wx := wX5 cy o ad oa aa or_ ar op ap) (wr := []) (As := [.int 1]) (rest := []) C K (mtX5_found l D cy o ad oa aa or_ ar op ap s23 1 _ h) (permNil _) (fun u => permNil _) (cwV 1 C.2.2.2.2.1 gX5_ask_X5_found rfl rfl rfl (by decide +kernel) ⟨Nat.le_of_ble_eq_true rfl, Nat.le_of_ble_eq_true rfl⟩) 0 5 (g5 ..) rfl rfl rfl rfl (Nat.le_of_ble_eq_true rfl) rfl rfl ⟨Nat.le_of_ble_eq_true rfl, Nat.le_of_ble_eq_true rfl⟩ dX5_ask_39 (fun r39 s39 h => ?_)
      refine aw_lv [] rfl ?_
      exact hQ r39 s39 h 42 dX5_ask_42
    have h := h.2 o31 a31 l31 t31 hz31
    refine aw_aaldS (r := o31) C K dX5_ask_31 2 5 (g5N ..) rfl b31 (by show Option.map _ _ = _; rw [hz31]; rfl) ?_
    refine aw_astore_n (lv' := [(3, .ref o31), (0, .ref o), (1, .int x1), (2, .int x2)]) C dX5_ask_32 (by decide) rfl ?_
    refine aw_aload_n C dX5_ask_33 0 rfl ?_
    refine aw_ifnonnull (tgt := 43) C dX5_ask_34 (by decide) ?_
    refine aw_aload_n C dX5_ask_43 1 rfl ?_
    refine aw_iload_n C dX5_ask_44 3 rfl ?_
    refine aw_if_ne (tgt := 59) C dX5_ask_45 (by decide) (fun c45 => ?_) (fun c45 => ?_)
    · have h := h.2 c45
      refine aw_aload_n C dX5_ask_59 1 rfl ?_
      refine aw_getX5 C K inX5_ask_5 dX5_ask_60 2 (by decide) qX5_ask_fieldLink_RX5_24 0 (g5 ..) rfl ?_
      refine aw_aload_n C dX5_ask_63 0 rfl ?_
      refine aw_callFI (cells2 := 0) (slots2 := 0) (Wx := (fun u64 => (wX5 cy o ad oa aa or_ ar op ap (uK (uN s23 x1.toNatClampNeg (some (o31, a31, l31, u64.2))) u64.1)))) (wr := r5AN cy o ad oa or_ ar op ap s23 x1.toNatClampNeg) (As := [.ref o31]) (rest := [.ref o]) C K (mtX0_markOf l D cy oa aa o31 a31 l31 (tA s23, t31) _ h) (foAN cy o ad oa aa or_ ar op ap s23 (vp_in_lt b31) hz31) (fun u => foAN' cy o ad oa aa or_ ar op ap s23 (vp_in_lt b31) hz31 u) (cwV 1 C.2.2.2.2.1 gX5_ask_X0_markOf rfl rfl rfl (by decide +kernel) ⟨Nat.le_of_ble_eq_true rfl, Nat.le_of_ble_eq_true rfl⟩) 0 0 (wX01_0g ..) rfl rfl rfl rfl (Nat.le_of_ble_eq_true rfl) rfl rfl ⟨Nat.le_of_ble_eq_true rfl, Nat.le_of_ble_eq_true rfl⟩ dX5_ask_64 (fun r64 u64 h => ?_)
      refine aw_perm (w1 := (wX5 cy o ad oa aa or_ ar op ap (uK (uN s23 x1.toNatClampNeg (some (o31, a31, l31, u64.2))) u64.1))) (List.Perm.refl _) ?_
      obtain ⟨s64, es64⟩ : ∃ z, z = (uK (uN s23 x1.toNatClampNeg (some (o31, a31, l31, u64.2))) u64.1) := ⟨_, rfl⟩
      rw [← es64]
      have h := h s64 es64
      have hz31_64 : tN s64 x1.toNatClampNeg = some (o31, a31, l31, u64.2) := by rw [es64]; exact if_pos rfl
      refine aw_callFI (cells2 := 0) (slots2 := 0) (Wx := wX5 cy o ad oa aa or_ ar op ap) (wr := []) (As := [.int r64]) (rest := []) C K (mtX5_fine l D cy o ad oa aa or_ ar op ap s64 r64 _ h) (permNil _) (fun u => permNil _) (cwV 1 C.2.2.2.2.1 gX5_ask_X5_fine rfl rfl rfl (by decide +kernel) ⟨Nat.le_of_ble_eq_true rfl, Nat.le_of_ble_eq_true rfl⟩) 0 5 (g5 ..) rfl rfl rfl rfl (Nat.le_of_ble_eq_true rfl) rfl rfl ⟨Nat.le_of_ble_eq_true rfl, Nat.le_of_ble_eq_true rfl⟩ dX5_ask_67 (fun r67 s67 h => ?_)
      refine aw_lv [] rfl ?_
      exact hQ r67 s67 h 70 dX5_ask_70
    have h := h.1 c45
    refine aw_aload_n C dX5_ask_48 1 rfl ?_
    refine aw_getX5 C K inX5_ask_5 dX5_ask_49 2 (by decide) qX5_ask_fieldLink_RX5_24 0 (g5 ..) rfl ?_
    refine aw_aload_n C dX5_ask_52 0 rfl ?_
    refine aw_callFI (cells2 := 0) (slots2 := 0) (Wx := (fun u53 => (wX5 cy o ad oa aa or_ ar op ap (uK (uN s23 x1.toNatClampNeg (some (o31, a31, l31, u53.2))) u53.1)))) (wr := r5AN cy o ad oa or_ ar op ap s23 x1.toNatClampNeg) (As := [.ref o31]) (rest := [.ref o]) C K (mtX0_sizeOf l D cy oa aa o31 a31 l31 (tA s23, t31) _ h) (foAN cy o ad oa aa or_ ar op ap s23 (vp_in_lt b31) hz31) (fun u => foAN' cy o ad oa aa or_ ar op ap s23 (vp_in_lt b31) hz31 u) (cwV 1 C.2.2.2.2.1 gX5_ask_X0_sizeOf rfl rfl rfl (by decide +kernel) ⟨Nat.le_of_ble_eq_true rfl, Nat.le_of_ble_eq_true rfl⟩) 0 0 (wX01_0g ..) rfl rfl rfl rfl (Nat.le_of_ble_eq_true rfl) rfl rfl ⟨Nat.le_of_ble_eq_true rfl, Nat.le_of_ble_eq_true rfl⟩ dX5_ask_53 (fun r53 u53 h => ?_)
    refine aw_perm (w1 := (wX5 cy o ad oa aa or_ ar op ap (uK (uN s23 x1.toNatClampNeg (some (o31, a31, l31, u53.2))) u53.1))) (List.Perm.refl _) ?_
    obtain ⟨s53, es53⟩ : ∃ z, z = (uK (uN s23 x1.toNatClampNeg (some (o31, a31, l31, u53.2))) u53.1) := ⟨_, rfl⟩
    rw [← es53]
    have h := h s53 es53
    have hz31_53 : tN s53 x1.toNatClampNeg = some (o31, a31, l31, u53.2) := by rw [es53]; exact if_pos rfl
    refine aw_goto (tgt := 67) C dX5_ask_56 (by decide) ?_
    refine aw_callFI (cells2 := 0) (slots2 := 0) (Wx := wX5 cy o ad oa aa or_ ar op ap) (wr := []) (As := [.int r53]) (rest := []) C K (mtX5_fine l D cy o ad oa aa or_ ar op ap s53 r53 _ h) (permNil _) (fun u => permNil _) (cwV 1 C.2.2.2.2.1 gX5_ask_X5_fine rfl rfl rfl (by decide +kernel) ⟨Nat.le_of_ble_eq_true rfl, Nat.le_of_ble_eq_true rfl⟩) 0 5 (g5 ..) rfl rfl rfl rfl (Nat.le_of_ble_eq_true rfl) rfl rfl ⟨Nat.le_of_ble_eq_true rfl, Nat.le_of_ble_eq_true rfl⟩ dX5_ask_67 (fun r67 s67 h => ?_)
    refine aw_lv [] rfl ?_
    exact hQ r67 s67 h 70 dX5_ask_70
  have h := h.1 c13
  refine aw_ldc (v := (-1000001)) C dX5_ask_16 qX5_ask_constant_RX5_54_1000001 ?_
  refine aw_lv [] rfl ?_
  exact hQ (-1000001) s h 18 dX5_ask_18
end SX5_ask
theorem mtX5_ask (l : Launch) (D : va_G) (cy : Nat → ClassId) (o : Nat) (ad : Nat → Nat) (oa : Nat) (aa : Nat → Nat) (or_ : Nat) (ar : Nat → Nat) (op : Nat) (ap : Nat → Nat) (s : TS) (x1 : Int32) (x2 : Int32) (Q : Int32 → TS → Prop) (hw : pX5_ask  s x1 x2 Q) : mI l yX5_ask wsX5_ask rmX5_ask D cy [.ref o, .int x1, .int x2] (wX5 cy o ad oa aa or_ ar op ap s) (wX5 cy o ad oa aa or_ ar op ap) Q :=
  metI (Wd := wX5 cy o ad oa aa or_ ar op ap) ⟨rfl, rfl⟩ (by decide) rfl (Nat.le_of_ble_eq_true rfl) (fun C K hQ => eX5_ask C K hQ s x1 x2 hw)
def rmX5_trace : Room := { frames := 2, cells := 0, slots := 0, locals := 43 }
theorem inX5_trace_0 : ∀ w ∈ wsX00, w ∈ wsX5_trace := fun w h => (List.mem_cons_of_mem _ (List.mem_append_right _ h))
theorem inX5_trace_5 : ∀ w ∈ wsX50, w ∈ wsX5_trace := fun w h => (List.mem_cons_of_mem _ (List.mem_append_left _ (List.mem_append_right _ h)))
theorem qX5_trace_fieldLink_RX5_24 : Cond.fieldLink RX5 24 "StageSwitch" "asks" "LStageSwitch$Asks;" ∈ wsX5_trace := (List.mem_cons_of_mem _ (List.mem_append_left _ (List.mem_append_left _ (List.mem_of_getElem? (i := 0) rfl))))
section SX5_trace
variable {p : Program} {l : Launch} {e : Env} {s0 : State} {m : MethodId} {args : Array Value} {below : List Frame} {meth : Method} {c : Code} {D : va_G} {A : Nat → Prop} {H0 : Heap} {cy : Nat → ClassId} {Z : State → Prop}
theorem eX5_trace (C : ctB p s0 m args c cX5_trace 2 RX5 wsX5_trace) (K : ctK s0 D A H0 cy) {o : Nat} {ad : Nat → Nat} {oa : Nat} {aa : Nat → Nat} {or_ : Nat} {ar : Nat → Nat} {op : Nat} {ap : Nat → Nat} {Q : Int32 → Prop} (s : TS) (hQ : ∀ (v : Int32), Q v → ∀ pc, decode cX5_trace pc = .ok (.ireturn, 1) → atG p l e rmX5_trace s0 m args below meth c 0 0 Z 2 (iW D A H0 (wX5 cy o ad oa aa or_ ar op ap s)) [] [.int v] pc) (x1 : Int32) (h : pX5_trace  s x1 Q) : atG p l e rmX5_trace s0 m args below meth c 0 0 Z 2 (iW D A H0 (wX5 cy o ad oa aa or_ ar op ap s)) [(0, .ref o), (1, .int x1)] [] 0 := by
  delta pX5_trace at h
  refine aw_aload_n C dX5_trace_0 0 rfl ?_
  refine aw_getX5 C K inX5_trace_5 dX5_trace_1 2 (by decide) qX5_trace_fieldLink_RX5_24 0 (g5 ..) rfl ?_
  refine aw_iload_n C dX5_trace_4 1 rfl ?_
  refine aw_callFI (cells2 := 0) (slots2 := 0) (Wx := (fun u5 => (wX5 cy o ad oa aa or_ ar op ap (uK s u5)))) (wr := r5A cy o ad oa or_ ar op ap s) (As := [.int x1]) (rest := []) C K (mtX0_traced l D cy oa aa (tA s) x1 _ h) (foA cy o ad oa aa or_ ar op ap s) (fun u => (foA' cy o ad oa aa or_ ar op ap s u)) (cwV 1 C.2.2.2.2.1 gX5_trace_X0_traced rfl rfl rfl (by decide +kernel) ⟨Nat.le_of_ble_eq_true rfl, Nat.le_of_ble_eq_true rfl⟩) 0 0 (wX0_g ..) rfl rfl rfl rfl (Nat.le_of_ble_eq_true rfl) rfl rfl ⟨Nat.le_of_ble_eq_true rfl, Nat.le_of_ble_eq_true rfl⟩ dX5_trace_5 (fun r5 u5 h => ?_)
  obtain ⟨h, hu5⟩ := h
  refine aw_perm (w1 := (wX5 cy o ad oa aa or_ ar op ap s)) (by show ((wX5 cy o ad oa aa or_ ar op ap (uK s u5))).Perm _; rw [hu5] <;> exact List.Perm.refl _) ?_
  refine aw_lv [] rfl ?_
  exact hQ r5 h 8 dX5_trace_8
end SX5_trace
theorem mtX5_trace (l : Launch) (D : va_G) (cy : Nat → ClassId) (o : Nat) (ad : Nat → Nat) (oa : Nat) (aa : Nat → Nat) (or_ : Nat) (ar : Nat → Nat) (op : Nat) (ap : Nat → Nat) (s : TS) (x1 : Int32) (Q : Int32 → Prop) (hw : pX5_trace  s x1 Q) : mI l yX5_trace wsX5_trace rmX5_trace D cy [.ref o, .int x1] (wX5 cy o ad oa aa or_ ar op ap s) (wX5 cy o ad oa aa or_ ar op ap) (fun r u => Q r ∧ u = s) :=
  metI (Wd := wX5 cy o ad oa aa or_ ar op ap) ⟨rfl, rfl⟩ (by decide) rfl (Nat.le_of_ble_eq_true rfl) (fun C K hQ => eX5_trace C K s (fun v hq => hQ v s ⟨hq, rfl⟩) x1 hw)
def rmX5_call : Room := { frames := 5, cells := 0, slots := 0, locals := 122 }
theorem inX5_call_1 : ∀ w ∈ wsX10, w ∈ wsX5_call := fun w h => (List.mem_cons_of_mem _ (List.mem_append_right _ h))
theorem inX5_call_5 : ∀ w ∈ wsX50, w ∈ wsX5_call := fun w h => (List.mem_cons_of_mem _ (List.mem_append_left _ (List.mem_append_right _ h)))
theorem qX5_call_constant_RX5_54_1000001 : Cond.constant RX5 54 (-1000001) ∈ wsX5_call := (List.mem_cons_of_mem _ (List.mem_append_left _ (List.mem_append_left _ (List.mem_append_left _ (List.mem_of_getElem? (i := 0) rfl)))))
theorem qX5_call_fieldLink_RX5_17 : Cond.fieldLink RX5 17 "StageSwitch" "shelf" "[LStageSwitch$Net;" ∈ wsX5_call := (List.mem_cons_of_mem _ (List.mem_append_left _ (List.mem_append_left _ (List.mem_append_left _ (List.mem_of_getElem? (i := 1) rfl)))))
theorem qX5_call_constant_RX5_123_1000002 : Cond.constant RX5 123 (-1000002) ∈ wsX5_call := (List.mem_cons_of_mem _ (List.mem_append_left _ (List.mem_append_left _ (List.mem_append_left _ (List.mem_of_getElem? (i := 2) rfl)))))
section SX5_call
variable {p : Program} {l : Launch} {e : Env} {s0 : State} {m : MethodId} {args : Array Value} {below : List Frame} {meth : Method} {c : Code} {D : va_G} {A : Nat → Prop} {H0 : Heap} {cy : Nat → ClassId} {Z : State → Prop}
theorem eX5_call (C : ctB p s0 m args c cX5_call 6 RX5 wsX5_call) (K : ctK s0 D A H0 cy) {o : Nat} {ad : Nat → Nat} {oa : Nat} {aa : Nat → Nat} {or_ : Nat} {ar : Nat → Nat} {op : Nat} {ap : Nat → Nat} {Q : Int32 → TS → Prop} (hQ : ∀ (v : Int32) (u : TS), Q v u → ∀ pc, decode cX5_call pc = .ok (.ireturn, 1) → atG p l e rmX5_call s0 m args below meth c 0 0 Z 6 (iW D A H0 (wX5 cy o ad oa aa or_ ar op ap u)) [] [.int v] pc) (s : TS) (x1 : Int32) (x2 : Int32) (x3 : Int32) (x4 : Int32) (h : pX5_call  s x1 x2 x3 x4 Q) : atG p l e rmX5_call s0 m args below meth c 0 0 Z 6 (iW D A H0 (wX5 cy o ad oa aa or_ ar op ap s)) [(0, .ref o), (1, .int x1), (2, .int x2), (3, .int x3), (4, .int x4)] [] 0 := by
  delta pX5_call at h
  refine aw_iload_n C dX5_call_0 1 rfl ?_
  refine aw_callS (As := [.int x1]) (rest := []) C (mtX5_isPlace l x1 _ h) (va_cwS 1 C.2.2.2.2.1 gX5_call_X5_isPlace rfl rfl rfl (by decide +kernel) ⟨Nat.le_of_ble_eq_true rfl, Nat.le_of_ble_eq_true rfl⟩) rfl rfl (Nat.le_of_ble_eq_true rfl) ⟨rfl, rfl⟩ ⟨Nat.zero_le _, Nat.zero_le _⟩ dX5_call_1 (fun r1 h => ?_)
  refine aw_if_eq (tgt := 17) C dX5_call_4 (by decide) (fun c4 => ?_) (fun c4 => ?_)
  · have h := h.1 c4
    refine aw_ldc (v := (-1000001)) C dX5_call_17 qX5_call_constant_RX5_54_1000001 ?_
    refine aw_lv [] rfl ?_
    exact hQ (-1000001) s h 19 dX5_call_19
  have h := h.2 c4
  refine aw_iload C dX5_call_7 4 rfl ?_
  refine aw_iconst (v := 0) C dX5_call_9 (by decide) ?_
  refine aw_iconst (v := 1) C dX5_call_10 (by decide) ?_
  refine aw_callS (As := [.int x4, .int 0, .int 1]) (rest := []) C (mtX5_within l x4 0 1 _ h) (va_cwS 3 C.2.2.2.2.1 gX5_call_X5_within rfl rfl rfl (by decide +kernel) ⟨Nat.le_of_ble_eq_true rfl, Nat.le_of_ble_eq_true rfl⟩) rfl rfl (Nat.le_of_ble_eq_true rfl) ⟨rfl, rfl⟩ ⟨Nat.zero_le _, Nat.zero_le _⟩ dX5_call_11 (fun r11 h => ?_)
  refine aw_if_ne (tgt := 20) C dX5_call_14 (by decide) (fun c14 => ?_) (fun c14 => ?_)
  · have h := h.2 c14
    refine aw_aload_n C dX5_call_20 0 rfl ?_
    refine aw_getX5 C K inX5_call_5 dX5_call_21 1 (by decide) qX5_call_fieldLink_RX5_17 0 (g5 ..) rfl ?_
    refine aw_iload_n C dX5_call_24 1 rfl ?_
    obtain ⟨b25, h⟩ := h
    rcases hz25 : tN s x1.toNatClampNeg with _ | ⟨o25, a25, l25, t25⟩
    · have h := h.1 hz25
      refine aw_aaldN C K dX5_call_25 2 5 (g5N ..) rfl b25 (by show Option.map _ _ = _; rw [hz25]; rfl) ?_
      refine aw_astoreN (lv' := [(5, .null), (0, .ref o), (1, .int x1), (2, .int x2), (3, .int x3), (4, .int x4)]) C dX5_call_26 (by decide) rfl ?_
      refine aw_aloadN C dX5_call_28 0 rfl ?_
      refine aw_ifnonnullN C dX5_call_30 ?_
      refine aw_aload_n C dX5_call_33 1 rfl ?_
      refine aw_iconst (v := 1) C dX5_call_34 (by decide) ?_
      refine aw_callFI (cells2 := 0) (slots2 := 0) (Wx := wX5 cy o ad oa aa or_ ar op ap) (wr := []) (As := [.int 1]) (rest := []) C K (mtX5_found l D cy o ad oa aa or_ ar op ap s 1 _ h) (permNil _) (fun u => permNil _) (cwV 1 C.2.2.2.2.1 gX5_call_X5_found rfl rfl rfl (by decide +kernel) ⟨Nat.le_of_ble_eq_true rfl, Nat.le_of_ble_eq_true rfl⟩) 0 5 (g5 ..) rfl rfl rfl rfl (Nat.le_of_ble_eq_true rfl) rfl rfl ⟨Nat.le_of_ble_eq_true rfl, Nat.le_of_ble_eq_true rfl⟩ dX5_call_35 (fun r35 s35 h => ?_)
      refine aw_lv [] rfl ?_
      exact hQ r35 s35 h 38 dX5_call_38
    have h := h.2 o25 a25 l25 t25 hz25
    refine aw_aaldS (r := o25) C K dX5_call_25 2 5 (g5N ..) rfl b25 (by show Option.map _ _ = _; rw [hz25]; rfl) ?_
    refine aw_astore (lv' := [(5, .ref o25), (0, .ref o), (1, .int x1), (2, .int x2), (3, .int x3), (4, .int x4)]) C dX5_call_26 (by decide) rfl ?_
    refine aw_aload C dX5_call_28 0 rfl ?_
    refine aw_ifnonnull (tgt := 39) C dX5_call_30 (by decide) ?_
    refine aw_aload C dX5_call_39 0 rfl ?_
    refine aw_iload_n C dX5_call_41 3 rfl ?_
    refine aw_callFI (cells2 := 0) (slots2 := 0) (Wx := (fun u42 => (wX5 cy o ad oa aa or_ ar op ap (uN s x1.toNatClampNeg (some (o25, a25, l25, u42)))))) (wr := r5N cy o ad oa aa or_ ar op ap s x1.toNatClampNeg) (As := [.int x2]) (rest := []) C K (mtX1_hasLine l D cy o25 a25 l25 t25 x2 _ h) (foN cy o ad oa aa or_ ar op ap s (vp_in_lt b25) hz25) (fun u => (foN' cy o ad oa aa or_ ar op ap s (vp_in_lt b25) hz25 u)) (cwV 1 C.2.2.2.2.1 gX5_call_X1_hasLine rfl rfl rfl (by decide +kernel) ⟨Nat.le_of_ble_eq_true rfl, Nat.le_of_ble_eq_true rfl⟩) 0 1 (wX1_g ..) rfl rfl rfl rfl (Nat.le_of_ble_eq_true rfl) rfl rfl ⟨Nat.le_of_ble_eq_true rfl, Nat.le_of_ble_eq_true rfl⟩ dX5_call_42 (fun r42 u42 h => ?_)
    obtain ⟨h, hu42⟩ := h
    refine aw_perm (w1 := (wX5 cy o ad oa aa or_ ar op ap s)) (by show ((wX5 cy o ad oa aa or_ ar op ap (uN s x1.toNatClampNeg (some (o25, a25, l25, u42))))).Perm _; rw [hu42, uN_self hz25] <;> exact List.Perm.refl _) ?_
    refine aw_if_eq (tgt := 57) C dX5_call_45 (by decide) (fun c45 => ?_) (fun c45 => ?_)
    · have h := h.1 c45
      refine aw_ldc (v := (-1000001)) C dX5_call_57 qX5_call_constant_RX5_54_1000001 ?_
      refine aw_lv [] rfl ?_
      exact hQ (-1000001) s h 59 dX5_call_59
    have h := h.2 c45
    refine aw_aload C dX5_call_48 0 rfl ?_
    refine aw_iload_n C dX5_call_50 4 rfl ?_
    refine aw_callFI (cells2 := 0) (slots2 := 0) (Wx := (fun u51 => (wX5 cy o ad oa aa or_ ar op ap (uN s x1.toNatClampNeg (some (o25, a25, l25, u51)))))) (wr := r5N cy o ad oa aa or_ ar op ap s x1.toNatClampNeg) (As := [.int x3]) (rest := []) C K (mtX1_hasLine l D cy o25 a25 l25 t25 x3 _ h) (foN cy o ad oa aa or_ ar op ap s (vp_in_lt b25) hz25) (fun u => (foN' cy o ad oa aa or_ ar op ap s (vp_in_lt b25) hz25 u)) (cwV 1 C.2.2.2.2.1 gX5_call_X1_hasLine rfl rfl rfl (by decide +kernel) ⟨Nat.le_of_ble_eq_true rfl, Nat.le_of_ble_eq_true rfl⟩) 0 1 (wX1_g ..) rfl rfl rfl rfl (Nat.le_of_ble_eq_true rfl) rfl rfl ⟨Nat.le_of_ble_eq_true rfl, Nat.le_of_ble_eq_true rfl⟩ dX5_call_51 (fun r51 u51 h => ?_)
    obtain ⟨h, hu51⟩ := h
    refine aw_perm (w1 := (wX5 cy o ad oa aa or_ ar op ap s)) (by show ((wX5 cy o ad oa aa or_ ar op ap (uN s x1.toNatClampNeg (some (o25, a25, l25, u51))))).Perm _; rw [hu51, uN_self hz25] <;> exact List.Perm.refl _) ?_
    refine aw_if_ne (tgt := 60) C dX5_call_54 (by decide) (fun c54 => ?_) (fun c54 => ?_)
    · have h := h.2 c54
      refine aw_aload C dX5_call_60 0 rfl ?_
      refine aw_iload_n C dX5_call_62 3 rfl ?_
      refine aw_iload_n C dX5_call_63 4 rfl ?_
      refine aw_callFI (cells2 := 0) (slots2 := 0) (Wx := (fun u64 => (wX5 cy o ad oa aa or_ ar op ap (uN s x1.toNatClampNeg (some (o25, a25, l25, u64)))))) (wr := r5N cy o ad oa aa or_ ar op ap s x1.toNatClampNeg) (As := [.int x2, .int x3]) (rest := []) C K (mtX1_isBusy l D cy o25 a25 l25 t25 x2 x3 _ h) (foN cy o ad oa aa or_ ar op ap s (vp_in_lt b25) hz25) (fun u => (foN' cy o ad oa aa or_ ar op ap s (vp_in_lt b25) hz25 u)) (cwV 2 C.2.2.2.2.1 gX5_call_X1_isBusy rfl rfl rfl (by decide +kernel) ⟨Nat.le_of_ble_eq_true rfl, Nat.le_of_ble_eq_true rfl⟩) 0 1 (wX1_g ..) rfl rfl rfl rfl (Nat.le_of_ble_eq_true rfl) rfl rfl ⟨Nat.le_of_ble_eq_true rfl, Nat.le_of_ble_eq_true rfl⟩ dX5_call_64 (fun r64 u64 h => ?_)
      obtain ⟨h, hu64⟩ := h
      refine aw_perm (w1 := (wX5 cy o ad oa aa or_ ar op ap s)) (by show ((wX5 cy o ad oa aa or_ ar op ap (uN s x1.toNatClampNeg (some (o25, a25, l25, u64))))).Perm _; rw [hu64, uN_self hz25] <;> exact List.Perm.refl _) ?_
      refine aw_if_eq (tgt := 73) C dX5_call_67 (by decide) (fun c67 => ?_) (fun c67 => ?_)
      · have h := h.1 c67
        refine aw_aload_n C dX5_call_73 1 rfl ?_
        refine aw_aload C dX5_call_74 0 rfl ?_
        refine aw_iload_n C dX5_call_76 3 rfl ?_
        refine aw_iload_n C dX5_call_77 4 rfl ?_
        refine aw_iload C dX5_call_78 5 rfl ?_
        refine aw_iconst (v := 1) C dX5_call_80 (by decide) ?_
        refine aw_icmp_ne (tgt := 88) C dX5_call_81 (by decide) (fun c81 => ?_) (fun c81 => ?_)
        · have h := h.2 c81
          refine aw_iconst (v := 0) C dX5_call_88 (by decide) ?_
          refine aw_callFI (cells2 := 0) (slots2 := 0) (Wx := (fun u89 => (wX5 cy o ad oa aa or_ ar op ap (uN s x1.toNatClampNeg (some (o25, a25, l25, u89)))))) (wr := r5N cy o ad oa aa or_ ar op ap s x1.toNatClampNeg) (As := [.int x2, .int x3, .int 0]) (rest := [.ref o]) C K (mtX1_setUp l D cy o25 a25 l25 t25 x2 x3 0 _ h) (foN cy o ad oa aa or_ ar op ap s (vp_in_lt b25) hz25) (fun u => (foN' cy o ad oa aa or_ ar op ap s (vp_in_lt b25) hz25 u)) (cwV 3 C.2.2.2.2.1 gX5_call_X1_setUp rfl rfl rfl (by decide +kernel) ⟨Nat.le_of_ble_eq_true rfl, Nat.le_of_ble_eq_true rfl⟩) 0 1 (wX1_g ..) rfl rfl rfl rfl (Nat.le_of_ble_eq_true rfl) rfl rfl ⟨Nat.le_of_ble_eq_true rfl, Nat.le_of_ble_eq_true rfl⟩ dX5_call_89 (fun r89 u89 h => ?_)
          refine aw_perm (w1 := (wX5 cy o ad oa aa or_ ar op ap (uN s x1.toNatClampNeg (some (o25, a25, l25, u89))))) (List.Perm.refl _) ?_
          obtain ⟨s89, es89⟩ : ∃ z, z = (uN s x1.toNatClampNeg (some (o25, a25, l25, u89))) := ⟨_, rfl⟩
          rw [← es89]
          have h := h s89 es89
          have hz25_89 : tN s89 x1.toNatClampNeg = some (o25, a25, l25, u89) := by rw [es89]; exact if_pos rfl
          refine aw_callFI (cells2 := 0) (slots2 := 0) (Wx := wX5 cy o ad oa aa or_ ar op ap) (wr := []) (As := [.int r89]) (rest := []) C K (mtX5_fine l D cy o ad oa aa or_ ar op ap s89 r89 _ h) (permNil _) (fun u => permNil _) (cwV 1 C.2.2.2.2.1 gX5_call_X5_fine rfl rfl rfl (by decide +kernel) ⟨Nat.le_of_ble_eq_true rfl, Nat.le_of_ble_eq_true rfl⟩) 0 5 (g5 ..) rfl rfl rfl rfl (Nat.le_of_ble_eq_true rfl) rfl rfl ⟨Nat.le_of_ble_eq_true rfl, Nat.le_of_ble_eq_true rfl⟩ dX5_call_92 (fun r92 s92 h => ?_)
          refine aw_lv [] rfl ?_
          exact hQ r92 s92 h 95 dX5_call_95
        have h := h.1 c81
        refine aw_iconst (v := 1) C dX5_call_84 (by decide) ?_
        refine aw_goto (tgt := 89) C dX5_call_85 (by decide) ?_
        refine aw_callFI (cells2 := 0) (slots2 := 0) (Wx := (fun u89 => (wX5 cy o ad oa aa or_ ar op ap (uN s x1.toNatClampNeg (some (o25, a25, l25, u89)))))) (wr := r5N cy o ad oa aa or_ ar op ap s x1.toNatClampNeg) (As := [.int x2, .int x3, .int 1]) (rest := [.ref o]) C K (mtX1_setUp l D cy o25 a25 l25 t25 x2 x3 1 _ h) (foN cy o ad oa aa or_ ar op ap s (vp_in_lt b25) hz25) (fun u => (foN' cy o ad oa aa or_ ar op ap s (vp_in_lt b25) hz25 u)) (cwV 3 C.2.2.2.2.1 gX5_call_X1_setUp rfl rfl rfl (by decide +kernel) ⟨Nat.le_of_ble_eq_true rfl, Nat.le_of_ble_eq_true rfl⟩) 0 1 (wX1_g ..) rfl rfl rfl rfl (Nat.le_of_ble_eq_true rfl) rfl rfl ⟨Nat.le_of_ble_eq_true rfl, Nat.le_of_ble_eq_true rfl⟩ dX5_call_89 (fun r89 u89 h => ?_)
        refine aw_perm (w1 := (wX5 cy o ad oa aa or_ ar op ap (uN s x1.toNatClampNeg (some (o25, a25, l25, u89))))) (List.Perm.refl _) ?_
        obtain ⟨s89, es89⟩ : ∃ z, z = (uN s x1.toNatClampNeg (some (o25, a25, l25, u89))) := ⟨_, rfl⟩
        rw [← es89]
        have h := h s89 es89
        have hz25_89 : tN s89 x1.toNatClampNeg = some (o25, a25, l25, u89) := by rw [es89]; exact if_pos rfl
        refine aw_callFI (cells2 := 0) (slots2 := 0) (Wx := wX5 cy o ad oa aa or_ ar op ap) (wr := []) (As := [.int r89]) (rest := []) C K (mtX5_fine l D cy o ad oa aa or_ ar op ap s89 r89 _ h) (permNil _) (fun u => permNil _) (cwV 1 C.2.2.2.2.1 gX5_call_X5_fine rfl rfl rfl (by decide +kernel) ⟨Nat.le_of_ble_eq_true rfl, Nat.le_of_ble_eq_true rfl⟩) 0 5 (g5 ..) rfl rfl rfl rfl (Nat.le_of_ble_eq_true rfl) rfl rfl ⟨Nat.le_of_ble_eq_true rfl, Nat.le_of_ble_eq_true rfl⟩ dX5_call_92 (fun r92 s92 h => ?_)
        refine aw_lv [] rfl ?_
        exact hQ r92 s92 h 95 dX5_call_95
      have h := h.2 c67
      refine aw_ldc (v := (-1000002)) C dX5_call_70 qX5_call_constant_RX5_123_1000002 ?_
      refine aw_lv [] rfl ?_
      exact hQ (-1000002) s h 72 dX5_call_72
    have h := h.1 c54
    refine aw_ldc (v := (-1000001)) C dX5_call_57 qX5_call_constant_RX5_54_1000001 ?_
    refine aw_lv [] rfl ?_
    exact hQ (-1000001) s h 59 dX5_call_59
  have h := h.1 c14
  refine aw_ldc (v := (-1000001)) C dX5_call_17 qX5_call_constant_RX5_54_1000001 ?_
  refine aw_lv [] rfl ?_
  exact hQ (-1000001) s h 19 dX5_call_19
end SX5_call
theorem mtX5_call (l : Launch) (D : va_G) (cy : Nat → ClassId) (o : Nat) (ad : Nat → Nat) (oa : Nat) (aa : Nat → Nat) (or_ : Nat) (ar : Nat → Nat) (op : Nat) (ap : Nat → Nat) (s : TS) (x1 : Int32) (x2 : Int32) (x3 : Int32) (x4 : Int32) (Q : Int32 → TS → Prop) (hw : pX5_call  s x1 x2 x3 x4 Q) : mI l yX5_call wsX5_call rmX5_call D cy [.ref o, .int x1, .int x2, .int x3, .int x4] (wX5 cy o ad oa aa or_ ar op ap s) (wX5 cy o ad oa aa or_ ar op ap) Q :=
  metI (Wd := wX5 cy o ad oa aa or_ ar op ap) ⟨rfl, rfl⟩ (by decide) rfl (Nat.le_of_ble_eq_true rfl) (fun C K hQ => eX5_call C K hQ s x1 x2 x3 x4 hw)
def rmX5_end : Room := { frames := 3, cells := 0, slots := 0, locals := 65 }
theorem inX5_end_1 : ∀ w ∈ wsX10, w ∈ wsX5_end := fun w h => (List.mem_cons_of_mem _ (List.mem_append_right _ h))
theorem inX5_end_5 : ∀ w ∈ wsX50, w ∈ wsX5_end := fun w h => (List.mem_cons_of_mem _ (List.mem_append_left _ (List.mem_append_right _ h)))
theorem qX5_end_fieldLink_RX5_17 : Cond.fieldLink RX5 17 "StageSwitch" "shelf" "[LStageSwitch$Net;" ∈ wsX5_end := (List.mem_cons_of_mem _ (List.mem_append_left _ (List.mem_append_left _ (List.mem_append_left _ (List.mem_of_getElem? (i := 1) rfl)))))
theorem qX5_end_fieldLink_RX5_128 : Cond.fieldLink RX5 128 "StageSwitch$Net" "outOf" "[I" ∈ wsX5_end := (List.mem_cons_of_mem _ (List.mem_append_left _ (List.mem_append_left _ (List.mem_append_left _ (List.mem_of_getElem? (i := 2) rfl)))))
theorem qX5_end_constant_RX5_54_1000001 : Cond.constant RX5 54 (-1000001) ∈ wsX5_end := (List.mem_cons_of_mem _ (List.mem_append_left _ (List.mem_append_left _ (List.mem_append_left _ (List.mem_of_getElem? (i := 0) rfl)))))
section SX5_end
variable {p : Program} {l : Launch} {e : Env} {s0 : State} {m : MethodId} {args : Array Value} {below : List Frame} {meth : Method} {c : Code} {D : va_G} {A : Nat → Prop} {H0 : Heap} {cy : Nat → ClassId} {Z : State → Prop}
theorem eX5_end (C : ctB p s0 m args c cX5_end 5 RX5 wsX5_end) (K : ctK s0 D A H0 cy) {o : Nat} {ad : Nat → Nat} {oa : Nat} {aa : Nat → Nat} {or_ : Nat} {ar : Nat → Nat} {op : Nat} {ap : Nat → Nat} {Q : Int32 → TS → Prop} (hQ : ∀ (v : Int32) (u : TS), Q v u → ∀ pc, decode cX5_end pc = .ok (.ireturn, 1) → atG p l e rmX5_end s0 m args below meth c 0 0 Z 5 (iW D A H0 (wX5 cy o ad oa aa or_ ar op ap u)) [] [.int v] pc) (s : TS) (x1 : Int32) (x2 : Int32) (h : pX5_end  s x1 x2 Q) : atG p l e rmX5_end s0 m args below meth c 0 0 Z 5 (iW D A H0 (wX5 cy o ad oa aa or_ ar op ap s)) [(0, .ref o), (1, .int x1), (2, .int x2)] [] 0 := by
  delta pX5_end at h
  refine aw_iload_n C dX5_end_0 1 rfl ?_
  refine aw_callS (As := [.int x1]) (rest := []) C (mtX5_isPlace l x1 _ h) (va_cwS 1 C.2.2.2.2.1 gX5_end_X5_isPlace rfl rfl rfl (by decide +kernel) ⟨Nat.le_of_ble_eq_true rfl, Nat.le_of_ble_eq_true rfl⟩) rfl rfl (Nat.le_of_ble_eq_true rfl) ⟨rfl, rfl⟩ ⟨Nat.zero_le _, Nat.zero_le _⟩ dX5_end_1 (fun r1 h => ?_)
  refine aw_if_ne (tgt := 10) C dX5_end_4 (by decide) (fun c4 => ?_) (fun c4 => ?_)
  · have h := h.2 c4
    refine aw_aload_n C dX5_end_10 0 rfl ?_
    refine aw_getX5 C K inX5_end_5 dX5_end_11 1 (by decide) qX5_end_fieldLink_RX5_17 0 (g5 ..) rfl ?_
    refine aw_iload_n C dX5_end_14 1 rfl ?_
    obtain ⟨b15, h⟩ := h
    rcases hz15 : tN s x1.toNatClampNeg with _ | ⟨o15, a15, l15, t15⟩
    · have h := h.1 hz15
      refine aw_aaldN C K dX5_end_15 2 5 (g5N ..) rfl b15 (by show Option.map _ _ = _; rw [hz15]; rfl) ?_
      refine aw_astore_nN (lv' := [(3, .null), (0, .ref o), (1, .int x1), (2, .int x2)]) C dX5_end_16 (by decide) rfl ?_
      refine aw_aload_nN C dX5_end_17 0 rfl ?_
      refine aw_ifnonnullN C dX5_end_18 ?_
      refine aw_aload_n C dX5_end_21 1 rfl ?_
      refine aw_iconst (v := 1) C dX5_end_22 (by decide) ?_
      refine aw_callFI (cells2 := 0) (slots2 := 0) (Wx := wX5 cy o ad oa aa or_ ar op ap) (wr := []) (As := [.int 1]) (rest := []) C K (mtX5_found l D cy o ad oa aa or_ ar op ap s 1 _ h) (permNil _) (fun u => permNil _) (cwV 1 C.2.2.2.2.1 gX5_end_X5_found rfl rfl rfl (by decide +kernel) ⟨Nat.le_of_ble_eq_true rfl, Nat.le_of_ble_eq_true rfl⟩) 0 5 (g5 ..) rfl rfl rfl rfl (Nat.le_of_ble_eq_true rfl) rfl rfl ⟨Nat.le_of_ble_eq_true rfl, Nat.le_of_ble_eq_true rfl⟩ dX5_end_23 (fun r23 s23 h => ?_)
      refine aw_lv [] rfl ?_
      exact hQ r23 s23 h 26 dX5_end_26
    have h := h.2 o15 a15 l15 t15 hz15
    refine aw_aaldS (r := o15) C K dX5_end_15 2 5 (g5N ..) rfl b15 (by show Option.map _ _ = _; rw [hz15]; rfl) ?_
    refine aw_astore_n (lv' := [(3, .ref o15), (0, .ref o), (1, .int x1), (2, .int x2)]) C dX5_end_16 (by decide) rfl ?_
    refine aw_aload_n C dX5_end_17 0 rfl ?_
    refine aw_ifnonnull (tgt := 27) C dX5_end_18 (by decide) ?_
    refine aw_aload_n C dX5_end_27 0 rfl ?_
    refine aw_iload_n C dX5_end_28 3 rfl ?_
    refine aw_callFI (cells2 := 0) (slots2 := 0) (Wx := (fun u29 => (wX5 cy o ad oa aa or_ ar op ap (uN s x1.toNatClampNeg (some (o15, a15, l15, u29)))))) (wr := r5N cy o ad oa aa or_ ar op ap s x1.toNatClampNeg) (As := [.int x2]) (rest := []) C K (mtX1_hasLine l D cy o15 a15 l15 t15 x2 _ h) (foN cy o ad oa aa or_ ar op ap s (vp_in_lt b15) hz15) (fun u => (foN' cy o ad oa aa or_ ar op ap s (vp_in_lt b15) hz15 u)) (cwV 1 C.2.2.2.2.1 gX5_end_X1_hasLine rfl rfl rfl (by decide +kernel) ⟨Nat.le_of_ble_eq_true rfl, Nat.le_of_ble_eq_true rfl⟩) 0 1 (wX1_g ..) rfl rfl rfl rfl (Nat.le_of_ble_eq_true rfl) rfl rfl ⟨Nat.le_of_ble_eq_true rfl, Nat.le_of_ble_eq_true rfl⟩ dX5_end_29 (fun r29 u29 h => ?_)
    obtain ⟨h, hu29⟩ := h
    refine aw_perm (w1 := (wX5 cy o ad oa aa or_ ar op ap s)) (by show ((wX5 cy o ad oa aa or_ ar op ap (uN s x1.toNatClampNeg (some (o15, a15, l15, u29))))).Perm _; rw [hu29, uN_self hz15] <;> exact List.Perm.refl _) ?_
    refine aw_if_ne (tgt := 38) C dX5_end_32 (by decide) (fun c32 => ?_) (fun c32 => ?_)
    · have h := h.2 c32
      refine aw_aload_n C dX5_end_38 0 rfl ?_
      refine aw_perm (w1 := wX1 cy o15 a15 l15 t15 ++ r5N cy o ad oa aa or_ ar op ap s x1.toNatClampNeg) (foN cy o ad oa aa or_ ar op ap s (vp_in_lt b15) hz15) ?_
      refine aw_getX1 C K inX5_end_1 dX5_end_39 5 (by decide) qX5_end_fieldLink_RX5_128 0 (wX1_ag ..) rfl ?_
      refine aw_perm (w1 := (wX5 cy o ad oa aa or_ ar op ap s)) (foN cy o ad oa aa or_ ar op ap s (vp_in_lt b15) hz15).symm ?_
      refine aw_iload_n C dX5_end_42 3 rfl ?_
      obtain ⟨b43, h⟩ := h
      refine aw_perm (w1 := wX1 cy o15 a15 l15 t15 ++ r5N cy o ad oa aa or_ ar op ap s x1.toNatClampNeg) (foN cy o ad oa aa or_ ar op ap s (vp_in_lt b15) hz15) ?_
      refine aw_iald C K dX5_end_43 2 (wX1_ag5 ..) b43 ?_
      refine aw_perm (w1 := (wX5 cy o ad oa aa or_ ar op ap s)) (foN cy o ad oa aa or_ ar op ap s (vp_in_lt b15) hz15).symm ?_
      refine aw_name (fun x4_44 ex4_44 => ?_)
      have h := h x4_44 ex4_44
      refine aw_istore (lv' := [(4, .int x4_44), (3, .ref o15), (0, .ref o), (1, .int x1), (2, .int x2)]) C dX5_end_44 (by decide) rfl ?_
      refine aw_aload_n C dX5_end_46 1 rfl ?_
      refine aw_iload_n C dX5_end_47 4 rfl ?_
      refine aw_callFV (cells2 := 0) (slots2 := 0) (Wx := (fun u48 => (wX5 cy o ad oa aa or_ ar op ap (uN s x1.toNatClampNeg (some (o15, a15, l15, u48)))))) (wr := r5N cy o ad oa aa or_ ar op ap s x1.toNatClampNeg) (As := [.int x2]) (rest := []) C K (mtX1_takeOff l D cy o15 a15 l15 t15 x2 _ h) (foN cy o ad oa aa or_ ar op ap s (vp_in_lt b15) hz15) (fun u => (foN' cy o ad oa aa or_ ar op ap s (vp_in_lt b15) hz15 u)) (cwV 1 C.2.2.2.2.1 gX5_end_X1_takeOff rfl rfl rfl (by decide +kernel) ⟨Nat.le_of_ble_eq_true rfl, Nat.le_of_ble_eq_true rfl⟩) 0 1 (wX1_g ..) rfl rfl rfl rfl (Nat.le_of_ble_eq_true rfl) rfl rfl ⟨Nat.le_of_ble_eq_true rfl, Nat.le_of_ble_eq_true rfl⟩ dX5_end_48 (fun u48 h => ?_)
      refine aw_perm (w1 := (wX5 cy o ad oa aa or_ ar op ap (uN s x1.toNatClampNeg (some (o15, a15, l15, u48))))) (List.Perm.refl _) ?_
      obtain ⟨s48, es48⟩ : ∃ z, z = (uN s x1.toNatClampNeg (some (o15, a15, l15, u48))) := ⟨_, rfl⟩
      rw [← es48]
      have h := h s48 es48
      have hz15_48 : tN s48 x1.toNatClampNeg = some (o15, a15, l15, u48) := by rw [es48]; exact if_pos rfl
      refine aw_aload_n C dX5_end_51 2 rfl ?_
      refine aw_iload C dX5_end_52 0 rfl ?_
      refine aw_callFI (cells2 := 0) (slots2 := 0) (Wx := wX5 cy o ad oa aa or_ ar op ap) (wr := []) (As := [.int x4_44]) (rest := []) C K (mtX5_fine l D cy o ad oa aa or_ ar op ap s48 x4_44 _ h) (permNil _) (fun u => permNil _) (cwV 1 C.2.2.2.2.1 gX5_end_X5_fine rfl rfl rfl (by decide +kernel) ⟨Nat.le_of_ble_eq_true rfl, Nat.le_of_ble_eq_true rfl⟩) 0 5 (g5 ..) rfl rfl rfl rfl (Nat.le_of_ble_eq_true rfl) rfl rfl ⟨Nat.le_of_ble_eq_true rfl, Nat.le_of_ble_eq_true rfl⟩ dX5_end_54 (fun r54 s54 h => ?_)
      refine aw_lv [] rfl ?_
      exact hQ r54 s54 h 57 dX5_end_57
    have h := h.1 c32
    refine aw_ldc (v := (-1000001)) C dX5_end_35 qX5_end_constant_RX5_54_1000001 ?_
    refine aw_lv [] rfl ?_
    exact hQ (-1000001) s h 37 dX5_end_37
  have h := h.1 c4
  refine aw_ldc (v := (-1000001)) C dX5_end_7 qX5_end_constant_RX5_54_1000001 ?_
  refine aw_lv [] rfl ?_
  exact hQ (-1000001) s h 9 dX5_end_9
end SX5_end
theorem mtX5_end (l : Launch) (D : va_G) (cy : Nat → ClassId) (o : Nat) (ad : Nat → Nat) (oa : Nat) (aa : Nat → Nat) (or_ : Nat) (ar : Nat → Nat) (op : Nat) (ap : Nat → Nat) (s : TS) (x1 : Int32) (x2 : Int32) (Q : Int32 → TS → Prop) (hw : pX5_end  s x1 x2 Q) : mI l yX5_end wsX5_end rmX5_end D cy [.ref o, .int x1, .int x2] (wX5 cy o ad oa aa or_ ar op ap s) (wX5 cy o ad oa aa or_ ar op ap) Q :=
  metI (Wd := wX5 cy o ad oa aa or_ ar op ap) ⟨rfl, rfl⟩ (by decide) rfl (Nat.le_of_ble_eq_true rfl) (fun C K hQ => eX5_end C K hQ s x1 x2 hw)
def rmX5_line : Room := { frames := 2, cells := 0, slots := 0, locals := 43 }
theorem inX5_line_1 : ∀ w ∈ wsX10, w ∈ wsX5_line := fun w h => (List.mem_cons_of_mem _ (List.mem_append_right _ h))
theorem inX5_line_5 : ∀ w ∈ wsX50, w ∈ wsX5_line := fun w h => (List.mem_cons_of_mem _ (List.mem_append_left _ (List.mem_append_right _ h)))
theorem qX5_line_constant_RX5_54_1000001 : Cond.constant RX5 54 (-1000001) ∈ wsX5_line := (List.mem_cons_of_mem _ (List.mem_append_left _ (List.mem_append_left _ (List.mem_append_left _ (List.mem_of_getElem? (i := 0) rfl)))))
theorem qX5_line_fieldLink_RX5_17 : Cond.fieldLink RX5 17 "StageSwitch" "shelf" "[LStageSwitch$Net;" ∈ wsX5_line := (List.mem_cons_of_mem _ (List.mem_append_left _ (List.mem_append_left _ (List.mem_append_left _ (List.mem_of_getElem? (i := 1) rfl)))))
theorem qX5_line_fieldLink_RX5_135 : Cond.fieldLink RX5 135 "StageSwitch$Net" "middleOf" "[I" ∈ wsX5_line := (List.mem_cons_of_mem _ (List.mem_append_left _ (List.mem_append_left _ (List.mem_append_left _ (List.mem_of_getElem? (i := 3) rfl)))))
theorem qX5_line_fieldLink_RX5_128 : Cond.fieldLink RX5 128 "StageSwitch$Net" "outOf" "[I" ∈ wsX5_line := (List.mem_cons_of_mem _ (List.mem_append_left _ (List.mem_append_left _ (List.mem_append_left _ (List.mem_of_getElem? (i := 2) rfl)))))
section SX5_line
variable {p : Program} {l : Launch} {e : Env} {s0 : State} {m : MethodId} {args : Array Value} {below : List Frame} {meth : Method} {c : Code} {D : va_G} {A : Nat → Prop} {H0 : Heap} {cy : Nat → ClassId} {Z : State → Prop}
theorem eX5_line (C : ctB p s0 m args c cX5_line 5 RX5 wsX5_line) (K : ctK s0 D A H0 cy) {o : Nat} {ad : Nat → Nat} {oa : Nat} {aa : Nat → Nat} {or_ : Nat} {ar : Nat → Nat} {op : Nat} {ap : Nat → Nat} {Q : Int32 → TS → Prop} (hQ : ∀ (v : Int32) (u : TS), Q v u → ∀ pc, decode cX5_line pc = .ok (.ireturn, 1) → atG p l e rmX5_line s0 m args below meth c 0 0 Z 5 (iW D A H0 (wX5 cy o ad oa aa or_ ar op ap u)) [] [.int v] pc) (s : TS) (x1 : Int32) (x2 : Int32) (x3 : Int32) (h : pX5_line  s x1 x2 x3 Q) : atG p l e rmX5_line s0 m args below meth c 0 0 Z 5 (iW D A H0 (wX5 cy o ad oa aa or_ ar op ap s)) [(0, .ref o), (1, .int x1), (2, .int x2), (3, .int x3)] [] 0 := by
  delta pX5_line at h
  refine aw_iload_n C dX5_line_0 1 rfl ?_
  refine aw_callS (As := [.int x1]) (rest := []) C (mtX5_isPlace l x1 _ h) (va_cwS 1 C.2.2.2.2.1 gX5_line_X5_isPlace rfl rfl rfl (by decide +kernel) ⟨Nat.le_of_ble_eq_true rfl, Nat.le_of_ble_eq_true rfl⟩) rfl rfl (Nat.le_of_ble_eq_true rfl) ⟨rfl, rfl⟩ ⟨Nat.zero_le _, Nat.zero_le _⟩ dX5_line_1 (fun r1 h => ?_)
  refine aw_if_eq (tgt := 16) C dX5_line_4 (by decide) (fun c4 => ?_) (fun c4 => ?_)
  · have h := h.1 c4
    refine aw_ldc (v := (-1000001)) C dX5_line_16 qX5_line_constant_RX5_54_1000001 ?_
    refine aw_lv [] rfl ?_
    exact hQ (-1000001) s h 18 dX5_line_18
  have h := h.2 c4
  refine aw_iload_n C dX5_line_7 3 rfl ?_
  refine aw_iconst (v := 0) C dX5_line_8 (by decide) ?_
  refine aw_iconst (v := 1) C dX5_line_9 (by decide) ?_
  refine aw_callS (As := [.int x3, .int 0, .int 1]) (rest := []) C (mtX5_within l x3 0 1 _ h) (va_cwS 3 C.2.2.2.2.1 gX5_line_X5_within rfl rfl rfl (by decide +kernel) ⟨Nat.le_of_ble_eq_true rfl, Nat.le_of_ble_eq_true rfl⟩) rfl rfl (Nat.le_of_ble_eq_true rfl) ⟨rfl, rfl⟩ ⟨Nat.zero_le _, Nat.zero_le _⟩ dX5_line_10 (fun r10 h => ?_)
  refine aw_if_ne (tgt := 19) C dX5_line_13 (by decide) (fun c13 => ?_) (fun c13 => ?_)
  · have h := h.2 c13
    refine aw_aload_n C dX5_line_19 0 rfl ?_
    refine aw_getX5 C K inX5_line_5 dX5_line_20 1 (by decide) qX5_line_fieldLink_RX5_17 0 (g5 ..) rfl ?_
    refine aw_iload_n C dX5_line_23 1 rfl ?_
    obtain ⟨b24, h⟩ := h
    rcases hz24 : tN s x1.toNatClampNeg with _ | ⟨o24, a24, l24, t24⟩
    · have h := h.1 hz24
      refine aw_aaldN C K dX5_line_24 2 5 (g5N ..) rfl b24 (by show Option.map _ _ = _; rw [hz24]; rfl) ?_
      refine aw_astoreN (lv' := [(4, .null), (0, .ref o), (1, .int x1), (2, .int x2), (3, .int x3)]) C dX5_line_25 (by decide) rfl ?_
      refine aw_aloadN C dX5_line_27 0 rfl ?_
      refine aw_ifnonnullN C dX5_line_29 ?_
      refine aw_aload_n C dX5_line_32 1 rfl ?_
      refine aw_iconst (v := 1) C dX5_line_33 (by decide) ?_
      refine aw_callFI (cells2 := 0) (slots2 := 0) (Wx := wX5 cy o ad oa aa or_ ar op ap) (wr := []) (As := [.int 1]) (rest := []) C K (mtX5_found l D cy o ad oa aa or_ ar op ap s 1 _ h) (permNil _) (fun u => permNil _) (cwV 1 C.2.2.2.2.1 gX5_line_X5_found rfl rfl rfl (by decide +kernel) ⟨Nat.le_of_ble_eq_true rfl, Nat.le_of_ble_eq_true rfl⟩) 0 5 (g5 ..) rfl rfl rfl rfl (Nat.le_of_ble_eq_true rfl) rfl rfl ⟨Nat.le_of_ble_eq_true rfl, Nat.le_of_ble_eq_true rfl⟩ dX5_line_34 (fun r34 s34 h => ?_)
      refine aw_lv [] rfl ?_
      exact hQ r34 s34 h 37 dX5_line_37
    have h := h.2 o24 a24 l24 t24 hz24
    refine aw_aaldS (r := o24) C K dX5_line_24 2 5 (g5N ..) rfl b24 (by show Option.map _ _ = _; rw [hz24]; rfl) ?_
    refine aw_astore (lv' := [(4, .ref o24), (0, .ref o), (1, .int x1), (2, .int x2), (3, .int x3)]) C dX5_line_25 (by decide) rfl ?_
    refine aw_aload C dX5_line_27 0 rfl ?_
    refine aw_ifnonnull (tgt := 38) C dX5_line_29 (by decide) ?_
    refine aw_aload C dX5_line_38 0 rfl ?_
    refine aw_iload_n C dX5_line_40 3 rfl ?_
    refine aw_callFI (cells2 := 0) (slots2 := 0) (Wx := (fun u41 => (wX5 cy o ad oa aa or_ ar op ap (uN s x1.toNatClampNeg (some (o24, a24, l24, u41)))))) (wr := r5N cy o ad oa aa or_ ar op ap s x1.toNatClampNeg) (As := [.int x2]) (rest := []) C K (mtX1_hasLine l D cy o24 a24 l24 t24 x2 _ h) (foN cy o ad oa aa or_ ar op ap s (vp_in_lt b24) hz24) (fun u => (foN' cy o ad oa aa or_ ar op ap s (vp_in_lt b24) hz24 u)) (cwV 1 C.2.2.2.2.1 gX5_line_X1_hasLine rfl rfl rfl (by decide +kernel) ⟨Nat.le_of_ble_eq_true rfl, Nat.le_of_ble_eq_true rfl⟩) 0 1 (wX1_g ..) rfl rfl rfl rfl (Nat.le_of_ble_eq_true rfl) rfl rfl ⟨Nat.le_of_ble_eq_true rfl, Nat.le_of_ble_eq_true rfl⟩ dX5_line_41 (fun r41 u41 h => ?_)
    obtain ⟨h, hu41⟩ := h
    refine aw_perm (w1 := (wX5 cy o ad oa aa or_ ar op ap s)) (by show ((wX5 cy o ad oa aa or_ ar op ap (uN s x1.toNatClampNeg (some (o24, a24, l24, u41))))).Perm _; rw [hu41, uN_self hz24] <;> exact List.Perm.refl _) ?_
    refine aw_if_ne (tgt := 50) C dX5_line_44 (by decide) (fun c44 => ?_) (fun c44 => ?_)
    · have h := h.2 c44
      refine aw_aload_n C dX5_line_50 1 rfl ?_
      refine aw_iload_n C dX5_line_51 4 rfl ?_
      refine aw_if_ne (tgt := 65) C dX5_line_52 (by decide) (fun c52 => ?_) (fun c52 => ?_)
      · have h := h.2 c52
        refine aw_aload C dX5_line_65 0 rfl ?_
        refine aw_perm (w1 := wX1 cy o24 a24 l24 t24 ++ r5N cy o ad oa aa or_ ar op ap s x1.toNatClampNeg) (foN cy o ad oa aa or_ ar op ap s (vp_in_lt b24) hz24) ?_
        refine aw_getX1 C K inX5_line_1 dX5_line_67 6 (by decide) qX5_line_fieldLink_RX5_135 0 (wX1_ag ..) rfl ?_
        refine aw_perm (w1 := (wX5 cy o ad oa aa or_ ar op ap s)) (foN cy o ad oa aa or_ ar op ap s (vp_in_lt b24) hz24).symm ?_
        refine aw_iload_n C dX5_line_70 3 rfl ?_
        obtain ⟨b71, h⟩ := h
        refine aw_perm (w1 := wX1 cy o24 a24 l24 t24 ++ r5N cy o ad oa aa or_ ar op ap s x1.toNatClampNeg) (foN cy o ad oa aa or_ ar op ap s (vp_in_lt b24) hz24) ?_
        refine aw_iald C K dX5_line_71 3 (wX1_ag6 ..) b71 ?_
        refine aw_perm (w1 := (wX5 cy o ad oa aa or_ ar op ap s)) (foN cy o ad oa aa or_ ar op ap s (vp_in_lt b24) hz24).symm ?_
        refine aw_callFI (cells2 := 0) (slots2 := 0) (Wx := wX5 cy o ad oa aa or_ ar op ap) (wr := []) (As := [.int (sA t24 6 x2.toNatClampNeg)]) (rest := []) C K (mtX5_fine l D cy o ad oa aa or_ ar op ap s (sA t24 6 x2.toNatClampNeg) _ h) (permNil _) (fun u => permNil _) (cwV 1 C.2.2.2.2.1 gX5_line_X5_fine rfl rfl rfl (by decide +kernel) ⟨Nat.le_of_ble_eq_true rfl, Nat.le_of_ble_eq_true rfl⟩) 0 5 (g5 ..) rfl rfl rfl rfl (Nat.le_of_ble_eq_true rfl) rfl rfl ⟨Nat.le_of_ble_eq_true rfl, Nat.le_of_ble_eq_true rfl⟩ dX5_line_72 (fun r72 s72 h => ?_)
        refine aw_lv [] rfl ?_
        exact hQ r72 s72 h 75 dX5_line_75
      have h := h.1 c52
      refine aw_aload C dX5_line_55 0 rfl ?_
      refine aw_perm (w1 := wX1 cy o24 a24 l24 t24 ++ r5N cy o ad oa aa or_ ar op ap s x1.toNatClampNeg) (foN cy o ad oa aa or_ ar op ap s (vp_in_lt b24) hz24) ?_
      refine aw_getX1 C K inX5_line_1 dX5_line_57 5 (by decide) qX5_line_fieldLink_RX5_128 0 (wX1_ag ..) rfl ?_
      refine aw_perm (w1 := (wX5 cy o ad oa aa or_ ar op ap s)) (foN cy o ad oa aa or_ ar op ap s (vp_in_lt b24) hz24).symm ?_
      refine aw_iload_n C dX5_line_60 3 rfl ?_
      obtain ⟨b61, h⟩ := h
      refine aw_perm (w1 := wX1 cy o24 a24 l24 t24 ++ r5N cy o ad oa aa or_ ar op ap s x1.toNatClampNeg) (foN cy o ad oa aa or_ ar op ap s (vp_in_lt b24) hz24) ?_
      refine aw_iald C K dX5_line_61 2 (wX1_ag5 ..) b61 ?_
      refine aw_perm (w1 := (wX5 cy o ad oa aa or_ ar op ap s)) (foN cy o ad oa aa or_ ar op ap s (vp_in_lt b24) hz24).symm ?_
      refine aw_goto (tgt := 72) C dX5_line_62 (by decide) ?_
      refine aw_callFI (cells2 := 0) (slots2 := 0) (Wx := wX5 cy o ad oa aa or_ ar op ap) (wr := []) (As := [.int (sA t24 5 x2.toNatClampNeg)]) (rest := []) C K (mtX5_fine l D cy o ad oa aa or_ ar op ap s (sA t24 5 x2.toNatClampNeg) _ h) (permNil _) (fun u => permNil _) (cwV 1 C.2.2.2.2.1 gX5_line_X5_fine rfl rfl rfl (by decide +kernel) ⟨Nat.le_of_ble_eq_true rfl, Nat.le_of_ble_eq_true rfl⟩) 0 5 (g5 ..) rfl rfl rfl rfl (Nat.le_of_ble_eq_true rfl) rfl rfl ⟨Nat.le_of_ble_eq_true rfl, Nat.le_of_ble_eq_true rfl⟩ dX5_line_72 (fun r72 s72 h => ?_)
      refine aw_lv [] rfl ?_
      exact hQ r72 s72 h 75 dX5_line_75
    have h := h.1 c44
    refine aw_ldc (v := (-1000001)) C dX5_line_47 qX5_line_constant_RX5_54_1000001 ?_
    refine aw_lv [] rfl ?_
    exact hQ (-1000001) s h 49 dX5_line_49
  have h := h.1 c13
  refine aw_ldc (v := (-1000001)) C dX5_line_16 qX5_line_constant_RX5_54_1000001 ?_
  refine aw_lv [] rfl ?_
  exact hQ (-1000001) s h 18 dX5_line_18
end SX5_line
theorem mtX5_line (l : Launch) (D : va_G) (cy : Nat → ClassId) (o : Nat) (ad : Nat → Nat) (oa : Nat) (aa : Nat → Nat) (or_ : Nat) (ar : Nat → Nat) (op : Nat) (ap : Nat → Nat) (s : TS) (x1 : Int32) (x2 : Int32) (x3 : Int32) (Q : Int32 → TS → Prop) (hw : pX5_line  s x1 x2 x3 Q) : mI l yX5_line wsX5_line rmX5_line D cy [.ref o, .int x1, .int x2, .int x3] (wX5 cy o ad oa aa or_ ar op ap s) (wX5 cy o ad oa aa or_ ar op ap) Q :=
  metI (Wd := wX5 cy o ad oa aa or_ ar op ap) ⟨rfl, rfl⟩ (by decide) rfl (Nat.le_of_ble_eq_true rfl) (fun C K hQ => eX5_line C K hQ s x1 x2 x3 hw)
def rmX5_free : Room := { frames := 4, cells := 0, slots := 0, locals := 98 }
theorem inX5_free_1 : ∀ w ∈ wsX10, w ∈ wsX5_free := fun w h => (List.mem_cons_of_mem _ (List.mem_append_right _ h))
theorem inX5_free_5 : ∀ w ∈ wsX50, w ∈ wsX5_free := fun w h => (List.mem_cons_of_mem _ (List.mem_append_left _ (List.mem_append_right _ h)))
theorem qX5_free_constant_RX5_54_1000001 : Cond.constant RX5 54 (-1000001) ∈ wsX5_free := (List.mem_cons_of_mem _ (List.mem_append_left _ (List.mem_append_left _ (List.mem_append_left _ (List.mem_of_getElem? (i := 0) rfl)))))
theorem qX5_free_fieldLink_RX5_17 : Cond.fieldLink RX5 17 "StageSwitch" "shelf" "[LStageSwitch$Net;" ∈ wsX5_free := (List.mem_cons_of_mem _ (List.mem_append_left _ (List.mem_append_left _ (List.mem_append_left _ (List.mem_of_getElem? (i := 1) rfl)))))
theorem qX5_free_constant_RX5_123_1000002 : Cond.constant RX5 123 (-1000002) ∈ wsX5_free := (List.mem_cons_of_mem _ (List.mem_append_left _ (List.mem_append_left _ (List.mem_append_left _ (List.mem_of_getElem? (i := 2) rfl)))))
section SX5_free
variable {p : Program} {l : Launch} {e : Env} {s0 : State} {m : MethodId} {args : Array Value} {below : List Frame} {meth : Method} {c : Code} {D : va_G} {A : Nat → Prop} {H0 : Heap} {cy : Nat → ClassId} {Z : State → Prop}
theorem eX5_free (C : ctB p s0 m args c cX5_free 6 RX5 wsX5_free) (K : ctK s0 D A H0 cy) {o : Nat} {ad : Nat → Nat} {oa : Nat} {aa : Nat → Nat} {or_ : Nat} {ar : Nat → Nat} {op : Nat} {ap : Nat → Nat} {Q : Int32 → TS → Prop} (hQ : ∀ (v : Int32) (u : TS), Q v u → ∀ pc, decode cX5_free pc = .ok (.ireturn, 1) → atG p l e rmX5_free s0 m args below meth c 0 0 Z 6 (iW D A H0 (wX5 cy o ad oa aa or_ ar op ap u)) [] [.int v] pc) (s : TS) (x1 : Int32) (x2 : Int32) (x3 : Int32) (x4 : Int32) (h : pX5_free  s x1 x2 x3 x4 Q) : atG p l e rmX5_free s0 m args below meth c 0 0 Z 6 (iW D A H0 (wX5 cy o ad oa aa or_ ar op ap s)) [(0, .ref o), (1, .int x1), (2, .int x2), (3, .int x3), (4, .int x4)] [] 0 := by
  delta pX5_free at h
  refine aw_iload_n C dX5_free_0 1 rfl ?_
  refine aw_callS (As := [.int x1]) (rest := []) C (mtX5_isPlace l x1 _ h) (va_cwS 1 C.2.2.2.2.1 gX5_free_X5_isPlace rfl rfl rfl (by decide +kernel) ⟨Nat.le_of_ble_eq_true rfl, Nat.le_of_ble_eq_true rfl⟩) rfl rfl (Nat.le_of_ble_eq_true rfl) ⟨rfl, rfl⟩ ⟨Nat.zero_le _, Nat.zero_le _⟩ dX5_free_1 (fun r1 h => ?_)
  refine aw_if_eq (tgt := 17) C dX5_free_4 (by decide) (fun c4 => ?_) (fun c4 => ?_)
  · have h := h.1 c4
    refine aw_ldc (v := (-1000001)) C dX5_free_17 qX5_free_constant_RX5_54_1000001 ?_
    refine aw_lv [] rfl ?_
    exact hQ (-1000001) s h 19 dX5_free_19
  have h := h.2 c4
  refine aw_iload C dX5_free_7 4 rfl ?_
  refine aw_iconst (v := 0) C dX5_free_9 (by decide) ?_
  refine aw_iconst (v := 1) C dX5_free_10 (by decide) ?_
  refine aw_callS (As := [.int x4, .int 0, .int 1]) (rest := []) C (mtX5_within l x4 0 1 _ h) (va_cwS 3 C.2.2.2.2.1 gX5_free_X5_within rfl rfl rfl (by decide +kernel) ⟨Nat.le_of_ble_eq_true rfl, Nat.le_of_ble_eq_true rfl⟩) rfl rfl (Nat.le_of_ble_eq_true rfl) ⟨rfl, rfl⟩ ⟨Nat.zero_le _, Nat.zero_le _⟩ dX5_free_11 (fun r11 h => ?_)
  refine aw_if_ne (tgt := 20) C dX5_free_14 (by decide) (fun c14 => ?_) (fun c14 => ?_)
  · have h := h.2 c14
    refine aw_aload_n C dX5_free_20 0 rfl ?_
    refine aw_getX5 C K inX5_free_5 dX5_free_21 1 (by decide) qX5_free_fieldLink_RX5_17 0 (g5 ..) rfl ?_
    refine aw_iload_n C dX5_free_24 1 rfl ?_
    obtain ⟨b25, h⟩ := h
    rcases hz25 : tN s x1.toNatClampNeg with _ | ⟨o25, a25, l25, t25⟩
    · have h := h.1 hz25
      refine aw_aaldN C K dX5_free_25 2 5 (g5N ..) rfl b25 (by show Option.map _ _ = _; rw [hz25]; rfl) ?_
      refine aw_astoreN (lv' := [(5, .null), (0, .ref o), (1, .int x1), (2, .int x2), (3, .int x3), (4, .int x4)]) C dX5_free_26 (by decide) rfl ?_
      refine aw_aloadN C dX5_free_28 0 rfl ?_
      refine aw_ifnonnullN C dX5_free_30 ?_
      refine aw_aload_n C dX5_free_33 1 rfl ?_
      refine aw_iconst (v := 1) C dX5_free_34 (by decide) ?_
      refine aw_callFI (cells2 := 0) (slots2 := 0) (Wx := wX5 cy o ad oa aa or_ ar op ap) (wr := []) (As := [.int 1]) (rest := []) C K (mtX5_found l D cy o ad oa aa or_ ar op ap s 1 _ h) (permNil _) (fun u => permNil _) (cwV 1 C.2.2.2.2.1 gX5_free_X5_found rfl rfl rfl (by decide +kernel) ⟨Nat.le_of_ble_eq_true rfl, Nat.le_of_ble_eq_true rfl⟩) 0 5 (g5 ..) rfl rfl rfl rfl (Nat.le_of_ble_eq_true rfl) rfl rfl ⟨Nat.le_of_ble_eq_true rfl, Nat.le_of_ble_eq_true rfl⟩ dX5_free_35 (fun r35 s35 h => ?_)
      refine aw_lv [] rfl ?_
      exact hQ r35 s35 h 38 dX5_free_38
    have h := h.2 o25 a25 l25 t25 hz25
    refine aw_aaldS (r := o25) C K dX5_free_25 2 5 (g5N ..) rfl b25 (by show Option.map _ _ = _; rw [hz25]; rfl) ?_
    refine aw_astore (lv' := [(5, .ref o25), (0, .ref o), (1, .int x1), (2, .int x2), (3, .int x3), (4, .int x4)]) C dX5_free_26 (by decide) rfl ?_
    refine aw_aload C dX5_free_28 0 rfl ?_
    refine aw_ifnonnull (tgt := 39) C dX5_free_30 (by decide) ?_
    refine aw_aload C dX5_free_39 0 rfl ?_
    refine aw_iload_n C dX5_free_41 3 rfl ?_
    refine aw_callFI (cells2 := 0) (slots2 := 0) (Wx := (fun u42 => (wX5 cy o ad oa aa or_ ar op ap (uN s x1.toNatClampNeg (some (o25, a25, l25, u42)))))) (wr := r5N cy o ad oa aa or_ ar op ap s x1.toNatClampNeg) (As := [.int x2]) (rest := []) C K (mtX1_hasLine l D cy o25 a25 l25 t25 x2 _ h) (foN cy o ad oa aa or_ ar op ap s (vp_in_lt b25) hz25) (fun u => (foN' cy o ad oa aa or_ ar op ap s (vp_in_lt b25) hz25 u)) (cwV 1 C.2.2.2.2.1 gX5_free_X1_hasLine rfl rfl rfl (by decide +kernel) ⟨Nat.le_of_ble_eq_true rfl, Nat.le_of_ble_eq_true rfl⟩) 0 1 (wX1_g ..) rfl rfl rfl rfl (Nat.le_of_ble_eq_true rfl) rfl rfl ⟨Nat.le_of_ble_eq_true rfl, Nat.le_of_ble_eq_true rfl⟩ dX5_free_42 (fun r42 u42 h => ?_)
    obtain ⟨h, hu42⟩ := h
    refine aw_perm (w1 := (wX5 cy o ad oa aa or_ ar op ap s)) (by show ((wX5 cy o ad oa aa or_ ar op ap (uN s x1.toNatClampNeg (some (o25, a25, l25, u42))))).Perm _; rw [hu42, uN_self hz25] <;> exact List.Perm.refl _) ?_
    refine aw_if_eq (tgt := 57) C dX5_free_45 (by decide) (fun c45 => ?_) (fun c45 => ?_)
    · have h := h.1 c45
      refine aw_ldc (v := (-1000001)) C dX5_free_57 qX5_free_constant_RX5_54_1000001 ?_
      refine aw_lv [] rfl ?_
      exact hQ (-1000001) s h 59 dX5_free_59
    have h := h.2 c45
    refine aw_aload C dX5_free_48 0 rfl ?_
    refine aw_iload_n C dX5_free_50 4 rfl ?_
    refine aw_callFI (cells2 := 0) (slots2 := 0) (Wx := (fun u51 => (wX5 cy o ad oa aa or_ ar op ap (uN s x1.toNatClampNeg (some (o25, a25, l25, u51)))))) (wr := r5N cy o ad oa aa or_ ar op ap s x1.toNatClampNeg) (As := [.int x3]) (rest := []) C K (mtX1_hasLine l D cy o25 a25 l25 t25 x3 _ h) (foN cy o ad oa aa or_ ar op ap s (vp_in_lt b25) hz25) (fun u => (foN' cy o ad oa aa or_ ar op ap s (vp_in_lt b25) hz25 u)) (cwV 1 C.2.2.2.2.1 gX5_free_X1_hasLine rfl rfl rfl (by decide +kernel) ⟨Nat.le_of_ble_eq_true rfl, Nat.le_of_ble_eq_true rfl⟩) 0 1 (wX1_g ..) rfl rfl rfl rfl (Nat.le_of_ble_eq_true rfl) rfl rfl ⟨Nat.le_of_ble_eq_true rfl, Nat.le_of_ble_eq_true rfl⟩ dX5_free_51 (fun r51 u51 h => ?_)
    obtain ⟨h, hu51⟩ := h
    refine aw_perm (w1 := (wX5 cy o ad oa aa or_ ar op ap s)) (by show ((wX5 cy o ad oa aa or_ ar op ap (uN s x1.toNatClampNeg (some (o25, a25, l25, u51))))).Perm _; rw [hu51, uN_self hz25] <;> exact List.Perm.refl _) ?_
    refine aw_if_ne (tgt := 60) C dX5_free_54 (by decide) (fun c54 => ?_) (fun c54 => ?_)
    · have h := h.2 c54
      refine aw_aload C dX5_free_60 0 rfl ?_
      refine aw_iload_n C dX5_free_62 3 rfl ?_
      refine aw_iload_n C dX5_free_63 4 rfl ?_
      refine aw_callFI (cells2 := 0) (slots2 := 0) (Wx := (fun u64 => (wX5 cy o ad oa aa or_ ar op ap (uN s x1.toNatClampNeg (some (o25, a25, l25, u64)))))) (wr := r5N cy o ad oa aa or_ ar op ap s x1.toNatClampNeg) (As := [.int x2, .int x3]) (rest := []) C K (mtX1_isBusy l D cy o25 a25 l25 t25 x2 x3 _ h) (foN cy o ad oa aa or_ ar op ap s (vp_in_lt b25) hz25) (fun u => (foN' cy o ad oa aa or_ ar op ap s (vp_in_lt b25) hz25 u)) (cwV 2 C.2.2.2.2.1 gX5_free_X1_isBusy rfl rfl rfl (by decide +kernel) ⟨Nat.le_of_ble_eq_true rfl, Nat.le_of_ble_eq_true rfl⟩) 0 1 (wX1_g ..) rfl rfl rfl rfl (Nat.le_of_ble_eq_true rfl) rfl rfl ⟨Nat.le_of_ble_eq_true rfl, Nat.le_of_ble_eq_true rfl⟩ dX5_free_64 (fun r64 u64 h => ?_)
      obtain ⟨h, hu64⟩ := h
      refine aw_perm (w1 := (wX5 cy o ad oa aa or_ ar op ap s)) (by show ((wX5 cy o ad oa aa or_ ar op ap (uN s x1.toNatClampNeg (some (o25, a25, l25, u64))))).Perm _; rw [hu64, uN_self hz25] <;> exact List.Perm.refl _) ?_
      refine aw_if_eq (tgt := 73) C dX5_free_67 (by decide) (fun c67 => ?_) (fun c67 => ?_)
      · have h := h.1 c67
        refine aw_aload_n C dX5_free_73 1 rfl ?_
        refine aw_iload C dX5_free_74 5 rfl ?_
        refine aw_if_ne (tgt := 89) C dX5_free_76 (by decide) (fun c76 => ?_) (fun c76 => ?_)
        · have h := h.2 c76
          refine aw_aload C dX5_free_89 0 rfl ?_
          refine aw_iload_n C dX5_free_91 3 rfl ?_
          refine aw_iload_n C dX5_free_92 4 rfl ?_
          refine aw_iconst (v := 1) C dX5_free_93 (by decide) ?_
          refine aw_callFI (cells2 := 0) (slots2 := 0) (Wx := (fun u94 => (wX5 cy o ad oa aa or_ ar op ap (uN s x1.toNatClampNeg (some (o25, a25, l25, u94)))))) (wr := r5N cy o ad oa aa or_ ar op ap s x1.toNatClampNeg) (As := [.int x2, .int x3, .int 1]) (rest := [.ref o]) C K (mtX1_plan l D cy o25 a25 l25 t25 x2 x3 1 _ h) (foN cy o ad oa aa or_ ar op ap s (vp_in_lt b25) hz25) (fun u => (foN' cy o ad oa aa or_ ar op ap s (vp_in_lt b25) hz25 u)) (cwV 3 C.2.2.2.2.1 gX5_free_X1_plan rfl rfl rfl (by decide +kernel) ⟨Nat.le_of_ble_eq_true rfl, Nat.le_of_ble_eq_true rfl⟩) 0 1 (wX1_g ..) rfl rfl rfl rfl (Nat.le_of_ble_eq_true rfl) rfl rfl ⟨Nat.le_of_ble_eq_true rfl, Nat.le_of_ble_eq_true rfl⟩ dX5_free_94 (fun r94 u94 h => ?_)
          refine aw_perm (w1 := (wX5 cy o ad oa aa or_ ar op ap (uN s x1.toNatClampNeg (some (o25, a25, l25, u94))))) (List.Perm.refl _) ?_
          obtain ⟨s94, es94⟩ : ∃ z, z = (uN s x1.toNatClampNeg (some (o25, a25, l25, u94))) := ⟨_, rfl⟩
          rw [← es94]
          have h := h s94 es94
          have hz25_94 : tN s94 x1.toNatClampNeg = some (o25, a25, l25, u94) := by rw [es94]; exact if_pos rfl
          refine aw_callFI (cells2 := 0) (slots2 := 0) (Wx := wX5 cy o ad oa aa or_ ar op ap) (wr := []) (As := [.int r94]) (rest := []) C K (mtX5_fine l D cy o ad oa aa or_ ar op ap s94 r94 _ h) (permNil _) (fun u => permNil _) (cwV 1 C.2.2.2.2.1 gX5_free_X5_fine rfl rfl rfl (by decide +kernel) ⟨Nat.le_of_ble_eq_true rfl, Nat.le_of_ble_eq_true rfl⟩) 0 5 (g5 ..) rfl rfl rfl rfl (Nat.le_of_ble_eq_true rfl) rfl rfl ⟨Nat.le_of_ble_eq_true rfl, Nat.le_of_ble_eq_true rfl⟩ dX5_free_97 (fun r97 s97 h => ?_)
          refine aw_lv [] rfl ?_
          exact hQ r97 s97 h 100 dX5_free_100
        have h := h.1 c76
        refine aw_aload C dX5_free_79 0 rfl ?_
        refine aw_iload_n C dX5_free_81 3 rfl ?_
        refine aw_iload_n C dX5_free_82 4 rfl ?_
        refine aw_callFI (cells2 := 0) (slots2 := 0) (Wx := (fun u83 => (wX5 cy o ad oa aa or_ ar op ap (uN s x1.toNatClampNeg (some (o25, a25, l25, u83)))))) (wr := r5N cy o ad oa aa or_ ar op ap s x1.toNatClampNeg) (As := [.int x2, .int x3]) (rest := [.ref o]) C K (mtX1_howManyFree l D cy o25 a25 l25 t25 x2 x3 _ h) (foN cy o ad oa aa or_ ar op ap s (vp_in_lt b25) hz25) (fun u => (foN' cy o ad oa aa or_ ar op ap s (vp_in_lt b25) hz25 u)) (cwV 2 C.2.2.2.2.1 gX5_free_X1_howManyFree rfl rfl rfl (by decide +kernel) ⟨Nat.le_of_ble_eq_true rfl, Nat.le_of_ble_eq_true rfl⟩) 0 1 (wX1_g ..) rfl rfl rfl rfl (Nat.le_of_ble_eq_true rfl) rfl rfl ⟨Nat.le_of_ble_eq_true rfl, Nat.le_of_ble_eq_true rfl⟩ dX5_free_83 (fun r83 u83 h => ?_)
        obtain ⟨h, hu83⟩ := h
        refine aw_perm (w1 := (wX5 cy o ad oa aa or_ ar op ap s)) (by show ((wX5 cy o ad oa aa or_ ar op ap (uN s x1.toNatClampNeg (some (o25, a25, l25, u83))))).Perm _; rw [hu83, uN_self hz25] <;> exact List.Perm.refl _) ?_
        refine aw_goto (tgt := 97) C dX5_free_86 (by decide) ?_
        refine aw_callFI (cells2 := 0) (slots2 := 0) (Wx := wX5 cy o ad oa aa or_ ar op ap) (wr := []) (As := [.int r83]) (rest := []) C K (mtX5_fine l D cy o ad oa aa or_ ar op ap s r83 _ h) (permNil _) (fun u => permNil _) (cwV 1 C.2.2.2.2.1 gX5_free_X5_fine rfl rfl rfl (by decide +kernel) ⟨Nat.le_of_ble_eq_true rfl, Nat.le_of_ble_eq_true rfl⟩) 0 5 (g5 ..) rfl rfl rfl rfl (Nat.le_of_ble_eq_true rfl) rfl rfl ⟨Nat.le_of_ble_eq_true rfl, Nat.le_of_ble_eq_true rfl⟩ dX5_free_97 (fun r97 s97 h => ?_)
        refine aw_lv [] rfl ?_
        exact hQ r97 s97 h 100 dX5_free_100
      have h := h.2 c67
      refine aw_ldc (v := (-1000002)) C dX5_free_70 qX5_free_constant_RX5_123_1000002 ?_
      refine aw_lv [] rfl ?_
      exact hQ (-1000002) s h 72 dX5_free_72
    have h := h.1 c54
    refine aw_ldc (v := (-1000001)) C dX5_free_57 qX5_free_constant_RX5_54_1000001 ?_
    refine aw_lv [] rfl ?_
    exact hQ (-1000001) s h 59 dX5_free_59
  have h := h.1 c14
  refine aw_ldc (v := (-1000001)) C dX5_free_17 qX5_free_constant_RX5_54_1000001 ?_
  refine aw_lv [] rfl ?_
  exact hQ (-1000001) s h 19 dX5_free_19
end SX5_free
theorem mtX5_free (l : Launch) (D : va_G) (cy : Nat → ClassId) (o : Nat) (ad : Nat → Nat) (oa : Nat) (aa : Nat → Nat) (or_ : Nat) (ar : Nat → Nat) (op : Nat) (ap : Nat → Nat) (s : TS) (x1 : Int32) (x2 : Int32) (x3 : Int32) (x4 : Int32) (Q : Int32 → TS → Prop) (hw : pX5_free  s x1 x2 x3 x4 Q) : mI l yX5_free wsX5_free rmX5_free D cy [.ref o, .int x1, .int x2, .int x3, .int x4] (wX5 cy o ad oa aa or_ ar op ap s) (wX5 cy o ad oa aa or_ ar op ap) Q :=
  metI (Wd := wX5 cy o ad oa aa or_ ar op ap) ⟨rfl, rfl⟩ (by decide) rfl (Nat.le_of_ble_eq_true rfl) (fun C K hQ => eX5_free C K hQ s x1 x2 x3 x4 hw)
def rmX5_die : Room := { frames := 6, cells := 0, slots := 0, locals := 146 }
theorem inX5_die_1 : ∀ w ∈ wsX10, w ∈ wsX5_die := fun w h => (List.mem_cons_of_mem _ (List.mem_append_right _ h))
theorem inX5_die_5 : ∀ w ∈ wsX50, w ∈ wsX5_die := fun w h => (List.mem_cons_of_mem _ (List.mem_append_left _ (List.mem_append_right _ h)))
theorem qX5_die_fieldLink_RX5_17 : Cond.fieldLink RX5 17 "StageSwitch" "shelf" "[LStageSwitch$Net;" ∈ wsX5_die := (List.mem_cons_of_mem _ (List.mem_append_left _ (List.mem_append_left _ (List.mem_append_left _ (List.mem_of_getElem? (i := 1) rfl)))))
theorem qX5_die_fieldLink_RX5_148 : Cond.fieldLink RX5 148 "StageSwitch$Net" "dead" "[Z" ∈ wsX5_die := (List.mem_cons_of_mem _ (List.mem_append_left _ (List.mem_append_left _ (List.mem_append_left _ (List.mem_of_getElem? (i := 2) rfl)))))
theorem qX5_die_constant_RX5_123_1000002 : Cond.constant RX5 123 (-1000002) ∈ wsX5_die := (List.mem_cons_of_mem _ (List.mem_append_left _ (List.mem_append_left _ (List.mem_append_left _ (List.mem_of_getElem? (i := 3) rfl)))))
theorem qX5_die_constant_RX5_54_1000001 : Cond.constant RX5 54 (-1000001) ∈ wsX5_die := (List.mem_cons_of_mem _ (List.mem_append_left _ (List.mem_append_left _ (List.mem_append_left _ (List.mem_of_getElem? (i := 0) rfl)))))
section SX5_die
variable {p : Program} {l : Launch} {e : Env} {s0 : State} {m : MethodId} {args : Array Value} {below : List Frame} {meth : Method} {c : Code} {D : va_G} {A : Nat → Prop} {H0 : Heap} {cy : Nat → ClassId} {Z : State → Prop}
theorem eX5_die (C : ctB p s0 m args c cX5_die 4 RX5 wsX5_die) (K : ctK s0 D A H0 cy) {o : Nat} {ad : Nat → Nat} {oa : Nat} {aa : Nat → Nat} {or_ : Nat} {ar : Nat → Nat} {op : Nat} {ap : Nat → Nat} {Q : Int32 → TS → Prop} (hQ : ∀ (v : Int32) (u : TS), Q v u → ∀ pc, decode cX5_die pc = .ok (.ireturn, 1) → atG p l e rmX5_die s0 m args below meth c 0 0 Z 4 (iW D A H0 (wX5 cy o ad oa aa or_ ar op ap u)) [] [.int v] pc) (s : TS) (x1 : Int32) (x2 : Int32) (h : pX5_die  s x1 x2 Q) : atG p l e rmX5_die s0 m args below meth c 0 0 Z 4 (iW D A H0 (wX5 cy o ad oa aa or_ ar op ap s)) [(0, .ref o), (1, .int x1), (2, .int x2)] [] 0 := by
  delta pX5_die at h
  refine aw_iload_n C dX5_die_0 1 rfl ?_
  refine aw_callS (As := [.int x1]) (rest := []) C (mtX5_isPlace l x1 _ h) (va_cwS 1 C.2.2.2.2.1 gX5_die_X5_isPlace rfl rfl rfl (by decide +kernel) ⟨Nat.le_of_ble_eq_true rfl, Nat.le_of_ble_eq_true rfl⟩) rfl rfl (Nat.le_of_ble_eq_true rfl) ⟨rfl, rfl⟩ ⟨Nat.zero_le _, Nat.zero_le _⟩ dX5_die_1 (fun r1 h => ?_)
  refine aw_if_ne (tgt := 10) C dX5_die_4 (by decide) (fun c4 => ?_) (fun c4 => ?_)
  · have h := h.2 c4
    refine aw_aload_n C dX5_die_10 0 rfl ?_
    refine aw_getX5 C K inX5_die_5 dX5_die_11 1 (by decide) qX5_die_fieldLink_RX5_17 0 (g5 ..) rfl ?_
    refine aw_iload_n C dX5_die_14 1 rfl ?_
    obtain ⟨b15, h⟩ := h
    rcases hz15 : tN s x1.toNatClampNeg with _ | ⟨o15, a15, l15, t15⟩
    · have h := h.1 hz15
      refine aw_aaldN C K dX5_die_15 2 5 (g5N ..) rfl b15 (by show Option.map _ _ = _; rw [hz15]; rfl) ?_
      refine aw_astore_nN (lv' := [(3, .null), (0, .ref o), (1, .int x1), (2, .int x2)]) C dX5_die_16 (by decide) rfl ?_
      refine aw_aload_nN C dX5_die_17 0 rfl ?_
      refine aw_ifnonnullN C dX5_die_18 ?_
      refine aw_aload_n C dX5_die_21 1 rfl ?_
      refine aw_iconst (v := 1) C dX5_die_22 (by decide) ?_
      refine aw_callFI (cells2 := 0) (slots2 := 0) (Wx := wX5 cy o ad oa aa or_ ar op ap) (wr := []) (As := [.int 1]) (rest := []) C K (mtX5_found l D cy o ad oa aa or_ ar op ap s 1 _ h) (permNil _) (fun u => permNil _) (cwV 1 C.2.2.2.2.1 gX5_die_X5_found rfl rfl rfl (by decide +kernel) ⟨Nat.le_of_ble_eq_true rfl, Nat.le_of_ble_eq_true rfl⟩) 0 5 (g5 ..) rfl rfl rfl rfl (Nat.le_of_ble_eq_true rfl) rfl rfl ⟨Nat.le_of_ble_eq_true rfl, Nat.le_of_ble_eq_true rfl⟩ dX5_die_23 (fun r23 s23 h => ?_)
      refine aw_lv [] rfl ?_
      exact hQ r23 s23 h 26 dX5_die_26
    have h := h.2 o15 a15 l15 t15 hz15
    refine aw_aaldS (r := o15) C K dX5_die_15 2 5 (g5N ..) rfl b15 (by show Option.map _ _ = _; rw [hz15]; rfl) ?_
    refine aw_astore_n (lv' := [(3, .ref o15), (0, .ref o), (1, .int x1), (2, .int x2)]) C dX5_die_16 (by decide) rfl ?_
    refine aw_aload_n C dX5_die_17 0 rfl ?_
    refine aw_ifnonnull (tgt := 27) C dX5_die_18 (by decide) ?_
    refine aw_aload_n C dX5_die_27 0 rfl ?_
    refine aw_iload_n C dX5_die_28 3 rfl ?_
    refine aw_callFI (cells2 := 0) (slots2 := 0) (Wx := (fun u29 => (wX5 cy o ad oa aa or_ ar op ap (uN s x1.toNatClampNeg (some (o15, a15, l15, u29)))))) (wr := r5N cy o ad oa aa or_ ar op ap s x1.toNatClampNeg) (As := [.int x2]) (rest := []) C K (mtX1_hasMiddle l D cy o15 a15 l15 t15 x2 _ h) (foN cy o ad oa aa or_ ar op ap s (vp_in_lt b15) hz15) (fun u => (foN' cy o ad oa aa or_ ar op ap s (vp_in_lt b15) hz15 u)) (cwV 1 C.2.2.2.2.1 gX5_die_X1_hasMiddle rfl rfl rfl (by decide +kernel) ⟨Nat.le_of_ble_eq_true rfl, Nat.le_of_ble_eq_true rfl⟩) 0 1 (wX1_g ..) rfl rfl rfl rfl (Nat.le_of_ble_eq_true rfl) rfl rfl ⟨Nat.le_of_ble_eq_true rfl, Nat.le_of_ble_eq_true rfl⟩ dX5_die_29 (fun r29 u29 h => ?_)
    obtain ⟨h, hu29⟩ := h
    refine aw_perm (w1 := (wX5 cy o ad oa aa or_ ar op ap s)) (by show ((wX5 cy o ad oa aa or_ ar op ap (uN s x1.toNatClampNeg (some (o15, a15, l15, u29))))).Perm _; rw [hu29, uN_self hz15] <;> exact List.Perm.refl _) ?_
    refine aw_if_ne (tgt := 38) C dX5_die_32 (by decide) (fun c32 => ?_) (fun c32 => ?_)
    · have h := h.2 c32
      refine aw_aload_n C dX5_die_38 0 rfl ?_
      refine aw_perm (w1 := wX1 cy o15 a15 l15 t15 ++ r5N cy o ad oa aa or_ ar op ap s x1.toNatClampNeg) (foN cy o ad oa aa or_ ar op ap s (vp_in_lt b15) hz15) ?_
      refine aw_getX1 C K inX5_die_1 dX5_die_39 4 (by decide) qX5_die_fieldLink_RX5_148 0 (wX1_ag ..) rfl ?_
      refine aw_perm (w1 := (wX5 cy o ad oa aa or_ ar op ap s)) (foN cy o ad oa aa or_ ar op ap s (vp_in_lt b15) hz15).symm ?_
      refine aw_iload_n C dX5_die_42 3 rfl ?_
      obtain ⟨b43, h⟩ := h
      refine aw_perm (w1 := wX1 cy o15 a15 l15 t15 ++ r5N cy o ad oa aa or_ ar op ap s x1.toNatClampNeg) (foN cy o ad oa aa or_ ar op ap s (vp_in_lt b15) hz15) ?_
      refine aw_zald C K dX5_die_43 1 (wX1_ag4 ..) b43 ?_
      refine aw_perm (w1 := (wX5 cy o ad oa aa or_ ar op ap s)) (foN cy o ad oa aa or_ ar op ap s (vp_in_lt b15) hz15).symm ?_
      refine aw_if_eq (tgt := 50) C dX5_die_44 (by decide) (fun c44 => ?_) (fun c44 => ?_)
      · have h := h.1 c44
        refine aw_aload_n C dX5_die_50 1 rfl ?_
        refine aw_aload_n C dX5_die_51 0 rfl ?_
        refine aw_iload_n C dX5_die_52 3 rfl ?_
        refine aw_callFI (cells2 := 0) (slots2 := 0) (Wx := (fun u53 => (wX5 cy o ad oa aa or_ ar op ap (uN s x1.toNatClampNeg (some (o15, a15, l15, u53)))))) (wr := r5N cy o ad oa aa or_ ar op ap s x1.toNatClampNeg) (As := [.int x2]) (rest := [.ref o]) C K (mtX1_killMiddle l D cy o15 a15 l15 t15 x2 _ h) (foN cy o ad oa aa or_ ar op ap s (vp_in_lt b15) hz15) (fun u => (foN' cy o ad oa aa or_ ar op ap s (vp_in_lt b15) hz15 u)) (cwV 1 C.2.2.2.2.1 gX5_die_X1_killMiddle rfl rfl rfl (by decide +kernel) ⟨Nat.le_of_ble_eq_true rfl, Nat.le_of_ble_eq_true rfl⟩) 0 1 (wX1_g ..) rfl rfl rfl rfl (Nat.le_of_ble_eq_true rfl) rfl rfl ⟨Nat.le_of_ble_eq_true rfl, Nat.le_of_ble_eq_true rfl⟩ dX5_die_53 (fun r53 u53 h => ?_)
        refine aw_perm (w1 := (wX5 cy o ad oa aa or_ ar op ap (uN s x1.toNatClampNeg (some (o15, a15, l15, u53))))) (List.Perm.refl _) ?_
        obtain ⟨s53, es53⟩ : ∃ z, z = (uN s x1.toNatClampNeg (some (o15, a15, l15, u53))) := ⟨_, rfl⟩
        rw [← es53]
        have h := h s53 es53
        have hz15_53 : tN s53 x1.toNatClampNeg = some (o15, a15, l15, u53) := by rw [es53]; exact if_pos rfl
        refine aw_callFI (cells2 := 0) (slots2 := 0) (Wx := wX5 cy o ad oa aa or_ ar op ap) (wr := []) (As := [.int r53]) (rest := []) C K (mtX5_fine l D cy o ad oa aa or_ ar op ap s53 r53 _ h) (permNil _) (fun u => permNil _) (cwV 1 C.2.2.2.2.1 gX5_die_X5_fine rfl rfl rfl (by decide +kernel) ⟨Nat.le_of_ble_eq_true rfl, Nat.le_of_ble_eq_true rfl⟩) 0 5 (g5 ..) rfl rfl rfl rfl (Nat.le_of_ble_eq_true rfl) rfl rfl ⟨Nat.le_of_ble_eq_true rfl, Nat.le_of_ble_eq_true rfl⟩ dX5_die_56 (fun r56 s56 h => ?_)
        refine aw_lv [] rfl ?_
        exact hQ r56 s56 h 59 dX5_die_59
      have h := h.2 c44
      refine aw_ldc (v := (-1000002)) C dX5_die_47 qX5_die_constant_RX5_123_1000002 ?_
      refine aw_lv [] rfl ?_
      exact hQ (-1000002) s h 49 dX5_die_49
    have h := h.1 c32
    refine aw_ldc (v := (-1000001)) C dX5_die_35 qX5_die_constant_RX5_54_1000001 ?_
    refine aw_lv [] rfl ?_
    exact hQ (-1000001) s h 37 dX5_die_37
  have h := h.1 c4
  refine aw_ldc (v := (-1000001)) C dX5_die_7 qX5_die_constant_RX5_54_1000001 ?_
  refine aw_lv [] rfl ?_
  exact hQ (-1000001) s h 9 dX5_die_9
end SX5_die
theorem mtX5_die (l : Launch) (D : va_G) (cy : Nat → ClassId) (o : Nat) (ad : Nat → Nat) (oa : Nat) (aa : Nat → Nat) (or_ : Nat) (ar : Nat → Nat) (op : Nat) (ap : Nat → Nat) (s : TS) (x1 : Int32) (x2 : Int32) (Q : Int32 → TS → Prop) (hw : pX5_die  s x1 x2 Q) : mI l yX5_die wsX5_die rmX5_die D cy [.ref o, .int x1, .int x2] (wX5 cy o ad oa aa or_ ar op ap s) (wX5 cy o ad oa aa or_ ar op ap) Q :=
  metI (Wd := wX5 cy o ad oa aa or_ ar op ap) ⟨rfl, rfl⟩ (by decide) rfl (Nat.le_of_ble_eq_true rfl) (fun C K hQ => eX5_die C K hQ s x1 x2 hw)
def rmX5_mend : Room := { frames := 2, cells := 0, slots := 0, locals := 43 }
theorem inX5_mend_1 : ∀ w ∈ wsX10, w ∈ wsX5_mend := fun w h => (List.mem_cons_of_mem _ (List.mem_append_right _ h))
theorem inX5_mend_5 : ∀ w ∈ wsX50, w ∈ wsX5_mend := fun w h => (List.mem_cons_of_mem _ (List.mem_append_left _ (List.mem_append_right _ h)))
theorem qX5_mend_fieldLink_RX5_17 : Cond.fieldLink RX5 17 "StageSwitch" "shelf" "[LStageSwitch$Net;" ∈ wsX5_mend := (List.mem_cons_of_mem _ (List.mem_append_left _ (List.mem_append_left _ (List.mem_append_left _ (List.mem_of_getElem? (i := 1) rfl)))))
theorem qX5_mend_constant_RX5_54_1000001 : Cond.constant RX5 54 (-1000001) ∈ wsX5_mend := (List.mem_cons_of_mem _ (List.mem_append_left _ (List.mem_append_left _ (List.mem_append_left _ (List.mem_of_getElem? (i := 0) rfl)))))
section SX5_mend
variable {p : Program} {l : Launch} {e : Env} {s0 : State} {m : MethodId} {args : Array Value} {below : List Frame} {meth : Method} {c : Code} {D : va_G} {A : Nat → Prop} {H0 : Heap} {cy : Nat → ClassId} {Z : State → Prop}
theorem eX5_mend (C : ctB p s0 m args c cX5_mend 4 RX5 wsX5_mend) (K : ctK s0 D A H0 cy) {o : Nat} {ad : Nat → Nat} {oa : Nat} {aa : Nat → Nat} {or_ : Nat} {ar : Nat → Nat} {op : Nat} {ap : Nat → Nat} {Q : Int32 → TS → Prop} (hQ : ∀ (v : Int32) (u : TS), Q v u → ∀ pc, decode cX5_mend pc = .ok (.ireturn, 1) → atG p l e rmX5_mend s0 m args below meth c 0 0 Z 4 (iW D A H0 (wX5 cy o ad oa aa or_ ar op ap u)) [] [.int v] pc) (s : TS) (x1 : Int32) (x2 : Int32) (h : pX5_mend  s x1 x2 Q) : atG p l e rmX5_mend s0 m args below meth c 0 0 Z 4 (iW D A H0 (wX5 cy o ad oa aa or_ ar op ap s)) [(0, .ref o), (1, .int x1), (2, .int x2)] [] 0 := by
  delta pX5_mend at h
  refine aw_iload_n C dX5_mend_0 1 rfl ?_
  refine aw_callS (As := [.int x1]) (rest := []) C (mtX5_isPlace l x1 _ h) (va_cwS 1 C.2.2.2.2.1 gX5_mend_X5_isPlace rfl rfl rfl (by decide +kernel) ⟨Nat.le_of_ble_eq_true rfl, Nat.le_of_ble_eq_true rfl⟩) rfl rfl (Nat.le_of_ble_eq_true rfl) ⟨rfl, rfl⟩ ⟨Nat.zero_le _, Nat.zero_le _⟩ dX5_mend_1 (fun r1 h => ?_)
  refine aw_if_ne (tgt := 10) C dX5_mend_4 (by decide) (fun c4 => ?_) (fun c4 => ?_)
  · have h := h.2 c4
    refine aw_aload_n C dX5_mend_10 0 rfl ?_
    refine aw_getX5 C K inX5_mend_5 dX5_mend_11 1 (by decide) qX5_mend_fieldLink_RX5_17 0 (g5 ..) rfl ?_
    refine aw_iload_n C dX5_mend_14 1 rfl ?_
    obtain ⟨b15, h⟩ := h
    rcases hz15 : tN s x1.toNatClampNeg with _ | ⟨o15, a15, l15, t15⟩
    · have h := h.1 hz15
      refine aw_aaldN C K dX5_mend_15 2 5 (g5N ..) rfl b15 (by show Option.map _ _ = _; rw [hz15]; rfl) ?_
      refine aw_astore_nN (lv' := [(3, .null), (0, .ref o), (1, .int x1), (2, .int x2)]) C dX5_mend_16 (by decide) rfl ?_
      refine aw_aload_nN C dX5_mend_17 0 rfl ?_
      refine aw_ifnonnullN C dX5_mend_18 ?_
      refine aw_aload_n C dX5_mend_21 1 rfl ?_
      refine aw_iconst (v := 1) C dX5_mend_22 (by decide) ?_
      refine aw_callFI (cells2 := 0) (slots2 := 0) (Wx := wX5 cy o ad oa aa or_ ar op ap) (wr := []) (As := [.int 1]) (rest := []) C K (mtX5_found l D cy o ad oa aa or_ ar op ap s 1 _ h) (permNil _) (fun u => permNil _) (cwV 1 C.2.2.2.2.1 gX5_mend_X5_found rfl rfl rfl (by decide +kernel) ⟨Nat.le_of_ble_eq_true rfl, Nat.le_of_ble_eq_true rfl⟩) 0 5 (g5 ..) rfl rfl rfl rfl (Nat.le_of_ble_eq_true rfl) rfl rfl ⟨Nat.le_of_ble_eq_true rfl, Nat.le_of_ble_eq_true rfl⟩ dX5_mend_23 (fun r23 s23 h => ?_)
      refine aw_lv [] rfl ?_
      exact hQ r23 s23 h 26 dX5_mend_26
    have h := h.2 o15 a15 l15 t15 hz15
    refine aw_aaldS (r := o15) C K dX5_mend_15 2 5 (g5N ..) rfl b15 (by show Option.map _ _ = _; rw [hz15]; rfl) ?_
    refine aw_astore_n (lv' := [(3, .ref o15), (0, .ref o), (1, .int x1), (2, .int x2)]) C dX5_mend_16 (by decide) rfl ?_
    refine aw_aload_n C dX5_mend_17 0 rfl ?_
    refine aw_ifnonnull (tgt := 27) C dX5_mend_18 (by decide) ?_
    refine aw_aload_n C dX5_mend_27 0 rfl ?_
    refine aw_iload_n C dX5_mend_28 3 rfl ?_
    refine aw_callFI (cells2 := 0) (slots2 := 0) (Wx := (fun u29 => (wX5 cy o ad oa aa or_ ar op ap (uN s x1.toNatClampNeg (some (o15, a15, l15, u29)))))) (wr := r5N cy o ad oa aa or_ ar op ap s x1.toNatClampNeg) (As := [.int x2]) (rest := []) C K (mtX1_hasMiddle l D cy o15 a15 l15 t15 x2 _ h) (foN cy o ad oa aa or_ ar op ap s (vp_in_lt b15) hz15) (fun u => (foN' cy o ad oa aa or_ ar op ap s (vp_in_lt b15) hz15 u)) (cwV 1 C.2.2.2.2.1 gX5_mend_X1_hasMiddle rfl rfl rfl (by decide +kernel) ⟨Nat.le_of_ble_eq_true rfl, Nat.le_of_ble_eq_true rfl⟩) 0 1 (wX1_g ..) rfl rfl rfl rfl (Nat.le_of_ble_eq_true rfl) rfl rfl ⟨Nat.le_of_ble_eq_true rfl, Nat.le_of_ble_eq_true rfl⟩ dX5_mend_29 (fun r29 u29 h => ?_)
    obtain ⟨h, hu29⟩ := h
    refine aw_perm (w1 := (wX5 cy o ad oa aa or_ ar op ap s)) (by show ((wX5 cy o ad oa aa or_ ar op ap (uN s x1.toNatClampNeg (some (o15, a15, l15, u29))))).Perm _; rw [hu29, uN_self hz15] <;> exact List.Perm.refl _) ?_
    refine aw_if_ne (tgt := 38) C dX5_mend_32 (by decide) (fun c32 => ?_) (fun c32 => ?_)
    · have h := h.2 c32
      refine aw_aload_n C dX5_mend_38 1 rfl ?_
      refine aw_aload_n C dX5_mend_39 0 rfl ?_
      refine aw_iload_n C dX5_mend_40 3 rfl ?_
      refine aw_callFI (cells2 := 0) (slots2 := 0) (Wx := (fun u41 => (wX5 cy o ad oa aa or_ ar op ap (uN s x1.toNatClampNeg (some (o15, a15, l15, u41)))))) (wr := r5N cy o ad oa aa or_ ar op ap s x1.toNatClampNeg) (As := [.int x2]) (rest := [.ref o]) C K (mtX1_reviveMiddle l D cy o15 a15 l15 t15 x2 _ h) (foN cy o ad oa aa or_ ar op ap s (vp_in_lt b15) hz15) (fun u => (foN' cy o ad oa aa or_ ar op ap s (vp_in_lt b15) hz15 u)) (cwV 1 C.2.2.2.2.1 gX5_mend_X1_reviveMiddle rfl rfl rfl (by decide +kernel) ⟨Nat.le_of_ble_eq_true rfl, Nat.le_of_ble_eq_true rfl⟩) 0 1 (wX1_g ..) rfl rfl rfl rfl (Nat.le_of_ble_eq_true rfl) rfl rfl ⟨Nat.le_of_ble_eq_true rfl, Nat.le_of_ble_eq_true rfl⟩ dX5_mend_41 (fun r41 u41 h => ?_)
      refine aw_perm (w1 := (wX5 cy o ad oa aa or_ ar op ap (uN s x1.toNatClampNeg (some (o15, a15, l15, u41))))) (List.Perm.refl _) ?_
      obtain ⟨s41, es41⟩ : ∃ z, z = (uN s x1.toNatClampNeg (some (o15, a15, l15, u41))) := ⟨_, rfl⟩
      rw [← es41]
      have h := h s41 es41
      have hz15_41 : tN s41 x1.toNatClampNeg = some (o15, a15, l15, u41) := by rw [es41]; exact if_pos rfl
      refine aw_if_eq (tgt := 51) C dX5_mend_44 (by decide) (fun c44 => ?_) (fun c44 => ?_)
      · have h := h.1 c44
        refine aw_iconst (v := 0) C dX5_mend_51 (by decide) ?_
        refine aw_callFI (cells2 := 0) (slots2 := 0) (Wx := wX5 cy o ad oa aa or_ ar op ap) (wr := []) (As := [.int 0]) (rest := []) C K (mtX5_fine l D cy o ad oa aa or_ ar op ap s41 0 _ h) (permNil _) (fun u => permNil _) (cwV 1 C.2.2.2.2.1 gX5_mend_X5_fine rfl rfl rfl (by decide +kernel) ⟨Nat.le_of_ble_eq_true rfl, Nat.le_of_ble_eq_true rfl⟩) 0 5 (g5 ..) rfl rfl rfl rfl (Nat.le_of_ble_eq_true rfl) rfl rfl ⟨Nat.le_of_ble_eq_true rfl, Nat.le_of_ble_eq_true rfl⟩ dX5_mend_52 (fun r52 s52 h => ?_)
        refine aw_lv [] rfl ?_
        exact hQ r52 s52 h 55 dX5_mend_55
      have h := h.2 c44
      refine aw_iconst (v := 1) C dX5_mend_47 (by decide) ?_
      refine aw_goto (tgt := 52) C dX5_mend_48 (by decide) ?_
      refine aw_callFI (cells2 := 0) (slots2 := 0) (Wx := wX5 cy o ad oa aa or_ ar op ap) (wr := []) (As := [.int 1]) (rest := []) C K (mtX5_fine l D cy o ad oa aa or_ ar op ap s41 1 _ h) (permNil _) (fun u => permNil _) (cwV 1 C.2.2.2.2.1 gX5_mend_X5_fine rfl rfl rfl (by decide +kernel) ⟨Nat.le_of_ble_eq_true rfl, Nat.le_of_ble_eq_true rfl⟩) 0 5 (g5 ..) rfl rfl rfl rfl (Nat.le_of_ble_eq_true rfl) rfl rfl ⟨Nat.le_of_ble_eq_true rfl, Nat.le_of_ble_eq_true rfl⟩ dX5_mend_52 (fun r52 s52 h => ?_)
      refine aw_lv [] rfl ?_
      exact hQ r52 s52 h 55 dX5_mend_55
    have h := h.1 c32
    refine aw_ldc (v := (-1000001)) C dX5_mend_35 qX5_mend_constant_RX5_54_1000001 ?_
    refine aw_lv [] rfl ?_
    exact hQ (-1000001) s h 37 dX5_mend_37
  have h := h.1 c4
  refine aw_ldc (v := (-1000001)) C dX5_mend_7 qX5_mend_constant_RX5_54_1000001 ?_
  refine aw_lv [] rfl ?_
  exact hQ (-1000001) s h 9 dX5_mend_9
end SX5_mend
theorem mtX5_mend (l : Launch) (D : va_G) (cy : Nat → ClassId) (o : Nat) (ad : Nat → Nat) (oa : Nat) (aa : Nat → Nat) (or_ : Nat) (ar : Nat → Nat) (op : Nat) (ap : Nat → Nat) (s : TS) (x1 : Int32) (x2 : Int32) (Q : Int32 → TS → Prop) (hw : pX5_mend  s x1 x2 Q) : mI l yX5_mend wsX5_mend rmX5_mend D cy [.ref o, .int x1, .int x2] (wX5 cy o ad oa aa or_ ar op ap s) (wX5 cy o ad oa aa or_ ar op ap) Q :=
  metI (Wd := wX5 cy o ad oa aa or_ ar op ap) ⟨rfl, rfl⟩ (by decide) rfl (Nat.le_of_ble_eq_true rfl) (fun C K hQ => eX5_mend C K hQ s x1 x2 hw)
def rmX5_bit : Room := { frames := 3, cells := 0, slots := 0, locals := 73 }
theorem inX5_bit_3 : ∀ w ∈ wsX30, w ∈ wsX5_bit := fun w h => (List.mem_cons_of_mem _ (List.mem_append_left _ (List.mem_append_right _ h)))
theorem inX5_bit_4 : ∀ w ∈ wsX40, w ∈ wsX5_bit := fun w h => (List.mem_cons_of_mem _ (List.mem_append_right _ h))
theorem inX5_bit_5 : ∀ w ∈ wsX50, w ∈ wsX5_bit := fun w h => (List.mem_cons_of_mem _ (List.mem_append_left _ (List.mem_append_left _ (List.mem_append_right _ h))))
theorem qX5_bit_constant_RX5_54_1000001 : Cond.constant RX5 54 (-1000001) ∈ wsX5_bit := (List.mem_cons_of_mem _ (List.mem_append_left _ (List.mem_append_left _ (List.mem_append_left _ (List.mem_append_left _ (List.mem_of_getElem? (i := 0) rfl))))))
theorem qX5_bit_fieldLink_RX5_11 : Cond.fieldLink RX5 11 "StageSwitch" "sheets" "[LStageSwitch$Sheet;" ∈ wsX5_bit := (List.mem_cons_of_mem _ (List.mem_append_left _ (List.mem_append_left _ (List.mem_append_left _ (List.mem_append_left _ (List.mem_of_getElem? (i := 1) rfl))))))
theorem qX5_bit_fieldLink_RX5_31 : Cond.fieldLink RX5 31 "StageSwitch" "rounds" "LStageSwitch$Rounds;" ∈ wsX5_bit := (List.mem_cons_of_mem _ (List.mem_append_left _ (List.mem_append_left _ (List.mem_append_left _ (List.mem_append_left _ (List.mem_of_getElem? (i := 2) rfl))))))
theorem qX5_bit_fieldLink_RX5_165 : Cond.fieldLink RX5 165 "StageSwitch$Rounds" "bits" "[[I" ∈ wsX5_bit := (List.mem_cons_of_mem _ (List.mem_append_left _ (List.mem_append_left _ (List.mem_append_left _ (List.mem_append_left _ (List.mem_of_getElem? (i := 3) rfl))))))
section SX5_bit
variable {p : Program} {l : Launch} {e : Env} {s0 : State} {m : MethodId} {args : Array Value} {below : List Frame} {meth : Method} {c : Code} {D : va_G} {A : Nat → Prop} {H0 : Heap} {cy : Nat → ClassId} {Z : State → Prop}
theorem eX5_bit (C : ctB p s0 m args c cX5_bit 7 RX5 wsX5_bit) (K : ctK s0 D A H0 cy) {o : Nat} {ad : Nat → Nat} {oa : Nat} {aa : Nat → Nat} {or_ : Nat} {ar : Nat → Nat} {op : Nat} {ap : Nat → Nat} {Q : Int32 → TS → Prop} (hQ : ∀ (v : Int32) (u : TS), Q v u → ∀ pc, decode cX5_bit pc = .ok (.ireturn, 1) → atG p l e rmX5_bit s0 m args below meth c 0 0 Z 7 (iW D A H0 (wX5 cy o ad oa aa or_ ar op ap u)) [] [.int v] pc) (s : TS) (x1 : Int32) (x2 : Int32) (x3 : Int32) (x4 : Int32) (x5 : Int32) (h : pX5_bit  s x1 x2 x3 x4 x5 Q) : atG p l e rmX5_bit s0 m args below meth c 0 0 Z 7 (iW D A H0 (wX5 cy o ad oa aa or_ ar op ap s)) [(0, .ref o), (1, .int x1), (2, .int x2), (3, .int x3), (4, .int x4), (5, .int x5)] [] 0 := by
  delta pX5_bit at h
  refine aw_iload_n C dX5_bit_0 2 rfl ?_
  refine aw_callS (As := [.int x2]) (rest := []) C (mtX5_isSheet l x2 _ h) (va_cwS 1 C.2.2.2.2.1 gX5_bit_X5_isSheet rfl rfl rfl (by decide +kernel) ⟨Nat.le_of_ble_eq_true rfl, Nat.le_of_ble_eq_true rfl⟩) rfl rfl (Nat.le_of_ble_eq_true rfl) ⟨rfl, rfl⟩ ⟨Nat.zero_le _, Nat.zero_le _⟩ dX5_bit_1 (fun r1 h => ?_)
  refine aw_if_eq (tgt := 46) C dX5_bit_4 (by decide) (fun c4 => ?_) (fun c4 => ?_)
  · have h := h.1 c4
    refine aw_ldc (v := (-1000001)) C dX5_bit_46 qX5_bit_constant_RX5_54_1000001 ?_
    refine aw_lv [] rfl ?_
    exact hQ (-1000001) s h 48 dX5_bit_48
  have h := h.2 c4
  refine aw_iload_n C dX5_bit_7 1 rfl ?_
  refine aw_iconst (v := 1) C dX5_bit_8 (by decide) ?_
  refine aw_iconst (v := 4) C dX5_bit_9 (by decide) ?_
  refine aw_callS (As := [.int x1, .int 1, .int 4]) (rest := []) C (mtX5_within l x1 1 4 _ h) (va_cwS 3 C.2.2.2.2.1 gX5_bit_X5_within rfl rfl rfl (by decide +kernel) ⟨Nat.le_of_ble_eq_true rfl, Nat.le_of_ble_eq_true rfl⟩) rfl rfl (Nat.le_of_ble_eq_true rfl) ⟨rfl, rfl⟩ ⟨Nat.zero_le _, Nat.zero_le _⟩ dX5_bit_10 (fun r10 h => ?_)
  refine aw_if_eq (tgt := 46) C dX5_bit_13 (by decide) (fun c13 => ?_) (fun c13 => ?_)
  · have h := h.1 c13
    refine aw_ldc (v := (-1000001)) C dX5_bit_46 qX5_bit_constant_RX5_54_1000001 ?_
    refine aw_lv [] rfl ?_
    exact hQ (-1000001) s h 48 dX5_bit_48
  have h := h.2 c13
  refine aw_iload C dX5_bit_16 4 rfl ?_
  refine aw_iconst (v := 0) C dX5_bit_18 (by decide) ?_
  refine aw_iconst (v := 2) C dX5_bit_19 (by decide) ?_
  refine aw_iload_n C dX5_bit_20 1 rfl ?_
  refine aw_imul C dX5_bit_21 ?_
  refine aw_iconst (v := 2) C dX5_bit_22 (by decide) ?_
  refine aw_isub C dX5_bit_23 ?_
  refine aw_callS (As := [.int x4, .int 0, .int ((2 * x1) - 2)]) (rest := []) C (mtX5_within l x4 0 ((2 * x1) - 2) _ h) (va_cwS 3 C.2.2.2.2.1 gX5_bit_X5_within rfl rfl rfl (by decide +kernel) ⟨Nat.le_of_ble_eq_true rfl, Nat.le_of_ble_eq_true rfl⟩) rfl rfl (Nat.le_of_ble_eq_true rfl) ⟨rfl, rfl⟩ ⟨Nat.zero_le _, Nat.zero_le _⟩ dX5_bit_24 (fun r24 h => ?_)
  refine aw_if_eq (tgt := 46) C dX5_bit_27 (by decide) (fun c27 => ?_) (fun c27 => ?_)
  · have h := h.1 c27
    refine aw_ldc (v := (-1000001)) C dX5_bit_46 qX5_bit_constant_RX5_54_1000001 ?_
    refine aw_lv [] rfl ?_
    exact hQ (-1000001) s h 48 dX5_bit_48
  have h := h.2 c27
  refine aw_iload C dX5_bit_30 5 rfl ?_
  refine aw_iconst (v := 0) C dX5_bit_32 (by decide) ?_
  refine aw_iconst (v := 1) C dX5_bit_33 (by decide) ?_
  refine aw_iload_n C dX5_bit_34 1 rfl ?_
  refine aw_iconst (v := 1) C dX5_bit_35 (by decide) ?_
  refine aw_isub C dX5_bit_36 ?_
  refine aw_ishl C dX5_bit_37 ?_
  refine aw_iconst (v := 1) C dX5_bit_38 (by decide) ?_
  refine aw_isub C dX5_bit_39 ?_
  refine aw_callS (As := [.int x5, .int 0, .int ((1 <<< ((x1 - 1) &&& 31)) - 1)]) (rest := []) C (mtX5_within l x5 0 ((1 <<< ((x1 - 1) &&& 31)) - 1) _ h) (va_cwS 3 C.2.2.2.2.1 gX5_bit_X5_within rfl rfl rfl (by decide +kernel) ⟨Nat.le_of_ble_eq_true rfl, Nat.le_of_ble_eq_true rfl⟩) rfl rfl (Nat.le_of_ble_eq_true rfl) ⟨rfl, rfl⟩ ⟨Nat.zero_le _, Nat.zero_le _⟩ dX5_bit_40 (fun r40 h => ?_)
  refine aw_if_ne (tgt := 49) C dX5_bit_43 (by decide) (fun c43 => ?_) (fun c43 => ?_)
  · have h := h.2 c43
    refine aw_aload_n C dX5_bit_49 0 rfl ?_
    refine aw_getX5 C K inX5_bit_5 dX5_bit_50 0 (by decide) qX5_bit_fieldLink_RX5_11 0 (g5 ..) rfl ?_
    refine aw_iload_n C dX5_bit_53 2 rfl ?_
    obtain ⟨b54, h⟩ := h
    rcases hz54 : tS s x2.toNatClampNeg with _ | ⟨o54, a54, l54, t54⟩
    · have h := h.1 hz54
      refine aw_aaldN C K dX5_bit_54 1 4 (g5S ..) rfl b54 (by show Option.map _ _ = _; rw [hz54]; rfl) ?_
      refine aw_astoreN (lv' := [(6, .null), (0, .ref o), (1, .int x1), (2, .int x2), (3, .int x3), (4, .int x4), (5, .int x5)]) C dX5_bit_55 (by decide) rfl ?_
      refine aw_aloadN C dX5_bit_57 0 rfl ?_
      refine aw_ifnonnullN C dX5_bit_59 ?_
      refine aw_aload_n C dX5_bit_62 1 rfl ?_
      refine aw_iconst (v := 1) C dX5_bit_63 (by decide) ?_
      refine aw_callFI (cells2 := 0) (slots2 := 0) (Wx := wX5 cy o ad oa aa or_ ar op ap) (wr := []) (As := [.int 1]) (rest := []) C K (mtX5_found l D cy o ad oa aa or_ ar op ap s 1 _ h) (permNil _) (fun u => permNil _) (cwV 1 C.2.2.2.2.1 gX5_bit_X5_found rfl rfl rfl (by decide +kernel) ⟨Nat.le_of_ble_eq_true rfl, Nat.le_of_ble_eq_true rfl⟩) 0 5 (g5 ..) rfl rfl rfl rfl (Nat.le_of_ble_eq_true rfl) rfl rfl ⟨Nat.le_of_ble_eq_true rfl, Nat.le_of_ble_eq_true rfl⟩ dX5_bit_64 (fun r64 s64 h => ?_)
      refine aw_lv [] rfl ?_
      exact hQ r64 s64 h 67 dX5_bit_67
    have h := h.2 o54 a54 l54 t54 hz54
    refine aw_aaldS (r := o54) C K dX5_bit_54 1 4 (g5S ..) rfl b54 (by show Option.map _ _ = _; rw [hz54]; rfl) ?_
    refine aw_astore (lv' := [(6, .ref o54), (0, .ref o), (1, .int x1), (2, .int x2), (3, .int x3), (4, .int x4), (5, .int x5)]) C dX5_bit_55 (by decide) rfl ?_
    refine aw_aload C dX5_bit_57 0 rfl ?_
    refine aw_ifnonnull (tgt := 68) C dX5_bit_59 (by decide) ?_
    refine aw_aload C dX5_bit_68 0 rfl ?_
    refine aw_iload_n C dX5_bit_70 4 rfl ?_
    refine aw_iconst (v := 1) C dX5_bit_71 (by decide) ?_
    refine aw_iload_n C dX5_bit_72 2 rfl ?_
    refine aw_ishl C dX5_bit_73 ?_
    refine aw_callFI (cells2 := 0) (slots2 := 0) (Wx := (fun u74 => (wX5 cy o ad oa aa or_ ar op ap (uS s x2.toNatClampNeg (some (o54, a54, l54, u74)))))) (wr := r5S cy o ad oa aa or_ ar op ap s x2.toNatClampNeg) (As := [.int x3, .int (1 <<< (x1 &&& 31))]) (rest := []) C K (mtX4_holds l D cy o54 a54 l54 t54 x3 (1 <<< (x1 &&& 31)) _ h) (foS cy o ad oa aa or_ ar op ap s (vp_in_lt b54) hz54) (fun u => (foS' cy o ad oa aa or_ ar op ap s (vp_in_lt b54) hz54 u)) (cwV 2 C.2.2.2.2.1 gX5_bit_X4_holds rfl rfl rfl (by decide +kernel) ⟨Nat.le_of_ble_eq_true rfl, Nat.le_of_ble_eq_true rfl⟩) 0 4 (wX4_g ..) rfl rfl rfl rfl (Nat.le_of_ble_eq_true rfl) rfl rfl ⟨Nat.le_of_ble_eq_true rfl, Nat.le_of_ble_eq_true rfl⟩ dX5_bit_74 (fun r74 u74 h => ?_)
    obtain ⟨h, hu74⟩ := h
    refine aw_perm (w1 := (wX5 cy o ad oa aa or_ ar op ap s)) (by show ((wX5 cy o ad oa aa or_ ar op ap (uS s x2.toNatClampNeg (some (o54, a54, l54, u74))))).Perm _; rw [hu74, uS_self hz54] <;> exact List.Perm.refl _) ?_
    refine aw_if_ne (tgt := 86) C dX5_bit_77 (by decide) (fun c77 => ?_) (fun c77 => ?_)
    · have h := h.2 c77
      refine aw_aload_n C dX5_bit_86 1 rfl ?_
      refine aw_getX5 C K inX5_bit_5 dX5_bit_87 3 (by decide) qX5_bit_fieldLink_RX5_31 0 (g5 ..) rfl ?_
      refine aw_aload C dX5_bit_90 0 rfl ?_
      refine aw_iload_n C dX5_bit_92 4 rfl ?_
      refine aw_iload_n C dX5_bit_93 2 rfl ?_
      refine aw_callFI (cells2 := 0) (slots2 := 0) (Wx := (fun u94 => (wX5 cy o ad oa aa or_ ar op ap (uR (uS s x2.toNatClampNeg (some (o54, a54, l54, u94.2))) u94.1)))) (wr := r5RS cy o ad oa aa or_ op ap s x2.toNatClampNeg) (As := [.ref o54, .int x3, .int x1]) (rest := []) C K (mtX3_takeOrder l D cy or_ ar o54 a54 l54 (tR s, t54) x3 x1 _ h) (foRS cy o ad oa aa or_ ar op ap s (vp_in_lt b54) hz54) (fun u => foRS' cy o ad oa aa or_ ar op ap s (vp_in_lt b54) hz54 u) (cwV 3 C.2.2.2.2.1 gX5_bit_X3_takeOrder rfl rfl rfl (by decide +kernel) ⟨Nat.le_of_ble_eq_true rfl, Nat.le_of_ble_eq_true rfl⟩) 0 3 (wX34_0g ..) rfl rfl rfl rfl (Nat.le_of_ble_eq_true rfl) rfl rfl ⟨Nat.le_of_ble_eq_true rfl, Nat.le_of_ble_eq_true rfl⟩ dX5_bit_94 (fun r94 u94 h => ?_)
      refine aw_perm (w1 := (wX5 cy o ad oa aa or_ ar op ap (uR (uS s x2.toNatClampNeg (some (o54, a54, l54, u94.2))) u94.1))) (List.Perm.refl _) ?_
      obtain ⟨s94, es94⟩ : ∃ z, z = (uR (uS s x2.toNatClampNeg (some (o54, a54, l54, u94.2))) u94.1) := ⟨_, rfl⟩
      rw [← es94]
      have h := h s94 es94
      have hz54_94 : tS s94 x2.toNatClampNeg = some (o54, a54, l54, u94.2) := by rw [es94]; exact if_pos rfl
      refine aw_if_ne (tgt := 103) C dX5_bit_97 (by decide) (fun c97 => ?_) (fun c97 => ?_)
      · have h := h.2 c97
        refine aw_aload_n C dX5_bit_103 1 rfl ?_
        refine aw_getX5 C K inX5_bit_5 dX5_bit_104 3 (by decide) qX5_bit_fieldLink_RX5_31 0 (g5 ..) rfl ?_
        refine aw_iload_n C dX5_bit_107 2 rfl ?_
        refine aw_callFV (cells2 := 0) (slots2 := 0) (Wx := (fun u108 => (wX5 cy o ad oa aa or_ ar op ap (uR s94 u108)))) (wr := r5R cy o ad oa aa or_ op ap s94) (As := [.int x1]) (rest := []) C K (mtX3_setAllSwitches l D cy or_ ar (tR s94) x1 _ h) (foR cy o ad oa aa or_ ar op ap s94) (fun u => (foR' cy o ad oa aa or_ ar op ap s94 u)) (cwV 1 C.2.2.2.2.1 gX5_bit_X3_setAllSwitches rfl rfl rfl (by decide +kernel) ⟨Nat.le_of_ble_eq_true rfl, Nat.le_of_ble_eq_true rfl⟩) 0 3 (wX3_g ..) rfl rfl rfl rfl (Nat.le_of_ble_eq_true rfl) rfl rfl ⟨Nat.le_of_ble_eq_true rfl, Nat.le_of_ble_eq_true rfl⟩ dX5_bit_108 (fun u108 h => ?_)
        refine aw_perm (w1 := (wX5 cy o ad oa aa or_ ar op ap (uR s94 u108))) (List.Perm.refl _) ?_
        obtain ⟨s108, es108⟩ : ∃ z, z = (uR s94 u108) := ⟨_, rfl⟩
        rw [← es108]
        have h := h s108 es108
        have hz54_108 : tS s108 x2.toNatClampNeg = some (o54, a54, l54, u94.2) := by rw [es108]; exact hz54_94
        refine aw_aload_n C dX5_bit_111 1 rfl ?_
        refine aw_aload_n C dX5_bit_112 1 rfl ?_
        refine aw_getX5 C K inX5_bit_5 dX5_bit_113 3 (by decide) qX5_bit_fieldLink_RX5_31 0 (g5 ..) rfl ?_
        refine aw_perm (w1 := wX3 cy or_ ar (tR s108) ++ r5R cy o ad oa aa or_ op ap s108) (foR cy o ad oa aa or_ ar op ap s108) ?_
        refine aw_getX3 C K inX5_bit_3 dX5_bit_116 0 (by decide) qX5_bit_fieldLink_RX5_165 0 (wX3_ag ..) rfl ?_
        refine aw_perm (w1 := (wX5 cy o ad oa aa or_ ar op ap s108)) (foR cy o ad oa aa or_ ar op ap s108).symm ?_
        refine aw_iload C dX5_bit_119 5 rfl ?_
        obtain ⟨b121, h⟩ := h
        refine aw_perm (w1 := wX3 cy or_ ar (tR s108) ++ r5R cy o ad oa aa or_ op ap s108) (foR cy o ad oa aa or_ ar op ap s108) ?_
        refine aw_aald C K dX5_bit_121 1 (wX3_ag0 ..) b121 (if_pos (vp_in_lt b121)) ?_
        refine aw_perm (w1 := (wX5 cy o ad oa aa or_ ar op ap s108)) (foR cy o ad oa aa or_ ar op ap s108).symm ?_
        refine aw_iload C dX5_bit_122 6 rfl ?_
        obtain ⟨b124, h⟩ := h
        refine aw_perm (w1 := wX3 cy or_ ar (tR s108) ++ r5R cy o ad oa aa or_ op ap s108) (foR cy o ad oa aa or_ ar op ap s108) ?_
        refine aw_iald C K dX5_bit_124 (5 + x4.toNatClampNeg) (wX3_ar0 (hn := (vp_in_lt b121)) ..) b124 ?_
        refine aw_perm (w1 := (wX5 cy o ad oa aa or_ ar op ap s108)) (foR cy o ad oa aa or_ ar op ap s108).symm ?_
        refine aw_callFI (cells2 := 0) (slots2 := 0) (Wx := wX5 cy o ad oa aa or_ ar op ap) (wr := []) (As := [.int (sA (tR s108) (10 + x4.toNatClampNeg) x5.toNatClampNeg)]) (rest := []) C K (mtX5_fine l D cy o ad oa aa or_ ar op ap s108 (sA (tR s108) (10 + x4.toNatClampNeg) x5.toNatClampNeg) _ h) (permNil _) (fun u => permNil _) (cwV 1 C.2.2.2.2.1 gX5_bit_X5_fine rfl rfl rfl (by decide +kernel) ⟨Nat.le_of_ble_eq_true rfl, Nat.le_of_ble_eq_true rfl⟩) 0 5 (g5 ..) rfl rfl rfl rfl (Nat.le_of_ble_eq_true rfl) rfl rfl ⟨Nat.le_of_ble_eq_true rfl, Nat.le_of_ble_eq_true rfl⟩ dX5_bit_125 (fun r125 s125 h => ?_)
        refine aw_lv [] rfl ?_
        exact hQ r125 s125 h 128 dX5_bit_128
      have h := h.1 c97
      refine aw_ldc (v := (-1000001)) C dX5_bit_100 qX5_bit_constant_RX5_54_1000001 ?_
      refine aw_lv [] rfl ?_
      exact hQ (-1000001) s94 h 102 dX5_bit_102
    have h := h.1 c77
    refine aw_aload_n C dX5_bit_80 1 rfl ?_
    refine aw_iconst (v := 2) C dX5_bit_81 (by decide) ?_
    refine aw_callFI (cells2 := 0) (slots2 := 0) (Wx := wX5 cy o ad oa aa or_ ar op ap) (wr := []) (As := [.int 2]) (rest := []) C K (mtX5_found l D cy o ad oa aa or_ ar op ap s 2 _ h) (permNil _) (fun u => permNil _) (cwV 1 C.2.2.2.2.1 gX5_bit_X5_found rfl rfl rfl (by decide +kernel) ⟨Nat.le_of_ble_eq_true rfl, Nat.le_of_ble_eq_true rfl⟩) 0 5 (g5 ..) rfl rfl rfl rfl (Nat.le_of_ble_eq_true rfl) rfl rfl ⟨Nat.le_of_ble_eq_true rfl, Nat.le_of_ble_eq_true rfl⟩ dX5_bit_82 (fun r82 s82 h => ?_)
    refine aw_lv [] rfl ?_
    exact hQ r82 s82 h 85 dX5_bit_85
  have h := h.1 c43
  refine aw_ldc (v := (-1000001)) C dX5_bit_46 qX5_bit_constant_RX5_54_1000001 ?_
  refine aw_lv [] rfl ?_
  exact hQ (-1000001) s h 48 dX5_bit_48
end SX5_bit
theorem mtX5_bit (l : Launch) (D : va_G) (cy : Nat → ClassId) (o : Nat) (ad : Nat → Nat) (oa : Nat) (aa : Nat → Nat) (or_ : Nat) (ar : Nat → Nat) (op : Nat) (ap : Nat → Nat) (s : TS) (x1 : Int32) (x2 : Int32) (x3 : Int32) (x4 : Int32) (x5 : Int32) (Q : Int32 → TS → Prop) (hw : pX5_bit  s x1 x2 x3 x4 x5 Q) : mI l yX5_bit wsX5_bit rmX5_bit D cy [.ref o, .int x1, .int x2, .int x3, .int x4, .int x5] (wX5 cy o ad oa aa or_ ar op ap s) (wX5 cy o ad oa aa or_ ar op ap) Q :=
  metI (Wd := wX5 cy o ad oa aa or_ ar op ap) ⟨rfl, rfl⟩ (by decide) rfl (Nat.le_of_ble_eq_true rfl) (fun C K hQ => eX5_bit C K hQ s x1 x2 x3 x4 x5 hw)
def rmX5_goes : Room := { frames := 2, cells := 0, slots := 0, locals := 42 }
theorem inX5_goes_3 : ∀ w ∈ wsX30, w ∈ wsX5_goes := fun w h => (List.mem_cons_of_mem _ (List.mem_append_right _ h))
theorem inX5_goes_4 : ∀ w ∈ wsX40, w ∈ wsX5_goes := fun w h => (List.mem_cons_of_mem _ (List.mem_append_left _ (List.mem_append_right _ h)))
theorem inX5_goes_5 : ∀ w ∈ wsX50, w ∈ wsX5_goes := fun w h => (List.mem_cons_of_mem _ (List.mem_append_left _ (List.mem_append_left _ (List.mem_append_right _ h))))
theorem qX5_goes_constant_RX5_54_1000001 : Cond.constant RX5 54 (-1000001) ∈ wsX5_goes := (List.mem_cons_of_mem _ (List.mem_append_left _ (List.mem_append_left _ (List.mem_append_left _ (List.mem_append_left _ (List.mem_of_getElem? (i := 0) rfl))))))
theorem qX5_goes_fieldLink_RX5_11 : Cond.fieldLink RX5 11 "StageSwitch" "sheets" "[LStageSwitch$Sheet;" ∈ wsX5_goes := (List.mem_cons_of_mem _ (List.mem_append_left _ (List.mem_append_left _ (List.mem_append_left _ (List.mem_append_left _ (List.mem_of_getElem? (i := 1) rfl))))))
theorem qX5_goes_fieldLink_RX5_31 : Cond.fieldLink RX5 31 "StageSwitch" "rounds" "LStageSwitch$Rounds;" ∈ wsX5_goes := (List.mem_cons_of_mem _ (List.mem_append_left _ (List.mem_append_left _ (List.mem_append_left _ (List.mem_append_left _ (List.mem_of_getElem? (i := 2) rfl))))))
section SX5_goes
variable {p : Program} {l : Launch} {e : Env} {s0 : State} {m : MethodId} {args : Array Value} {below : List Frame} {meth : Method} {c : Code} {D : va_G} {A : Nat → Prop} {H0 : Heap} {cy : Nat → ClassId} {Z : State → Prop}
theorem eX5_goes (C : ctB p s0 m args c cX5_goes 6 RX5 wsX5_goes) (K : ctK s0 D A H0 cy) {o : Nat} {ad : Nat → Nat} {oa : Nat} {aa : Nat → Nat} {or_ : Nat} {ar : Nat → Nat} {op : Nat} {ap : Nat → Nat} {Q : Int32 → TS → Prop} (hQ : ∀ (v : Int32) (u : TS), Q v u → ∀ pc, decode cX5_goes pc = .ok (.ireturn, 1) → atG p l e rmX5_goes s0 m args below meth c 0 0 Z 6 (iW D A H0 (wX5 cy o ad oa aa or_ ar op ap u)) [] [.int v] pc) (s : TS) (x1 : Int32) (x2 : Int32) (x3 : Int32) (x4 : Int32) (h : pX5_goes  s x1 x2 x3 x4 Q) : atG p l e rmX5_goes s0 m args below meth c 0 0 Z 6 (iW D A H0 (wX5 cy o ad oa aa or_ ar op ap s)) [(0, .ref o), (1, .int x1), (2, .int x2), (3, .int x3), (4, .int x4)] [] 0 := by
  delta pX5_goes at h
  refine aw_iload_n C dX5_goes_0 2 rfl ?_
  refine aw_callS (As := [.int x2]) (rest := []) C (mtX5_isSheet l x2 _ h) (va_cwS 1 C.2.2.2.2.1 gX5_goes_X5_isSheet rfl rfl rfl (by decide +kernel) ⟨Nat.le_of_ble_eq_true rfl, Nat.le_of_ble_eq_true rfl⟩) rfl rfl (Nat.le_of_ble_eq_true rfl) ⟨rfl, rfl⟩ ⟨Nat.zero_le _, Nat.zero_le _⟩ dX5_goes_1 (fun r1 h => ?_)
  refine aw_if_eq (tgt := 30) C dX5_goes_4 (by decide) (fun c4 => ?_) (fun c4 => ?_)
  · have h := h.1 c4
    refine aw_ldc (v := (-1000001)) C dX5_goes_30 qX5_goes_constant_RX5_54_1000001 ?_
    refine aw_lv [] rfl ?_
    exact hQ (-1000001) s h 32 dX5_goes_32
  have h := h.2 c4
  refine aw_iload_n C dX5_goes_7 1 rfl ?_
  refine aw_iconst (v := 1) C dX5_goes_8 (by decide) ?_
  refine aw_iconst (v := 4) C dX5_goes_9 (by decide) ?_
  refine aw_callS (As := [.int x1, .int 1, .int 4]) (rest := []) C (mtX5_within l x1 1 4 _ h) (va_cwS 3 C.2.2.2.2.1 gX5_goes_X5_within rfl rfl rfl (by decide +kernel) ⟨Nat.le_of_ble_eq_true rfl, Nat.le_of_ble_eq_true rfl⟩) rfl rfl (Nat.le_of_ble_eq_true rfl) ⟨rfl, rfl⟩ ⟨Nat.zero_le _, Nat.zero_le _⟩ dX5_goes_10 (fun r10 h => ?_)
  refine aw_if_eq (tgt := 30) C dX5_goes_13 (by decide) (fun c13 => ?_) (fun c13 => ?_)
  · have h := h.1 c13
    refine aw_ldc (v := (-1000001)) C dX5_goes_30 qX5_goes_constant_RX5_54_1000001 ?_
    refine aw_lv [] rfl ?_
    exact hQ (-1000001) s h 32 dX5_goes_32
  have h := h.2 c13
  refine aw_iload C dX5_goes_16 4 rfl ?_
  refine aw_iconst (v := 0) C dX5_goes_18 (by decide) ?_
  refine aw_iconst (v := 1) C dX5_goes_19 (by decide) ?_
  refine aw_iload_n C dX5_goes_20 1 rfl ?_
  refine aw_ishl C dX5_goes_21 ?_
  refine aw_iconst (v := 1) C dX5_goes_22 (by decide) ?_
  refine aw_isub C dX5_goes_23 ?_
  refine aw_callS (As := [.int x4, .int 0, .int ((1 <<< (x1 &&& 31)) - 1)]) (rest := []) C (mtX5_within l x4 0 ((1 <<< (x1 &&& 31)) - 1) _ h) (va_cwS 3 C.2.2.2.2.1 gX5_goes_X5_within rfl rfl rfl (by decide +kernel) ⟨Nat.le_of_ble_eq_true rfl, Nat.le_of_ble_eq_true rfl⟩) rfl rfl (Nat.le_of_ble_eq_true rfl) ⟨rfl, rfl⟩ ⟨Nat.zero_le _, Nat.zero_le _⟩ dX5_goes_24 (fun r24 h => ?_)
  refine aw_if_ne (tgt := 33) C dX5_goes_27 (by decide) (fun c27 => ?_) (fun c27 => ?_)
  · have h := h.2 c27
    refine aw_aload_n C dX5_goes_33 0 rfl ?_
    refine aw_getX5 C K inX5_goes_5 dX5_goes_34 0 (by decide) qX5_goes_fieldLink_RX5_11 0 (g5 ..) rfl ?_
    refine aw_iload_n C dX5_goes_37 2 rfl ?_
    obtain ⟨b38, h⟩ := h
    rcases hz38 : tS s x2.toNatClampNeg with _ | ⟨o38, a38, l38, t38⟩
    · have h := h.1 hz38
      refine aw_aaldN C K dX5_goes_38 1 4 (g5S ..) rfl b38 (by show Option.map _ _ = _; rw [hz38]; rfl) ?_
      refine aw_astoreN (lv' := [(5, .null), (0, .ref o), (1, .int x1), (2, .int x2), (3, .int x3), (4, .int x4)]) C dX5_goes_39 (by decide) rfl ?_
      refine aw_aloadN C dX5_goes_41 0 rfl ?_
      refine aw_ifnonnullN C dX5_goes_43 ?_
      refine aw_aload_n C dX5_goes_46 1 rfl ?_
      refine aw_iconst (v := 1) C dX5_goes_47 (by decide) ?_
      refine aw_callFI (cells2 := 0) (slots2 := 0) (Wx := wX5 cy o ad oa aa or_ ar op ap) (wr := []) (As := [.int 1]) (rest := []) C K (mtX5_found l D cy o ad oa aa or_ ar op ap s 1 _ h) (permNil _) (fun u => permNil _) (cwV 1 C.2.2.2.2.1 gX5_goes_X5_found rfl rfl rfl (by decide +kernel) ⟨Nat.le_of_ble_eq_true rfl, Nat.le_of_ble_eq_true rfl⟩) 0 5 (g5 ..) rfl rfl rfl rfl (Nat.le_of_ble_eq_true rfl) rfl rfl ⟨Nat.le_of_ble_eq_true rfl, Nat.le_of_ble_eq_true rfl⟩ dX5_goes_48 (fun r48 s48 h => ?_)
      refine aw_lv [] rfl ?_
      exact hQ r48 s48 h 51 dX5_goes_51
    have h := h.2 o38 a38 l38 t38 hz38
    refine aw_aaldS (r := o38) C K dX5_goes_38 1 4 (g5S ..) rfl b38 (by show Option.map _ _ = _; rw [hz38]; rfl) ?_
    refine aw_astore (lv' := [(5, .ref o38), (0, .ref o), (1, .int x1), (2, .int x2), (3, .int x3), (4, .int x4)]) C dX5_goes_39 (by decide) rfl ?_
    refine aw_aload C dX5_goes_41 0 rfl ?_
    refine aw_ifnonnull (tgt := 52) C dX5_goes_43 (by decide) ?_
    refine aw_aload C dX5_goes_52 0 rfl ?_
    refine aw_iload_n C dX5_goes_54 4 rfl ?_
    refine aw_iconst (v := 2) C dX5_goes_55 (by decide) ?_
    refine aw_iload_n C dX5_goes_56 2 rfl ?_
    refine aw_imul C dX5_goes_57 ?_
    refine aw_iconst (v := 1) C dX5_goes_58 (by decide) ?_
    refine aw_isub C dX5_goes_59 ?_
    refine aw_iload_n C dX5_goes_60 2 rfl ?_
    refine aw_iconst (v := 1) C dX5_goes_61 (by decide) ?_
    refine aw_isub C dX5_goes_62 ?_
    refine aw_ishl C dX5_goes_63 ?_
    refine aw_callFI (cells2 := 0) (slots2 := 0) (Wx := (fun u64 => (wX5 cy o ad oa aa or_ ar op ap (uS s x2.toNatClampNeg (some (o38, a38, l38, u64)))))) (wr := r5S cy o ad oa aa or_ ar op ap s x2.toNatClampNeg) (As := [.int x3, .int (((2 * x1) - 1) <<< ((x1 - 1) &&& 31))]) (rest := []) C K (mtX4_holds l D cy o38 a38 l38 t38 x3 (((2 * x1) - 1) <<< ((x1 - 1) &&& 31)) _ h) (foS cy o ad oa aa or_ ar op ap s (vp_in_lt b38) hz38) (fun u => (foS' cy o ad oa aa or_ ar op ap s (vp_in_lt b38) hz38 u)) (cwV 2 C.2.2.2.2.1 gX5_goes_X4_holds rfl rfl rfl (by decide +kernel) ⟨Nat.le_of_ble_eq_true rfl, Nat.le_of_ble_eq_true rfl⟩) 0 4 (wX4_g ..) rfl rfl rfl rfl (Nat.le_of_ble_eq_true rfl) rfl rfl ⟨Nat.le_of_ble_eq_true rfl, Nat.le_of_ble_eq_true rfl⟩ dX5_goes_64 (fun r64 u64 h => ?_)
    obtain ⟨h, hu64⟩ := h
    refine aw_perm (w1 := (wX5 cy o ad oa aa or_ ar op ap s)) (by show ((wX5 cy o ad oa aa or_ ar op ap (uS s x2.toNatClampNeg (some (o38, a38, l38, u64))))).Perm _; rw [hu64, uS_self hz38] <;> exact List.Perm.refl _) ?_
    refine aw_if_ne (tgt := 76) C dX5_goes_67 (by decide) (fun c67 => ?_) (fun c67 => ?_)
    · have h := h.2 c67
      refine aw_aload_n C dX5_goes_76 1 rfl ?_
      refine aw_getX5 C K inX5_goes_5 dX5_goes_77 3 (by decide) qX5_goes_fieldLink_RX5_31 0 (g5 ..) rfl ?_
      refine aw_aload C dX5_goes_80 0 rfl ?_
      refine aw_iload_n C dX5_goes_82 4 rfl ?_
      refine aw_iload_n C dX5_goes_83 2 rfl ?_
      refine aw_callFV (cells2 := 0) (slots2 := 0) (Wx := (fun u84 => (wX5 cy o ad oa aa or_ ar op ap (uR (uS s x2.toNatClampNeg (some (o38, a38, l38, u84.2))) u84.1)))) (wr := r5RS cy o ad oa aa or_ op ap s x2.toNatClampNeg) (As := [.ref o38, .int x3, .int x1]) (rest := []) C K (mtX3_takeBits l D cy or_ ar o38 a38 l38 (tR s, t38) x3 x1 _ h) (foRS cy o ad oa aa or_ ar op ap s (vp_in_lt b38) hz38) (fun u => foRS' cy o ad oa aa or_ ar op ap s (vp_in_lt b38) hz38 u) (cwV 3 C.2.2.2.2.1 gX5_goes_X3_takeBits rfl rfl rfl (by decide +kernel) ⟨Nat.le_of_ble_eq_true rfl, Nat.le_of_ble_eq_true rfl⟩) 0 3 (wX34_0g ..) rfl rfl rfl rfl (Nat.le_of_ble_eq_true rfl) rfl rfl ⟨Nat.le_of_ble_eq_true rfl, Nat.le_of_ble_eq_true rfl⟩ dX5_goes_84 (fun u84 h => ?_)
      refine aw_perm (w1 := (wX5 cy o ad oa aa or_ ar op ap (uR (uS s x2.toNatClampNeg (some (o38, a38, l38, u84.2))) u84.1))) (List.Perm.refl _) ?_
      obtain ⟨s84, es84⟩ : ∃ z, z = (uR (uS s x2.toNatClampNeg (some (o38, a38, l38, u84.2))) u84.1) := ⟨_, rfl⟩
      rw [← es84]
      have h := h s84 es84
      have hz38_84 : tS s84 x2.toNatClampNeg = some (o38, a38, l38, u84.2) := by rw [es84]; exact if_pos rfl
      refine aw_aload_n C dX5_goes_87 1 rfl ?_
      refine aw_aload_n C dX5_goes_88 1 rfl ?_
      refine aw_getX5 C K inX5_goes_5 dX5_goes_89 3 (by decide) qX5_goes_fieldLink_RX5_31 0 (g5 ..) rfl ?_
      refine aw_iload_n C dX5_goes_92 2 rfl ?_
      refine aw_iload C dX5_goes_93 5 rfl ?_
      refine aw_callFI (cells2 := 0) (slots2 := 0) (Wx := (fun u95 => (wX5 cy o ad oa aa or_ ar op ap (uR s84 u95)))) (wr := r5R cy o ad oa aa or_ op ap s84) (As := [.int x1, .int x4]) (rest := [.ref o]) C K (mtX3_follow l D cy or_ ar (tR s84) x1 x4 _ h) (foR cy o ad oa aa or_ ar op ap s84) (fun u => (foR' cy o ad oa aa or_ ar op ap s84 u)) (cwV 2 C.2.2.2.2.1 gX5_goes_X3_follow rfl rfl rfl (by decide +kernel) ⟨Nat.le_of_ble_eq_true rfl, Nat.le_of_ble_eq_true rfl⟩) 0 3 (wX3_g ..) rfl rfl rfl rfl (Nat.le_of_ble_eq_true rfl) rfl rfl ⟨Nat.le_of_ble_eq_true rfl, Nat.le_of_ble_eq_true rfl⟩ dX5_goes_95 (fun r95 u95 h => ?_)
      obtain ⟨h, hu95⟩ := h
      refine aw_perm (w1 := (wX5 cy o ad oa aa or_ ar op ap s84)) (by show ((wX5 cy o ad oa aa or_ ar op ap (uR s84 u95))).Perm _; rw [hu95] <;> exact List.Perm.refl _) ?_
      refine aw_callFI (cells2 := 0) (slots2 := 0) (Wx := wX5 cy o ad oa aa or_ ar op ap) (wr := []) (As := [.int r95]) (rest := []) C K (mtX5_fine l D cy o ad oa aa or_ ar op ap s84 r95 _ h) (permNil _) (fun u => permNil _) (cwV 1 C.2.2.2.2.1 gX5_goes_X5_fine rfl rfl rfl (by decide +kernel) ⟨Nat.le_of_ble_eq_true rfl, Nat.le_of_ble_eq_true rfl⟩) 0 5 (g5 ..) rfl rfl rfl rfl (Nat.le_of_ble_eq_true rfl) rfl rfl ⟨Nat.le_of_ble_eq_true rfl, Nat.le_of_ble_eq_true rfl⟩ dX5_goes_98 (fun r98 s98 h => ?_)
      refine aw_lv [] rfl ?_
      exact hQ r98 s98 h 101 dX5_goes_101
    have h := h.1 c67
    refine aw_aload_n C dX5_goes_70 1 rfl ?_
    refine aw_iconst (v := 2) C dX5_goes_71 (by decide) ?_
    refine aw_callFI (cells2 := 0) (slots2 := 0) (Wx := wX5 cy o ad oa aa or_ ar op ap) (wr := []) (As := [.int 2]) (rest := []) C K (mtX5_found l D cy o ad oa aa or_ ar op ap s 2 _ h) (permNil _) (fun u => permNil _) (cwV 1 C.2.2.2.2.1 gX5_goes_X5_found rfl rfl rfl (by decide +kernel) ⟨Nat.le_of_ble_eq_true rfl, Nat.le_of_ble_eq_true rfl⟩) 0 5 (g5 ..) rfl rfl rfl rfl (Nat.le_of_ble_eq_true rfl) rfl rfl ⟨Nat.le_of_ble_eq_true rfl, Nat.le_of_ble_eq_true rfl⟩ dX5_goes_72 (fun r72 s72 h => ?_)
    refine aw_lv [] rfl ?_
    exact hQ r72 s72 h 75 dX5_goes_75
  have h := h.1 c27
  refine aw_ldc (v := (-1000001)) C dX5_goes_30 qX5_goes_constant_RX5_54_1000001 ?_
  refine aw_lv [] rfl ?_
  exact hQ (-1000001) s h 32 dX5_goes_32
end SX5_goes
theorem mtX5_goes (l : Launch) (D : va_G) (cy : Nat → ClassId) (o : Nat) (ad : Nat → Nat) (oa : Nat) (aa : Nat → Nat) (or_ : Nat) (ar : Nat → Nat) (op : Nat) (ap : Nat → Nat) (s : TS) (x1 : Int32) (x2 : Int32) (x3 : Int32) (x4 : Int32) (Q : Int32 → TS → Prop) (hw : pX5_goes  s x1 x2 x3 x4 Q) : mI l yX5_goes wsX5_goes rmX5_goes D cy [.ref o, .int x1, .int x2, .int x3, .int x4] (wX5 cy o ad oa aa or_ ar op ap s) (wX5 cy o ad oa aa or_ ar op ap) Q :=
  metI (Wd := wX5 cy o ad oa aa or_ ar op ap) ⟨rfl, rfl⟩ (by decide) rfl (Nat.le_of_ble_eq_true rfl) (fun C K hQ => eX5_goes C K hQ s x1 x2 x3 x4 hw)
def rmX5_demand : Room := { frames := 10, cells := 0, slots := 0, locals := 256 }
theorem inX5_demand_2 : ∀ w ∈ wsX20, w ∈ wsX5_demand := fun w h => (List.mem_cons_of_mem _ (List.mem_append_left _ (List.mem_append_right _ h)))
theorem inX5_demand_4 : ∀ w ∈ wsX40, w ∈ wsX5_demand := fun w h => (List.mem_cons_of_mem _ (List.mem_append_right _ h))
theorem inX5_demand_5 : ∀ w ∈ wsX50, w ∈ wsX5_demand := fun w h => (List.mem_cons_of_mem _ (List.mem_append_left _ (List.mem_append_left _ (List.mem_append_right _ h))))
theorem qX5_demand_constant_RX5_54_1000001 : Cond.constant RX5 54 (-1000001) ∈ wsX5_demand := (List.mem_cons_of_mem _ (List.mem_append_left _ (List.mem_append_left _ (List.mem_append_left _ (List.mem_append_left _ (List.mem_of_getElem? (i := 0) rfl))))))
theorem qX5_demand_fieldLink_RX5_11 : Cond.fieldLink RX5 11 "StageSwitch" "sheets" "[LStageSwitch$Sheet;" ∈ wsX5_demand := (List.mem_cons_of_mem _ (List.mem_append_left _ (List.mem_append_left _ (List.mem_append_left _ (List.mem_append_left _ (List.mem_of_getElem? (i := 1) rfl))))))
theorem qX5_demand_fieldLink_RX5_38 : Cond.fieldLink RX5 38 "StageSwitch" "parts" "LStageSwitch$Parts;" ∈ wsX5_demand := (List.mem_cons_of_mem _ (List.mem_append_left _ (List.mem_append_left _ (List.mem_append_left _ (List.mem_append_left _ (List.mem_of_getElem? (i := 2) rfl))))))
theorem qX5_demand_constant_RX5_179_1000000 : Cond.constant RX5 179 (-1000000) ∈ wsX5_demand := (List.mem_cons_of_mem _ (List.mem_append_left _ (List.mem_append_left _ (List.mem_append_left _ (List.mem_append_left _ (List.mem_of_getElem? (i := 3) rfl))))))
theorem qX5_demand_fieldLink_RX5_186 : Cond.fieldLink RX5 186 "StageSwitch$Parts" "order" "[I" ∈ wsX5_demand := (List.mem_cons_of_mem _ (List.mem_append_left _ (List.mem_append_left _ (List.mem_append_left _ (List.mem_append_left _ (List.mem_of_getElem? (i := 5) rfl))))))
theorem qX5_demand_fieldLink_RX5_183 : Cond.fieldLink RX5 183 "StageSwitch$Parts" "times" "I" ∈ wsX5_demand := (List.mem_cons_of_mem _ (List.mem_append_left _ (List.mem_append_left _ (List.mem_append_left _ (List.mem_append_left _ (List.mem_of_getElem? (i := 4) rfl))))))
section SX5_demand
variable {p : Program} {l : Launch} {e : Env} {s0 : State} {m : MethodId} {args : Array Value} {below : List Frame} {meth : Method} {c : Code} {D : va_G} {A : Nat → Prop} {H0 : Heap} {cy : Nat → ClassId} {Z : State → Prop}
theorem eX5_demand (C : ctB p s0 m args c cX5_demand 7 RX5 wsX5_demand) (K : ctK s0 D A H0 cy) {o : Nat} {ad : Nat → Nat} {oa : Nat} {aa : Nat → Nat} {or_ : Nat} {ar : Nat → Nat} {op : Nat} {ap : Nat → Nat} {Q : Int32 → TS → Prop} (hQ : ∀ (v : Int32) (u : TS), Q v u → ∀ pc, decode cX5_demand pc = .ok (.ireturn, 1) → atG p l e rmX5_demand s0 m args below meth c 0 0 Z 7 (iW D A H0 (wX5 cy o ad oa aa or_ ar op ap u)) [] [.int v] pc) (s : TS) (x1 : Int32) (x2 : Int32) (x3 : Int32) (x4 : Int32) (x5 : Int32) (h : pX5_demand  s x1 x2 x3 x4 x5 Q) : atG p l e rmX5_demand s0 m args below meth c 0 0 Z 7 (iW D A H0 (wX5 cy o ad oa aa or_ ar op ap s)) [(0, .ref o), (1, .int x1), (2, .int x2), (3, .int x3), (4, .int x4), (5, .int x5)] [] 0 := by
  delta pX5_demand at h
  refine aw_iload_n C dX5_demand_0 1 rfl ?_
  refine aw_callS (As := [.int x1]) (rest := []) C (mtX5_isSheet l x1 _ h) (va_cwS 1 C.2.2.2.2.1 gX5_demand_X5_isSheet rfl rfl rfl (by decide +kernel) ⟨Nat.le_of_ble_eq_true rfl, Nat.le_of_ble_eq_true rfl⟩) rfl rfl (Nat.le_of_ble_eq_true rfl) ⟨rfl, rfl⟩ ⟨Nat.zero_le _, Nat.zero_le _⟩ dX5_demand_1 (fun r1 h => ?_)
  refine aw_if_eq (tgt := 29) C dX5_demand_4 (by decide) (fun c4 => ?_) (fun c4 => ?_)
  · have h := h.1 c4
    refine aw_ldc (v := (-1000001)) C dX5_demand_29 qX5_demand_constant_RX5_54_1000001 ?_
    refine aw_lv [] rfl ?_
    exact hQ (-1000001) s h 31 dX5_demand_31
  have h := h.2 c4
  refine aw_iload_n C dX5_demand_7 3 rfl ?_
  refine aw_iconst (v := 1) C dX5_demand_8 (by decide) ?_
  refine aw_bipush (v := 6) C dX5_demand_9 (by decide) ?_
  refine aw_callS (As := [.int x3, .int 1, .int 6]) (rest := []) C (mtX5_within l x3 1 6 _ h) (va_cwS 3 C.2.2.2.2.1 gX5_demand_X5_within rfl rfl rfl (by decide +kernel) ⟨Nat.le_of_ble_eq_true rfl, Nat.le_of_ble_eq_true rfl⟩) rfl rfl (Nat.le_of_ble_eq_true rfl) ⟨rfl, rfl⟩ ⟨Nat.zero_le _, Nat.zero_le _⟩ dX5_demand_11 (fun r11 h => ?_)
  refine aw_if_eq (tgt := 29) C dX5_demand_14 (by decide) (fun c14 => ?_) (fun c14 => ?_)
  · have h := h.1 c14
    refine aw_ldc (v := (-1000001)) C dX5_demand_29 qX5_demand_constant_RX5_54_1000001 ?_
    refine aw_lv [] rfl ?_
    exact hQ (-1000001) s h 31 dX5_demand_31
  have h := h.2 c14
  refine aw_iload C dX5_demand_17 5 rfl ?_
  refine aw_iconst (v := (-1)) C dX5_demand_19 (by decide) ?_
  refine aw_iload_n C dX5_demand_20 3 rfl ?_
  refine aw_iconst (v := 1) C dX5_demand_21 (by decide) ?_
  refine aw_isub C dX5_demand_22 ?_
  refine aw_callS (As := [.int x5, .int (-1), .int (x3 - 1)]) (rest := []) C (mtX5_within l x5 (-1) (x3 - 1) _ h) (va_cwS 3 C.2.2.2.2.1 gX5_demand_X5_within rfl rfl rfl (by decide +kernel) ⟨Nat.le_of_ble_eq_true rfl, Nat.le_of_ble_eq_true rfl⟩) rfl rfl (Nat.le_of_ble_eq_true rfl) ⟨rfl, rfl⟩ ⟨Nat.zero_le _, Nat.zero_le _⟩ dX5_demand_23 (fun r23 h => ?_)
  refine aw_if_ne (tgt := 32) C dX5_demand_26 (by decide) (fun c26 => ?_) (fun c26 => ?_)
  · have h := h.2 c26
    refine aw_aload_n C dX5_demand_32 0 rfl ?_
    refine aw_getX5 C K inX5_demand_5 dX5_demand_33 0 (by decide) qX5_demand_fieldLink_RX5_11 0 (g5 ..) rfl ?_
    refine aw_iload_n C dX5_demand_36 1 rfl ?_
    obtain ⟨b37, h⟩ := h
    rcases hz37 : tS s x1.toNatClampNeg with _ | ⟨o37, a37, l37, t37⟩
    · have h := h.1 hz37
      refine aw_aaldN C K dX5_demand_37 1 4 (g5S ..) rfl b37 (by show Option.map _ _ = _; rw [hz37]; rfl) ?_
      refine aw_astoreN (lv' := [(6, .null), (0, .ref o), (1, .int x1), (2, .int x2), (3, .int x3), (4, .int x4), (5, .int x5)]) C dX5_demand_38 (by decide) rfl ?_
      refine aw_aloadN C dX5_demand_40 0 rfl ?_
      refine aw_ifnonnullN C dX5_demand_42 ?_
      refine aw_aload_n C dX5_demand_45 1 rfl ?_
      refine aw_iconst (v := 1) C dX5_demand_46 (by decide) ?_
      refine aw_callFI (cells2 := 0) (slots2 := 0) (Wx := wX5 cy o ad oa aa or_ ar op ap) (wr := []) (As := [.int 1]) (rest := []) C K (mtX5_found l D cy o ad oa aa or_ ar op ap s 1 _ h) (permNil _) (fun u => permNil _) (cwV 1 C.2.2.2.2.1 gX5_demand_X5_found rfl rfl rfl (by decide +kernel) ⟨Nat.le_of_ble_eq_true rfl, Nat.le_of_ble_eq_true rfl⟩) 0 5 (g5 ..) rfl rfl rfl rfl (Nat.le_of_ble_eq_true rfl) rfl rfl ⟨Nat.le_of_ble_eq_true rfl, Nat.le_of_ble_eq_true rfl⟩ dX5_demand_47 (fun r47 s47 h => ?_)
      refine aw_lv [] rfl ?_
      exact hQ r47 s47 h 50 dX5_demand_50
    have h := h.2 o37 a37 l37 t37 hz37
    refine aw_aaldS (r := o37) C K dX5_demand_37 1 4 (g5S ..) rfl b37 (by show Option.map _ _ = _; rw [hz37]; rfl) ?_
    refine aw_astore (lv' := [(6, .ref o37), (0, .ref o), (1, .int x1), (2, .int x2), (3, .int x3), (4, .int x4), (5, .int x5)]) C dX5_demand_38 (by decide) rfl ?_
    refine aw_aload C dX5_demand_40 0 rfl ?_
    refine aw_ifnonnull (tgt := 51) C dX5_demand_42 (by decide) ?_
    refine aw_aload C dX5_demand_51 0 rfl ?_
    refine aw_iload_n C dX5_demand_53 3 rfl ?_
    refine aw_iload_n C dX5_demand_54 4 rfl ?_
    refine aw_iload_n C dX5_demand_55 4 rfl ?_
    refine aw_imul C dX5_demand_56 ?_
    refine aw_callFI (cells2 := 0) (slots2 := 0) (Wx := (fun u57 => (wX5 cy o ad oa aa or_ ar op ap (uS s x1.toNatClampNeg (some (o37, a37, l37, u57)))))) (wr := r5S cy o ad oa aa or_ ar op ap s x1.toNatClampNeg) (As := [.int x2, .int (x3 * x3)]) (rest := []) C K (mtX4_holds l D cy o37 a37 l37 t37 x2 (x3 * x3) _ h) (foS cy o ad oa aa or_ ar op ap s (vp_in_lt b37) hz37) (fun u => (foS' cy o ad oa aa or_ ar op ap s (vp_in_lt b37) hz37 u)) (cwV 2 C.2.2.2.2.1 gX5_demand_X4_holds rfl rfl rfl (by decide +kernel) ⟨Nat.le_of_ble_eq_true rfl, Nat.le_of_ble_eq_true rfl⟩) 0 4 (wX4_g ..) rfl rfl rfl rfl (Nat.le_of_ble_eq_true rfl) rfl rfl ⟨Nat.le_of_ble_eq_true rfl, Nat.le_of_ble_eq_true rfl⟩ dX5_demand_57 (fun r57 u57 h => ?_)
    obtain ⟨h, hu57⟩ := h
    refine aw_perm (w1 := (wX5 cy o ad oa aa or_ ar op ap s)) (by show ((wX5 cy o ad oa aa or_ ar op ap (uS s x1.toNatClampNeg (some (o37, a37, l37, u57))))).Perm _; rw [hu57, uS_self hz37] <;> exact List.Perm.refl _) ?_
    refine aw_if_ne (tgt := 69) C dX5_demand_60 (by decide) (fun c60 => ?_) (fun c60 => ?_)
    · have h := h.2 c60
      refine aw_aload_n C dX5_demand_69 1 rfl ?_
      refine aw_getX5 C K inX5_demand_5 dX5_demand_70 4 (by decide) qX5_demand_fieldLink_RX5_38 0 (g5 ..) rfl ?_
      refine aw_aload C dX5_demand_73 0 rfl ?_
      refine aw_iload_n C dX5_demand_75 3 rfl ?_
      refine aw_iload_n C dX5_demand_76 4 rfl ?_
      refine aw_callFI (cells2 := 0) (slots2 := 0) (Wx := (fun u77 => (wX5 cy o ad oa aa or_ ar op ap (uP (uS s x1.toNatClampNeg (some (o37, a37, l37, u77.2))) u77.1)))) (wr := r5PS cy o ad oa aa or_ ar op s x1.toNatClampNeg) (As := [.ref o37, .int x2, .int x3]) (rest := []) C K (mtX2_takeTable l D cy op ap o37 a37 l37 (tP s, t37) x2 x3 _ h) (foPS cy o ad oa aa or_ ar op ap s (vp_in_lt b37) hz37) (fun u => foPS' cy o ad oa aa or_ ar op ap s (vp_in_lt b37) hz37 u) (cwV 3 C.2.2.2.2.1 gX5_demand_X2_takeTable rfl rfl rfl (by decide +kernel) ⟨Nat.le_of_ble_eq_true rfl, Nat.le_of_ble_eq_true rfl⟩) 0 2 (wX24_0g ..) rfl rfl rfl rfl (Nat.le_of_ble_eq_true rfl) rfl rfl ⟨Nat.le_of_ble_eq_true rfl, Nat.le_of_ble_eq_true rfl⟩ dX5_demand_77 (fun r77 u77 h => ?_)
      refine aw_perm (w1 := (wX5 cy o ad oa aa or_ ar op ap (uP (uS s x1.toNatClampNeg (some (o37, a37, l37, u77.2))) u77.1))) (List.Perm.refl _) ?_
      obtain ⟨s77, es77⟩ : ∃ z, z = (uP (uS s x1.toNatClampNeg (some (o37, a37, l37, u77.2))) u77.1) := ⟨_, rfl⟩
      rw [← es77]
      have h := h s77 es77
      have hz37_77 : tS s77 x1.toNatClampNeg = some (o37, a37, l37, u77.2) := by rw [es77]; exact if_pos rfl
      refine aw_if_ne (tgt := 86) C dX5_demand_80 (by decide) (fun c80 => ?_) (fun c80 => ?_)
      · have h := h.2 c80
        refine aw_iload C dX5_demand_86 5 rfl ?_
        refine aw_ldc (v := (-1000000)) C dX5_demand_88 qX5_demand_constant_RX5_179_1000000 ?_
        refine aw_icmp_ne (tgt := 107) C dX5_demand_90 (by decide) (fun c90 => ?_) (fun c90 => ?_)
        · have h := h.2 c90
          refine aw_iload C dX5_demand_107 5 rfl ?_
          refine aw_iconst (v := 0) C dX5_demand_109 (by decide) ?_
          refine aw_bipush (v := 35) C dX5_demand_110 (by decide) ?_
          refine aw_callS (As := [.int x4, .int 0, .int 35]) (rest := []) C (mtX5_within l x4 0 35 _ h) (va_cwS 3 C.2.2.2.2.1 gX5_demand_X5_within rfl rfl rfl (by decide +kernel) ⟨Nat.le_of_ble_eq_true rfl, Nat.le_of_ble_eq_true rfl⟩) rfl rfl (Nat.le_of_ble_eq_true rfl) ⟨rfl, rfl⟩ ⟨Nat.zero_le _, Nat.zero_le _⟩ dX5_demand_112 (fun r112 h => ?_)
          refine aw_if_eq (tgt := 134) C dX5_demand_115 (by decide) (fun c115 => ?_) (fun c115 => ?_)
          · have h := h.1 c115
            refine aw_aload_n C dX5_demand_134 1 rfl ?_
            refine aw_ldc (v := (-1000000)) C dX5_demand_135 qX5_demand_constant_RX5_179_1000000 ?_
            refine aw_callFI (cells2 := 0) (slots2 := 0) (Wx := wX5 cy o ad oa aa or_ ar op ap) (wr := []) (As := [.int (-1000000)]) (rest := []) C K (mtX5_fine l D cy o ad oa aa or_ ar op ap s77 (-1000000) _ h) (permNil _) (fun u => permNil _) (cwV 1 C.2.2.2.2.1 gX5_demand_X5_fine rfl rfl rfl (by decide +kernel) ⟨Nat.le_of_ble_eq_true rfl, Nat.le_of_ble_eq_true rfl⟩) 0 5 (g5 ..) rfl rfl rfl rfl (Nat.le_of_ble_eq_true rfl) rfl rfl ⟨Nat.le_of_ble_eq_true rfl, Nat.le_of_ble_eq_true rfl⟩ dX5_demand_137 (fun r137 s137 h => ?_)
            refine aw_lv [] rfl ?_
            exact hQ r137 s137 h 140 dX5_demand_140
          have h := h.2 c115
          refine aw_aload_n C dX5_demand_118 1 rfl ?_
          refine aw_getX5 C K inX5_demand_5 dX5_demand_119 4 (by decide) qX5_demand_fieldLink_RX5_38 0 (g5 ..) rfl ?_
          refine aw_iload C dX5_demand_122 5 rfl ?_
          refine aw_iconst (v := 1) C dX5_demand_124 (by decide) ?_
          refine aw_iadd C dX5_demand_125 ?_
          refine aw_callFI (cells2 := 0) (slots2 := 0) (Wx := (fun u126 => (wX5 cy o ad oa aa or_ ar op ap (uP s77 u126)))) (wr := r5P cy o ad oa aa or_ ar op s77) (As := [.int (x4 + 1)]) (rest := []) C K (mtX2_takeUpTo l D cy op ap (tP s77) (x4 + 1) _ h) (foP cy o ad oa aa or_ ar op ap s77) (fun u => (foP' cy o ad oa aa or_ ar op ap s77 u)) (cwV 1 C.2.2.2.2.1 gX5_demand_X2_takeUpTo rfl rfl rfl (by decide +kernel) ⟨Nat.le_of_ble_eq_true rfl, Nat.le_of_ble_eq_true rfl⟩) 0 2 (wX2_g ..) rfl rfl rfl rfl (Nat.le_of_ble_eq_true rfl) rfl rfl ⟨Nat.le_of_ble_eq_true rfl, Nat.le_of_ble_eq_true rfl⟩ dX5_demand_126 (fun r126 u126 h => ?_)
          refine aw_perm (w1 := (wX5 cy o ad oa aa or_ ar op ap (uP s77 u126))) (List.Perm.refl _) ?_
          obtain ⟨s126, es126⟩ : ∃ z, z = (uP s77 u126) := ⟨_, rfl⟩
          rw [← es126]
          have h := h s126 es126
          have hz37_126 : tS s126 x1.toNatClampNeg = some (o37, a37, l37, u77.2) := by rw [es126]; exact hz37_77
          refine aw_iload C dX5_demand_129 5 rfl ?_
          refine aw_icmp_gt (tgt := 141) C dX5_demand_131 (by decide) (fun c131 => ?_) (fun c131 => ?_)
          · have h := h.1 c131
            refine aw_aload_n C dX5_demand_141 1 rfl ?_
            refine aw_iload C dX5_demand_142 6 rfl ?_
            refine aw_iconst (v := (-1)) C dX5_demand_144 (by decide) ?_
            refine aw_icmp_ne (tgt := 158) C dX5_demand_145 (by decide) (fun c145 => ?_) (fun c145 => ?_)
            · have h := h.2 c145
              refine aw_aload_n C dX5_demand_158 1 rfl ?_
              refine aw_getX5 C K inX5_demand_5 dX5_demand_159 4 (by decide) qX5_demand_fieldLink_RX5_38 0 (g5 ..) rfl ?_
              refine aw_perm (w1 := wX2 cy op ap (tP s126) ++ r5P cy o ad oa aa or_ ar op s126) (foP cy o ad oa aa or_ ar op ap s126) ?_
              refine aw_getX2 C K inX5_demand_2 dX5_demand_162 0 (by decide) qX5_demand_fieldLink_RX5_186 0 (wX2_ag ..) rfl ?_
              refine aw_perm (w1 := (wX5 cy o ad oa aa or_ ar op ap s126)) (foP cy o ad oa aa or_ ar op ap s126).symm ?_
              refine aw_iload C dX5_demand_165 6 rfl ?_
              obtain ⟨b167, h⟩ := h
              refine aw_perm (w1 := wX2 cy op ap (tP s126) ++ r5P cy o ad oa aa or_ ar op s126) (foP cy o ad oa aa or_ ar op ap s126) ?_
              refine aw_iald C K dX5_demand_167 1 (wX2_ag0 ..) b167 ?_
              refine aw_perm (w1 := (wX5 cy o ad oa aa or_ ar op ap s126)) (foP cy o ad oa aa or_ ar op ap s126).symm ?_
              refine aw_callFI (cells2 := 0) (slots2 := 0) (Wx := wX5 cy o ad oa aa or_ ar op ap) (wr := []) (As := [.int (sA (tP s126) 0 x5.toNatClampNeg)]) (rest := []) C K (mtX5_fine l D cy o ad oa aa or_ ar op ap s126 (sA (tP s126) 0 x5.toNatClampNeg) _ h) (permNil _) (fun u => permNil _) (cwV 1 C.2.2.2.2.1 gX5_demand_X5_fine rfl rfl rfl (by decide +kernel) ⟨Nat.le_of_ble_eq_true rfl, Nat.le_of_ble_eq_true rfl⟩) 0 5 (g5 ..) rfl rfl rfl rfl (Nat.le_of_ble_eq_true rfl) rfl rfl ⟨Nat.le_of_ble_eq_true rfl, Nat.le_of_ble_eq_true rfl⟩ dX5_demand_168 (fun r168 s168 h => ?_)
              refine aw_lv [] rfl ?_
              exact hQ r168 s168 h 171 dX5_demand_171
            have h := h.1 c145
            refine aw_aload_n C dX5_demand_148 1 rfl ?_
            refine aw_getX5 C K inX5_demand_5 dX5_demand_149 4 (by decide) qX5_demand_fieldLink_RX5_38 0 (g5 ..) rfl ?_
            refine aw_perm (w1 := wX2 cy op ap (tP s126) ++ r5P cy o ad oa aa or_ ar op s126) (foP cy o ad oa aa or_ ar op ap s126) ?_
            refine aw_getX2 C K inX5_demand_2 dX5_demand_152 1 (by decide) qX5_demand_fieldLink_RX5_183 0 (wX2_ag ..) rfl ?_
            refine aw_perm (w1 := (wX5 cy o ad oa aa or_ ar op ap s126)) (foP cy o ad oa aa or_ ar op ap s126).symm ?_
            refine aw_goto (tgt := 168) C dX5_demand_155 (by decide) ?_
            refine aw_callFI (cells2 := 0) (slots2 := 0) (Wx := wX5 cy o ad oa aa or_ ar op ap) (wr := []) (As := [.int (sF (tP s126) 1)]) (rest := []) C K (mtX5_fine l D cy o ad oa aa or_ ar op ap s126 (sF (tP s126) 1) _ h) (permNil _) (fun u => permNil _) (cwV 1 C.2.2.2.2.1 gX5_demand_X5_fine rfl rfl rfl (by decide +kernel) ⟨Nat.le_of_ble_eq_true rfl, Nat.le_of_ble_eq_true rfl⟩) 0 5 (g5 ..) rfl rfl rfl rfl (Nat.le_of_ble_eq_true rfl) rfl rfl ⟨Nat.le_of_ble_eq_true rfl, Nat.le_of_ble_eq_true rfl⟩ dX5_demand_168 (fun r168 s168 h => ?_)
            refine aw_lv [] rfl ?_
            exact hQ r168 s168 h 171 dX5_demand_171
          have h := h.2 c131
          refine aw_aload_n C dX5_demand_134 1 rfl ?_
          refine aw_ldc (v := (-1000000)) C dX5_demand_135 qX5_demand_constant_RX5_179_1000000 ?_
          refine aw_callFI (cells2 := 0) (slots2 := 0) (Wx := wX5 cy o ad oa aa or_ ar op ap) (wr := []) (As := [.int (-1000000)]) (rest := []) C K (mtX5_fine l D cy o ad oa aa or_ ar op ap s126 (-1000000) _ h) (permNil _) (fun u => permNil _) (cwV 1 C.2.2.2.2.1 gX5_demand_X5_fine rfl rfl rfl (by decide +kernel) ⟨Nat.le_of_ble_eq_true rfl, Nat.le_of_ble_eq_true rfl⟩) 0 5 (g5 ..) rfl rfl rfl rfl (Nat.le_of_ble_eq_true rfl) rfl rfl ⟨Nat.le_of_ble_eq_true rfl, Nat.le_of_ble_eq_true rfl⟩ dX5_demand_137 (fun r137 s137 h => ?_)
          refine aw_lv [] rfl ?_
          exact hQ r137 s137 h 140 dX5_demand_140
        have h := h.1 c90
        refine aw_aload_n C dX5_demand_93 1 rfl ?_
        refine aw_aload_n C dX5_demand_94 1 rfl ?_
        refine aw_getX5 C K inX5_demand_5 dX5_demand_95 4 (by decide) qX5_demand_fieldLink_RX5_38 0 (g5 ..) rfl ?_
        refine aw_bipush (v := 36) C dX5_demand_98 (by decide) ?_
        refine aw_callFI (cells2 := 0) (slots2 := 0) (Wx := (fun u100 => (wX5 cy o ad oa aa or_ ar op ap (uP s77 u100)))) (wr := r5P cy o ad oa aa or_ ar op s77) (As := [.int 36]) (rest := [.ref o]) C K (mtX2_takeUpTo l D cy op ap (tP s77) 36 _ h) (foP cy o ad oa aa or_ ar op ap s77) (fun u => (foP' cy o ad oa aa or_ ar op ap s77 u)) (cwV 1 C.2.2.2.2.1 gX5_demand_X2_takeUpTo rfl rfl rfl (by decide +kernel) ⟨Nat.le_of_ble_eq_true rfl, Nat.le_of_ble_eq_true rfl⟩) 0 2 (wX2_g ..) rfl rfl rfl rfl (Nat.le_of_ble_eq_true rfl) rfl rfl ⟨Nat.le_of_ble_eq_true rfl, Nat.le_of_ble_eq_true rfl⟩ dX5_demand_100 (fun r100 u100 h => ?_)
        refine aw_perm (w1 := (wX5 cy o ad oa aa or_ ar op ap (uP s77 u100))) (List.Perm.refl _) ?_
        obtain ⟨s100, es100⟩ : ∃ z, z = (uP s77 u100) := ⟨_, rfl⟩
        rw [← es100]
        have h := h s100 es100
        have hz37_100 : tS s100 x1.toNatClampNeg = some (o37, a37, l37, u77.2) := by rw [es100]; exact hz37_77
        refine aw_callFI (cells2 := 0) (slots2 := 0) (Wx := wX5 cy o ad oa aa or_ ar op ap) (wr := []) (As := [.int r100]) (rest := []) C K (mtX5_fine l D cy o ad oa aa or_ ar op ap s100 r100 _ h) (permNil _) (fun u => permNil _) (cwV 1 C.2.2.2.2.1 gX5_demand_X5_fine rfl rfl rfl (by decide +kernel) ⟨Nat.le_of_ble_eq_true rfl, Nat.le_of_ble_eq_true rfl⟩) 0 5 (g5 ..) rfl rfl rfl rfl (Nat.le_of_ble_eq_true rfl) rfl rfl ⟨Nat.le_of_ble_eq_true rfl, Nat.le_of_ble_eq_true rfl⟩ dX5_demand_103 (fun r103 s103 h => ?_)
        refine aw_lv [] rfl ?_
        exact hQ r103 s103 h 106 dX5_demand_106
      have h := h.1 c80
      refine aw_ldc (v := (-1000001)) C dX5_demand_83 qX5_demand_constant_RX5_54_1000001 ?_
      refine aw_lv [] rfl ?_
      exact hQ (-1000001) s77 h 85 dX5_demand_85
    have h := h.1 c60
    refine aw_aload_n C dX5_demand_63 1 rfl ?_
    refine aw_iconst (v := 2) C dX5_demand_64 (by decide) ?_
    refine aw_callFI (cells2 := 0) (slots2 := 0) (Wx := wX5 cy o ad oa aa or_ ar op ap) (wr := []) (As := [.int 2]) (rest := []) C K (mtX5_found l D cy o ad oa aa or_ ar op ap s 2 _ h) (permNil _) (fun u => permNil _) (cwV 1 C.2.2.2.2.1 gX5_demand_X5_found rfl rfl rfl (by decide +kernel) ⟨Nat.le_of_ble_eq_true rfl, Nat.le_of_ble_eq_true rfl⟩) 0 5 (g5 ..) rfl rfl rfl rfl (Nat.le_of_ble_eq_true rfl) rfl rfl ⟨Nat.le_of_ble_eq_true rfl, Nat.le_of_ble_eq_true rfl⟩ dX5_demand_65 (fun r65 s65 h => ?_)
    refine aw_lv [] rfl ?_
    exact hQ r65 s65 h 68 dX5_demand_68
  have h := h.1 c26
  refine aw_ldc (v := (-1000001)) C dX5_demand_29 qX5_demand_constant_RX5_54_1000001 ?_
  refine aw_lv [] rfl ?_
  exact hQ (-1000001) s h 31 dX5_demand_31
end SX5_demand
theorem mtX5_demand (l : Launch) (D : va_G) (cy : Nat → ClassId) (o : Nat) (ad : Nat → Nat) (oa : Nat) (aa : Nat → Nat) (or_ : Nat) (ar : Nat → Nat) (op : Nat) (ap : Nat → Nat) (s : TS) (x1 : Int32) (x2 : Int32) (x3 : Int32) (x4 : Int32) (x5 : Int32) (Q : Int32 → TS → Prop) (hw : pX5_demand  s x1 x2 x3 x4 x5 Q) : mI l yX5_demand wsX5_demand rmX5_demand D cy [.ref o, .int x1, .int x2, .int x3, .int x4, .int x5] (wX5 cy o ad oa aa or_ ar op ap s) (wX5 cy o ad oa aa or_ ar op ap) Q :=
  metI (Wd := wX5 cy o ad oa aa or_ ar op ap) ⟨rfl, rfl⟩ (by decide) rfl (Nat.le_of_ble_eq_true rfl) (fun C K hQ => eX5_demand C K hQ s x1 x2 x3 x4 x5 hw)
def rmX5_cross : Room := { frames := 6, cells := 0, slots := 0, locals := 160 }
theorem qX5_cross_constant_RX5_54_1000001 : Cond.constant RX5 54 (-1000001) ∈ wsX5_cross := (List.mem_cons_of_mem _ (List.mem_of_getElem? (i := 0) rfl))
section SX5_cross
variable {p : Program} {l : Launch} {e : Env} {s0 : State} {m : MethodId} {args : Array Value} {below : List Frame} {meth : Method} {c : Code} {D : va_G} {A : Nat → Prop} {H0 : Heap} {cy : Nat → ClassId} {Z : State → Prop}
theorem eX5_cross (C : ctB p s0 m args c cX5_cross 4 RX5 wsX5_cross) (K : ctK s0 D A H0 cy) {o : Nat} {ad : Nat → Nat} {oa : Nat} {aa : Nat → Nat} {or_ : Nat} {ar : Nat → Nat} {op : Nat} {ap : Nat → Nat} {Q : Int32 → Prop} (s : TS) (hQ : ∀ (v : Int32), Q v → ∀ pc, decode cX5_cross pc = .ok (.ireturn, 1) → atG p l e rmX5_cross s0 m args below meth c 0 0 Z 4 (iW D A H0 (wX5 cy o ad oa aa or_ ar op ap s)) [] [.int v] pc) (x1 : Int32) (x2 : Int32) (x3 : Int32) (h : pX5_cross  s x1 x2 x3 Q) : atG p l e rmX5_cross s0 m args below meth c 0 0 Z 4 (iW D A H0 (wX5 cy o ad oa aa or_ ar op ap s)) [(0, .ref o), (1, .int x1), (2, .int x2), (3, .int x3)] [] 0 := by
  delta pX5_cross at h
  refine aw_iload_n C dX5_cross_0 1 rfl ?_
  refine aw_iconst (v := 1) C dX5_cross_1 (by decide) ?_
  refine aw_bipush (v := 64) C dX5_cross_2 (by decide) ?_
  refine aw_callS (As := [.int x1, .int 1, .int 64]) (rest := []) C (mtX5_within l x1 1 64 _ h) (va_cwS 3 C.2.2.2.2.1 gX5_cross_X5_within rfl rfl rfl (by decide +kernel) ⟨Nat.le_of_ble_eq_true rfl, Nat.le_of_ble_eq_true rfl⟩) rfl rfl (Nat.le_of_ble_eq_true rfl) ⟨rfl, rfl⟩ ⟨Nat.zero_le _, Nat.zero_le _⟩ dX5_cross_4 (fun r4 h => ?_)
  refine aw_if_eq (tgt := 28) C dX5_cross_7 (by decide) (fun c7 => ?_) (fun c7 => ?_)
  · have h := h.1 c7
    refine aw_ldc (v := (-1000001)) C dX5_cross_28 qX5_cross_constant_RX5_54_1000001 ?_
    refine aw_lv [] rfl ?_
    exact hQ (-1000001) h 30 dX5_cross_30
  have h := h.2 c7
  refine aw_iload_n C dX5_cross_10 2 rfl ?_
  refine aw_iconst (v := 0) C dX5_cross_11 (by decide) ?_
  refine aw_iconst (v := 2) C dX5_cross_12 (by decide) ?_
  refine aw_callS (As := [.int x2, .int 0, .int 2]) (rest := []) C (mtX5_within l x2 0 2 _ h) (va_cwS 3 C.2.2.2.2.1 gX5_cross_X5_within rfl rfl rfl (by decide +kernel) ⟨Nat.le_of_ble_eq_true rfl, Nat.le_of_ble_eq_true rfl⟩) rfl rfl (Nat.le_of_ble_eq_true rfl) ⟨rfl, rfl⟩ ⟨Nat.zero_le _, Nat.zero_le _⟩ dX5_cross_13 (fun r13 h => ?_)
  refine aw_if_eq (tgt := 28) C dX5_cross_16 (by decide) (fun c16 => ?_) (fun c16 => ?_)
  · have h := h.1 c16
    refine aw_ldc (v := (-1000001)) C dX5_cross_28 qX5_cross_constant_RX5_54_1000001 ?_
    refine aw_lv [] rfl ?_
    exact hQ (-1000001) h 30 dX5_cross_30
  have h := h.2 c16
  refine aw_iload_n C dX5_cross_19 3 rfl ?_
  refine aw_iconst (v := 0) C dX5_cross_20 (by decide) ?_
  refine aw_iconst (v := 1) C dX5_cross_21 (by decide) ?_
  refine aw_callS (As := [.int x3, .int 0, .int 1]) (rest := []) C (mtX5_within l x3 0 1 _ h) (va_cwS 3 C.2.2.2.2.1 gX5_cross_X5_within rfl rfl rfl (by decide +kernel) ⟨Nat.le_of_ble_eq_true rfl, Nat.le_of_ble_eq_true rfl⟩) rfl rfl (Nat.le_of_ble_eq_true rfl) ⟨rfl, rfl⟩ ⟨Nat.zero_le _, Nat.zero_le _⟩ dX5_cross_22 (fun r22 h => ?_)
  refine aw_if_ne (tgt := 31) C dX5_cross_25 (by decide) (fun c25 => ?_) (fun c25 => ?_)
  · have h := h.2 c25
    refine aw_iload_n C dX5_cross_31 1 rfl ?_
    refine aw_iload_n C dX5_cross_32 2 rfl ?_
    refine aw_iload_n C dX5_cross_33 3 rfl ?_
    refine aw_callS (As := [.int x1, .int x2, .int x3]) (rest := []) C (mtX5_crosspoints l x1 x2 x3 _ h) (va_cwS 3 C.2.2.2.2.1 gX5_cross_X5_crosspoints rfl rfl rfl (by decide +kernel) ⟨Nat.le_of_ble_eq_true rfl, Nat.le_of_ble_eq_true rfl⟩) rfl rfl (Nat.le_of_ble_eq_true rfl) ⟨rfl, rfl⟩ ⟨Nat.zero_le _, Nat.zero_le _⟩ dX5_cross_34 (fun r34 h => ?_)
    refine aw_lv [] rfl ?_
    exact hQ r34 h 37 dX5_cross_37
  have h := h.1 c25
  refine aw_ldc (v := (-1000001)) C dX5_cross_28 qX5_cross_constant_RX5_54_1000001 ?_
  refine aw_lv [] rfl ?_
  exact hQ (-1000001) h 30 dX5_cross_30
end SX5_cross
theorem mtX5_cross (l : Launch) (D : va_G) (cy : Nat → ClassId) (o : Nat) (ad : Nat → Nat) (oa : Nat) (aa : Nat → Nat) (or_ : Nat) (ar : Nat → Nat) (op : Nat) (ap : Nat → Nat) (s : TS) (x1 : Int32) (x2 : Int32) (x3 : Int32) (Q : Int32 → Prop) (hw : pX5_cross  s x1 x2 x3 Q) : mI l yX5_cross wsX5_cross rmX5_cross D cy [.ref o, .int x1, .int x2, .int x3] (wX5 cy o ad oa aa or_ ar op ap s) (wX5 cy o ad oa aa or_ ar op ap) (fun r u => Q r ∧ u = s) :=
  metI (Wd := wX5 cy o ad oa aa or_ ar op ap) ⟨rfl, rfl⟩ (by decide) rfl (Nat.le_of_ble_eq_true rfl) (fun C K hQ => eX5_cross C K s (fun v hq => hQ v s ⟨hq, rfl⟩) x1 x2 x3 hw)
def rmX5_shut : Room := { frames := 1, cells := 0, slots := 0, locals := 22 }
theorem qX5_shut_constantLong_RX5_193_1000001 : Cond.constantLong RX5 193 (-1000001) ∈ wsX5_shut := (List.mem_cons_of_mem _ (List.mem_of_getElem? (i := 0) rfl))
section SX5_shut
variable {p : Program} {l : Launch} {e : Env} {s0 : State} {m : MethodId} {args : Array Value} {below : List Frame} {meth : Method} {c : Code} {D : va_G} {A : Nat → Prop} {H0 : Heap} {cy : Nat → ClassId} {Z : State → Prop}
theorem tbX5_shut_44 (C : ctB p s0 m args c cX5_shut 8 RX5 wsX5_shut) (K : ctK s0 D A H0 cy) {o : Nat} {ad : Nat → Nat} {oa : Nat} {aa : Nat → Nat} {or_ : Nat} {ar : Nat → Nat} {op : Nat} {ap : Nat → Nat}  {s : TS} {x1 : Int32} {x3 : Int64} {k62 : Int64 → Prop} (hk62 : ∀ (y5 : Int64), k62 y5 → atG p l e rmX5_shut s0 m args below meth c 0 0 Z 8 (iW D A H0 (wX5 cy o ad oa aa or_ ar op ap s)) [(0, .ref o), (5, .long y5)] [] 62) {kH : Int64 → Int32 → Prop} (hkH : ∀ (y5 : Int64) (y7 : Int32), kH y5 y7 → atG p l e rmX5_shut s0 m args below meth c 0 0 Z 8 (iW D A H0 (wX5 cy o ad oa aa or_ ar op ap s)) [(0, .ref o), (1, .int x1), (3, .long x3), (5, .long y5), (7, .int y7)] [] 44) (x5 : Int64) (x7 : Int32) (h : bX5_shut_44 s x1 x3 k62 kH x5 x7) : atG p l e rmX5_shut s0 m args below meth c 0 0 Z 8 (iW D A H0 (wX5 cy o ad oa aa or_ ar op ap s)) [(0, .ref o), (1, .int x1), (3, .long x3), (5, .long x5), (7, .int x7)] [] 44 := by
  delta bX5_shut_44 at h
  refine aw_iload C dX5_shut_44 4 rfl ?_
  refine aw_iload_n C dX5_shut_46 1 rfl ?_
  refine aw_icmp_ge (tgt := 62) C dX5_shut_47 (by decide) (fun c47 => ?_) (fun c47 => ?_)
  · have h := h.1 c47
    refine aw_lv [0, 3] rfl ?_
    exact hk62 x5 h
  have h := h.2 c47
  refine aw_lload C dX5_shut_50 3 rfl ?_
  refine aw_lload_n C dX5_shut_52 2 rfl ?_
  refine aw_lmul C dX5_shut_53 ?_
  refine aw_nameL (fun x5_54 ex5_54 => ?_)
  have h := h x5_54 ex5_54
  refine aw_lstore (lv' := [(5, .long x5_54), (0, .ref o), (1, .int x1), (3, .long x3), (7, .int x7)]) C dX5_shut_54 (by decide) rfl ?_
  obtain ⟨x7_56, ex7_56⟩ : ∃ y : Int32, y = x7 + 1 := ⟨_, rfl⟩
  have h := h x7_56 ex7_56
  refine aw_iinc (v := x7_56) (lv' := [(7, .int x7_56), (5, .long x5_54), (0, .ref o), (1, .int x1), (3, .long x3)]) C dX5_shut_56 4 rfl (by rw [ex7_56]; rfl) (by decide) rfl ?_
  refine aw_goto (tgt := 44) C dX5_shut_59 (by decide) ?_
  refine aw_lv [2, 3, 4, 1, 0] rfl ?_
  exact hkH x5_54 x7_56 h
theorem tlX5_shut_44 (C : ctB p s0 m args c cX5_shut 8 RX5 wsX5_shut) (K : ctK s0 D A H0 cy) {o : Nat} {ad : Nat → Nat} {oa : Nat} {aa : Nat → Nat} {or_ : Nat} {ar : Nat → Nat} {op : Nat} {ap : Nat → Nat}  {s : TS} {x1 : Int32} {x3 : Int64} {k62 : Int64 → Prop} (hk62 : ∀ (y5 : Int64), k62 y5 → atG p l e rmX5_shut s0 m args below meth c 0 0 Z 8 (iW D A H0 (wX5 cy o ad oa aa or_ ar op ap s)) [(0, .ref o), (5, .long y5)] [] 62) (x5 : Int64) (x7 : Int32) (h : lX5_shut_44 s x1 x3 k62 x5 x7) : atG p l e rmX5_shut s0 m args below meth c 0 0 Z 8 (iW D A H0 (wX5 cy o ad oa aa or_ ar op ap s)) [(0, .ref o), (1, .int x1), (3, .long x3), (5, .long x5), (7, .int x7)] [] 44 :=
  lp_W (σ := Int64 × Int32) (P := fun q => atG p l e rmX5_shut s0 m args below meth c 0 0 Z 8 (iW D A H0 (wX5 cy o ad oa aa or_ ar op ap s)) [(0, .ref o), (1, .int x1), (3, .long x3), (5, .long q.1), (7, .int q.2)] [] 44) (fun K2 hK2 q hb => tbX5_shut_44 C K hk62 (fun x5 x7 hk => hK2 (x5, x7) hk) q.1 q.2 hb) (x5, x7) h
theorem eX5_shut (C : ctB p s0 m args c cX5_shut 8 RX5 wsX5_shut) (K : ctK s0 D A H0 cy) {o : Nat} {ad : Nat → Nat} {oa : Nat} {aa : Nat → Nat} {or_ : Nat} {ar : Nat → Nat} {op : Nat} {ap : Nat → Nat} {Q : Int64 → Prop} (s : TS) (hQ : ∀ (v : Int64), Q v → ∀ pc, decode cX5_shut pc = .ok (.lreturn, 1) → atG p l e rmX5_shut s0 m args below meth c 0 0 Z 8 (iW D A H0 (wX5 cy o ad oa aa or_ ar op ap s)) [] [.long v] pc) (x1 : Int32) (x2 : Int32) (h : pX5_shut  s x1 x2 Q) : atG p l e rmX5_shut s0 m args below meth c 0 0 Z 8 (iW D A H0 (wX5 cy o ad oa aa or_ ar op ap s)) [(0, .ref o), (1, .int x1), (2, .int x2)] [] 0 := by
  delta pX5_shut at h
  refine aw_iload_n C dX5_shut_0 1 rfl ?_
  refine aw_iconst (v := 1) C dX5_shut_1 (by decide) ?_
  refine aw_bipush (v := 9) C dX5_shut_2 (by decide) ?_
  refine aw_callS (As := [.int x1, .int 1, .int 9]) (rest := []) C (mtX5_within l x1 1 9 _ h) (va_cwS 3 C.2.2.2.2.1 gX5_shut_X5_within rfl rfl rfl (by decide +kernel) ⟨Nat.le_of_ble_eq_true rfl, Nat.le_of_ble_eq_true rfl⟩) rfl rfl (Nat.le_of_ble_eq_true rfl) ⟨rfl, rfl⟩ ⟨Nat.zero_le _, Nat.zero_le _⟩ dX5_shut_4 (fun r4 h => ?_)
  refine aw_if_eq (tgt := 20) C dX5_shut_7 (by decide) (fun c7 => ?_) (fun c7 => ?_)
  · have h := h.1 c7
    refine aw_ldc2 (v := (-1000001)) C dX5_shut_20 qX5_shut_constantLong_RX5_193_1000001 ?_
    refine aw_lv [] rfl ?_
    exact hQ (-1000001) h 23 dX5_shut_23
  have h := h.2 c7
  refine aw_iload_n C dX5_shut_10 2 rfl ?_
  refine aw_iconst (v := 0) C dX5_shut_11 (by decide) ?_
  refine aw_bipush (v := 10) C dX5_shut_12 (by decide) ?_
  refine aw_callS (As := [.int x2, .int 0, .int 10]) (rest := []) C (mtX5_within l x2 0 10 _ h) (va_cwS 3 C.2.2.2.2.1 gX5_shut_X5_within rfl rfl rfl (by decide +kernel) ⟨Nat.le_of_ble_eq_true rfl, Nat.le_of_ble_eq_true rfl⟩) rfl rfl (Nat.le_of_ble_eq_true rfl) ⟨rfl, rfl⟩ ⟨Nat.zero_le _, Nat.zero_le _⟩ dX5_shut_14 (fun r14 h => ?_)
  refine aw_if_ne (tgt := 24) C dX5_shut_17 (by decide) (fun c17 => ?_) (fun c17 => ?_)
  · have h := h.2 c17
    refine aw_bipush (v := 100) C dX5_shut_24 (by decide) ?_
    refine aw_bipush (v := 10) C dX5_shut_26 (by decide) ?_
    refine aw_iload_n C dX5_shut_28 2 rfl ?_
    refine aw_isub C dX5_shut_29 ?_
    refine aw_bipush (v := 10) C dX5_shut_30 (by decide) ?_
    refine aw_iload_n C dX5_shut_32 2 rfl ?_
    refine aw_isub C dX5_shut_33 ?_
    refine aw_imul C dX5_shut_34 ?_
    refine aw_isub C dX5_shut_35 ?_
    refine aw_i2l C dX5_shut_36 ?_
    refine aw_nameL (fun x3_37 ex3_37 => ?_)
    have h := h x3_37 ex3_37
    refine aw_lstore_n (lv' := [(3, .long x3_37), (0, .ref o), (1, .int x1), (2, .int x2)]) C dX5_shut_37 (by decide) rfl ?_
    refine aw_lconst (v := 1) C dX5_shut_38 (by decide) ?_
    refine aw_lstore (lv' := [(5, .long 1), (3, .long x3_37), (0, .ref o), (1, .int x1), (2, .int x2)]) C dX5_shut_39 (by decide) rfl ?_
    refine aw_iconst (v := 0) C dX5_shut_41 (by decide) ?_
    refine aw_istore (lv' := [(7, .int 0), (5, .long 1), (3, .long x3_37), (0, .ref o), (1, .int x1), (2, .int x2)]) C dX5_shut_42 (by decide) rfl ?_
    refine aw_lv [3, 4, 2, 1, 0] rfl ?_
    refine tlX5_shut_44 C K ?_ 1 0 h
    intro z62_5 h
    refine aw_lload C dX5_shut_62 1 rfl ?_
    refine aw_lv [] rfl ?_
    exact hQ z62_5 h 64 dX5_shut_64
  have h := h.1 c17
  refine aw_ldc2 (v := (-1000001)) C dX5_shut_20 qX5_shut_constantLong_RX5_193_1000001 ?_
  refine aw_lv [] rfl ?_
  exact hQ (-1000001) h 23 dX5_shut_23
end SX5_shut
theorem mtX5_shut (l : Launch) (D : va_G) (cy : Nat → ClassId) (o : Nat) (ad : Nat → Nat) (oa : Nat) (aa : Nat → Nat) (or_ : Nat) (ar : Nat → Nat) (op : Nat) (ap : Nat → Nat) (s : TS) (x1 : Int32) (x2 : Int32) (Q : Int64 → Prop) (hw : pX5_shut  s x1 x2 Q) : mL l yX5_shut wsX5_shut rmX5_shut D cy [.ref o, .int x1, .int x2] (wX5 cy o ad oa aa or_ ar op ap s) (wX5 cy o ad oa aa or_ ar op ap) (fun r u => Q r ∧ u = s) :=
  metL (Wd := wX5 cy o ad oa aa or_ ar op ap) ⟨rfl, rfl⟩ (by decide) rfl (Nat.le_of_ble_eq_true rfl) (fun C K hQ => eX5_shut C K s (fun v hq => hQ v s ⟨hq, rfl⟩) x1 x2 hw)
def rmX5_countSheets : Room := { frames := 0, cells := 0, slots := 0, locals := 0 }
theorem inX5_countSheets_5 : ∀ w ∈ wsX50, w ∈ wsX5_countSheets := fun w h => (List.mem_cons_of_mem _ (List.mem_append_right _ h))
theorem qX5_countSheets_fieldLink_RX5_11 : Cond.fieldLink RX5 11 "StageSwitch" "sheets" "[LStageSwitch$Sheet;" ∈ wsX5_countSheets := (List.mem_cons_of_mem _ (List.mem_append_left _ (List.mem_of_getElem? (i := 0) rfl)))
section SX5_countSheets
variable {p : Program} {l : Launch} {e : Env} {s0 : State} {m : MethodId} {args : Array Value} {below : List Frame} {meth : Method} {c : Code} {D : va_G} {A : Nat → Prop} {H0 : Heap} {cy : Nat → ClassId} {Z : State → Prop}
theorem tbX5_countSheets_4 (C : ctB p s0 m args c cX5_countSheets 3 RX5 wsX5_countSheets) (K : ctK s0 D A H0 cy) {o : Nat} {ad : Nat → Nat} {oa : Nat} {aa : Nat → Nat} {or_ : Nat} {ar : Nat → Nat} {op : Nat} {ap : Nat → Nat}  {s : TS} {k28 : Int32 → Prop} (hk28 : ∀ (y1 : Int32), k28 y1 → atG p l e rmX5_countSheets s0 m args below meth c 0 0 Z 3 (iW D A H0 (wX5 cy o ad oa aa or_ ar op ap s)) [(0, .ref o), (1, .int y1)] [] 28) {kH : Int32 → Int32 → Prop} (hkH : ∀ (y1 : Int32) (y2 : Int32), kH y1 y2 → atG p l e rmX5_countSheets s0 m args below meth c 0 0 Z 3 (iW D A H0 (wX5 cy o ad oa aa or_ ar op ap s)) [(0, .ref o), (1, .int y1), (2, .int y2)] [] 4) (x1 : Int32) (x2 : Int32) (h : bX5_countSheets_4 s k28 kH x1 x2) : atG p l e rmX5_countSheets s0 m args below meth c 0 0 Z 3 (iW D A H0 (wX5 cy o ad oa aa or_ ar op ap s)) [(0, .ref o), (1, .int x1), (2, .int x2)] [] 4 := by
  delta bX5_countSheets_4 at h
  refine aw_iload_n C dX5_countSheets_4 2 rfl ?_
  refine aw_bipush (v := 8) C dX5_countSheets_5 (by decide) ?_
  refine aw_icmp_ge (tgt := 28) C dX5_countSheets_7 (by decide) (fun c7 => ?_) (fun c7 => ?_)
  · have h := h.1 c7
    refine aw_lv [0, 1] rfl ?_
    exact hk28 x1 h
  have h := h.2 c7
  refine aw_aload_n C dX5_countSheets_10 0 rfl ?_
  refine aw_getX5 C K inX5_countSheets_5 dX5_countSheets_11 0 (by decide) qX5_countSheets_fieldLink_RX5_11 0 (g5 ..) rfl ?_
  refine aw_iload_n C dX5_countSheets_14 2 rfl ?_
  obtain ⟨b15, h⟩ := h
  rcases hz15 : tS s x2.toNatClampNeg with _ | ⟨o15, a15, l15, t15⟩
  · have h := h.1 hz15
    refine aw_aaldN C K dX5_countSheets_15 1 4 (g5S ..) rfl b15 (by show Option.map _ _ = _; rw [hz15]; rfl) ?_
    refine aw_ifnullN (tgt := 22) C dX5_countSheets_16 (by decide) ?_
    obtain ⟨x2_22, ex2_22⟩ : ∃ y : Int32, y = x2 + 1 := ⟨_, rfl⟩
    have h := h x2_22 ex2_22
    refine aw_iinc (v := x2_22) (lv' := [(2, .int x2_22), (0, .ref o), (1, .int x1)]) C dX5_countSheets_22 2 rfl (by rw [ex2_22]; rfl) (by decide) rfl ?_
    refine aw_goto (tgt := 4) C dX5_countSheets_25 (by decide) ?_
    refine aw_lv [1, 2, 0] rfl ?_
    exact hkH x1 x2_22 h
  have h := h.2 o15 a15 l15 t15 hz15
  refine aw_aaldS (r := o15) C K dX5_countSheets_15 1 4 (g5S ..) rfl b15 (by show Option.map _ _ = _; rw [hz15]; rfl) ?_
  refine aw_ifnull C dX5_countSheets_16 ?_
  obtain ⟨x1_19, ex1_19⟩ : ∃ y : Int32, y = x1 + 1 := ⟨_, rfl⟩
  have h := h x1_19 ex1_19
  refine aw_iinc (v := x1_19) (lv' := [(1, .int x1_19), (0, .ref o), (2, .int x2)]) C dX5_countSheets_19 1 rfl (by rw [ex1_19]; rfl) (by decide) rfl ?_
  obtain ⟨x2_22, ex2_22⟩ : ∃ y : Int32, y = x2 + 1 := ⟨_, rfl⟩
  have h := h x2_22 ex2_22
  refine aw_iinc (v := x2_22) (lv' := [(2, .int x2_22), (1, .int x1_19), (0, .ref o)]) C dX5_countSheets_22 2 rfl (by rw [ex2_22]; rfl) (by decide) rfl ?_
  refine aw_goto (tgt := 4) C dX5_countSheets_25 (by decide) ?_
  refine aw_lv [2, 1, 0] rfl ?_
  exact hkH x1_19 x2_22 h
theorem tlX5_countSheets_4 (C : ctB p s0 m args c cX5_countSheets 3 RX5 wsX5_countSheets) (K : ctK s0 D A H0 cy) {o : Nat} {ad : Nat → Nat} {oa : Nat} {aa : Nat → Nat} {or_ : Nat} {ar : Nat → Nat} {op : Nat} {ap : Nat → Nat}  {s : TS} {k28 : Int32 → Prop} (hk28 : ∀ (y1 : Int32), k28 y1 → atG p l e rmX5_countSheets s0 m args below meth c 0 0 Z 3 (iW D A H0 (wX5 cy o ad oa aa or_ ar op ap s)) [(0, .ref o), (1, .int y1)] [] 28) (x1 : Int32) (x2 : Int32) (h : lX5_countSheets_4 s k28 x1 x2) : atG p l e rmX5_countSheets s0 m args below meth c 0 0 Z 3 (iW D A H0 (wX5 cy o ad oa aa or_ ar op ap s)) [(0, .ref o), (1, .int x1), (2, .int x2)] [] 4 :=
  lp_W (σ := Int32 × Int32) (P := fun q => atG p l e rmX5_countSheets s0 m args below meth c 0 0 Z 3 (iW D A H0 (wX5 cy o ad oa aa or_ ar op ap s)) [(0, .ref o), (1, .int q.1), (2, .int q.2)] [] 4) (fun K2 hK2 q hb => tbX5_countSheets_4 C K hk28 (fun x1 x2 hk => hK2 (x1, x2) hk) q.1 q.2 hb) (x1, x2) h
theorem eX5_countSheets (C : ctB p s0 m args c cX5_countSheets 3 RX5 wsX5_countSheets) (K : ctK s0 D A H0 cy) {o : Nat} {ad : Nat → Nat} {oa : Nat} {aa : Nat → Nat} {or_ : Nat} {ar : Nat → Nat} {op : Nat} {ap : Nat → Nat} {Q : Int32 → Prop} (s : TS) (hQ : ∀ (v : Int32), Q v → ∀ pc, decode cX5_countSheets pc = .ok (.ireturn, 1) → atG p l e rmX5_countSheets s0 m args below meth c 0 0 Z 3 (iW D A H0 (wX5 cy o ad oa aa or_ ar op ap s)) [] [.int v] pc)  (h : pX5_countSheets  s Q) : atG p l e rmX5_countSheets s0 m args below meth c 0 0 Z 3 (iW D A H0 (wX5 cy o ad oa aa or_ ar op ap s)) [(0, .ref o)] [] 0 := by
  delta pX5_countSheets at h
  refine aw_iconst (v := 0) C dX5_countSheets_0 (by decide) ?_
  refine aw_istore_n (lv' := [(1, .int 0), (0, .ref o)]) C dX5_countSheets_1 (by decide) rfl ?_
  refine aw_iconst (v := 0) C dX5_countSheets_2 (by decide) ?_
  refine aw_istore_n (lv' := [(2, .int 0), (1, .int 0), (0, .ref o)]) C dX5_countSheets_3 (by decide) rfl ?_
  refine aw_lv [2, 1, 0] rfl ?_
  refine tlX5_countSheets_4 C K ?_ 0 0 h
  intro z28_1 h
  refine aw_iload_n C dX5_countSheets_28 1 rfl ?_
  refine aw_lv [] rfl ?_
  exact hQ z28_1 h 29 dX5_countSheets_29
end SX5_countSheets
theorem mtX5_countSheets (l : Launch) (D : va_G) (cy : Nat → ClassId) (o : Nat) (ad : Nat → Nat) (oa : Nat) (aa : Nat → Nat) (or_ : Nat) (ar : Nat → Nat) (op : Nat) (ap : Nat → Nat) (s : TS)  (Q : Int32 → Prop) (hw : pX5_countSheets  s Q) : mI l yX5_countSheets wsX5_countSheets rmX5_countSheets D cy [.ref o] (wX5 cy o ad oa aa or_ ar op ap s) (wX5 cy o ad oa aa or_ ar op ap) (fun r u => Q r ∧ u = s) :=
  metI (Wd := wX5 cy o ad oa aa or_ ar op ap) ⟨rfl, rfl⟩ (by decide) rfl (Nat.le_of_ble_eq_true rfl) (fun C K hQ => eX5_countSheets C K s (fun v hq => hQ v s ⟨hq, rfl⟩) hw)
def rmX5_countNets : Room := { frames := 1, cells := 0, slots := 0, locals := 21 }
theorem inX5_countNets_1 : ∀ w ∈ wsX10, w ∈ wsX5_countNets := fun w h => (List.mem_cons_of_mem _ (List.mem_append_right _ h))
theorem inX5_countNets_5 : ∀ w ∈ wsX50, w ∈ wsX5_countNets := fun w h => (List.mem_cons_of_mem _ (List.mem_append_left _ (List.mem_append_right _ h)))
theorem qX5_countNets_fieldLink_RX5_17 : Cond.fieldLink RX5 17 "StageSwitch" "shelf" "[LStageSwitch$Net;" ∈ wsX5_countNets := (List.mem_cons_of_mem _ (List.mem_append_left _ (List.mem_append_left _ (List.mem_of_getElem? (i := 0) rfl))))
section SX5_countNets
variable {p : Program} {l : Launch} {e : Env} {s0 : State} {m : MethodId} {args : Array Value} {below : List Frame} {meth : Method} {c : Code} {D : va_G} {A : Nat → Prop} {H0 : Heap} {cy : Nat → ClassId} {Z : State → Prop}
theorem tbX5_countNets_4 (C : ctB p s0 m args c cX5_countNets 5 RX5 wsX5_countNets) (K : ctK s0 D A H0 cy) {o : Nat} {ad : Nat → Nat} {oa : Nat} {aa : Nat → Nat} {or_ : Nat} {ar : Nat → Nat} {op : Nat} {ap : Nat → Nat}  {s : TS} {x1 : Int32} {k44 : Int32 → Prop} (hk44 : ∀ (y2 : Int32), k44 y2 → atG p l e rmX5_countNets s0 m args below meth c 0 0 Z 5 (iW D A H0 (wX5 cy o ad oa aa or_ ar op ap s)) [(0, .ref o), (2, .int y2)] [] 44) {kH : Int32 → Int32 → Prop} (hkH : ∀ (y2 : Int32) (y3 : Int32), kH y2 y3 → atG p l e rmX5_countNets s0 m args below meth c 0 0 Z 5 (iW D A H0 (wX5 cy o ad oa aa or_ ar op ap s)) [(0, .ref o), (1, .int x1), (2, .int y2), (3, .int y3)] [] 4) (x2 : Int32) (x3 : Int32) (h : bX5_countNets_4 s x1 k44 kH x2 x3) : atG p l e rmX5_countNets s0 m args below meth c 0 0 Z 5 (iW D A H0 (wX5 cy o ad oa aa or_ ar op ap s)) [(0, .ref o), (1, .int x1), (2, .int x2), (3, .int x3)] [] 4 := by
  delta bX5_countNets_4 at h
  refine aw_iload_n C dX5_countNets_4 3 rfl ?_
  refine aw_bipush (v := 6) C dX5_countNets_5 (by decide) ?_
  refine aw_icmp_ge (tgt := 44) C dX5_countNets_7 (by decide) (fun c7 => ?_) (fun c7 => ?_)
  · have h := h.1 c7
    refine aw_lv [0, 2] rfl ?_
    exact hk44 x2 h
  have h := h.2 c7
  refine aw_aload_n C dX5_countNets_10 0 rfl ?_
  refine aw_getX5 C K inX5_countNets_5 dX5_countNets_11 1 (by decide) qX5_countNets_fieldLink_RX5_17 0 (g5 ..) rfl ?_
  refine aw_iload_n C dX5_countNets_14 3 rfl ?_
  obtain ⟨b15, h⟩ := h
  rcases hz15 : tN s x3.toNatClampNeg with _ | ⟨o15, a15, l15, t15⟩
  · have h := h.1 hz15
    refine aw_aaldN C K dX5_countNets_15 2 5 (g5N ..) rfl b15 (by show Option.map _ _ = _; rw [hz15]; rfl) ?_
    refine aw_astoreN (lv' := [(4, .null), (0, .ref o), (1, .int x1), (2, .int x2), (3, .int x3)]) C dX5_countNets_16 (by decide) rfl ?_
    refine aw_aloadN C dX5_countNets_18 0 rfl ?_
    refine aw_ifnullN (tgt := 38) C dX5_countNets_20 (by decide) ?_
    obtain ⟨x3_38, ex3_38⟩ : ∃ y : Int32, y = x3 + 1 := ⟨_, rfl⟩
    have h := h x3_38 ex3_38
    refine aw_iinc (v := x3_38) (lv' := [(3, .int x3_38), (4, .null), (0, .ref o), (1, .int x1), (2, .int x2)]) C dX5_countNets_38 4 rfl (by rw [ex3_38]; rfl) (by decide) rfl ?_
    refine aw_goto (tgt := 4) C dX5_countNets_41 (by decide) ?_
    refine aw_lv [2, 3, 4, 0] rfl ?_
    exact hkH x2 x3_38 h
  have h := h.2 o15 a15 l15 t15 hz15
  refine aw_aaldS (r := o15) C K dX5_countNets_15 2 5 (g5N ..) rfl b15 (by show Option.map _ _ = _; rw [hz15]; rfl) ?_
  refine aw_astore (lv' := [(4, .ref o15), (0, .ref o), (1, .int x1), (2, .int x2), (3, .int x3)]) C dX5_countNets_16 (by decide) rfl ?_
  refine aw_aload C dX5_countNets_18 0 rfl ?_
  refine aw_ifnull C dX5_countNets_20 ?_
  refine aw_aload C dX5_countNets_23 0 rfl ?_
  refine aw_callFI (cells2 := 0) (slots2 := 0) (Wx := (fun u25 => (wX5 cy o ad oa aa or_ ar op ap (uN s x3.toNatClampNeg (some (o15, a15, l15, u25)))))) (wr := r5N cy o ad oa aa or_ ar op ap s x3.toNatClampNeg) (As := []) (rest := []) C K (mtX1_toldKind l D cy o15 a15 l15 t15 _ h) (foN cy o ad oa aa or_ ar op ap s (vp_in_lt b15) hz15) (fun u => (foN' cy o ad oa aa or_ ar op ap s (vp_in_lt b15) hz15 u)) (cwV 0 C.2.2.2.2.1 gX5_countNets_X1_toldKind rfl rfl rfl (by decide +kernel) ⟨Nat.le_of_ble_eq_true rfl, Nat.le_of_ble_eq_true rfl⟩) 0 1 (wX1_g ..) rfl rfl rfl rfl (Nat.le_of_ble_eq_true rfl) rfl rfl ⟨Nat.le_of_ble_eq_true rfl, Nat.le_of_ble_eq_true rfl⟩ dX5_countNets_25 (fun r25 u25 h => ?_)
  obtain ⟨h, hu25⟩ := h
  refine aw_perm (w1 := (wX5 cy o ad oa aa or_ ar op ap s)) (by show ((wX5 cy o ad oa aa or_ ar op ap (uN s x3.toNatClampNeg (some (o15, a15, l15, u25))))).Perm _; rw [hu25, uN_self hz15] <;> exact List.Perm.refl _) ?_
  refine aw_iload_n C dX5_countNets_28 2 rfl ?_
  refine aw_callS (As := [.int r25, .int x1]) (rest := []) C (mtX5_countsAs l r25 x1 _ h) (va_cwS 2 C.2.2.2.2.1 gX5_countNets_X5_countsAs rfl rfl rfl (by decide +kernel) ⟨Nat.le_of_ble_eq_true rfl, Nat.le_of_ble_eq_true rfl⟩) rfl rfl (Nat.le_of_ble_eq_true rfl) ⟨rfl, rfl⟩ ⟨Nat.zero_le _, Nat.zero_le _⟩ dX5_countNets_29 (fun r29 h => ?_)
  refine aw_if_eq (tgt := 38) C dX5_countNets_32 (by decide) (fun c32 => ?_) (fun c32 => ?_)
  · have h := h.1 c32
    obtain ⟨x3_38, ex3_38⟩ : ∃ y : Int32, y = x3 + 1 := ⟨_, rfl⟩
    have h := h x3_38 ex3_38
    refine aw_iinc (v := x3_38) (lv' := [(3, .int x3_38), (4, .ref o15), (0, .ref o), (1, .int x1), (2, .int x2)]) C dX5_countNets_38 4 rfl (by rw [ex3_38]; rfl) (by decide) rfl ?_
    refine aw_goto (tgt := 4) C dX5_countNets_41 (by decide) ?_
    refine aw_lv [2, 3, 4, 0] rfl ?_
    exact hkH x2 x3_38 h
  have h := h.2 c32
  obtain ⟨x2_35, ex2_35⟩ : ∃ y : Int32, y = x2 + 1 := ⟨_, rfl⟩
  have h := h x2_35 ex2_35
  refine aw_iinc (v := x2_35) (lv' := [(2, .int x2_35), (4, .ref o15), (0, .ref o), (1, .int x1), (3, .int x3)]) C dX5_countNets_35 3 rfl (by rw [ex2_35]; rfl) (by decide) rfl ?_
  obtain ⟨x3_38, ex3_38⟩ : ∃ y : Int32, y = x3 + 1 := ⟨_, rfl⟩
  have h := h x3_38 ex3_38
  refine aw_iinc (v := x3_38) (lv' := [(3, .int x3_38), (2, .int x2_35), (4, .ref o15), (0, .ref o), (1, .int x1)]) C dX5_countNets_38 4 rfl (by rw [ex3_38]; rfl) (by decide) rfl ?_
  refine aw_goto (tgt := 4) C dX5_countNets_41 (by decide) ?_
  refine aw_lv [3, 4, 1, 0] rfl ?_
  exact hkH x2_35 x3_38 h
theorem tlX5_countNets_4 (C : ctB p s0 m args c cX5_countNets 5 RX5 wsX5_countNets) (K : ctK s0 D A H0 cy) {o : Nat} {ad : Nat → Nat} {oa : Nat} {aa : Nat → Nat} {or_ : Nat} {ar : Nat → Nat} {op : Nat} {ap : Nat → Nat}  {s : TS} {x1 : Int32} {k44 : Int32 → Prop} (hk44 : ∀ (y2 : Int32), k44 y2 → atG p l e rmX5_countNets s0 m args below meth c 0 0 Z 5 (iW D A H0 (wX5 cy o ad oa aa or_ ar op ap s)) [(0, .ref o), (2, .int y2)] [] 44) (x2 : Int32) (x3 : Int32) (h : lX5_countNets_4 s x1 k44 x2 x3) : atG p l e rmX5_countNets s0 m args below meth c 0 0 Z 5 (iW D A H0 (wX5 cy o ad oa aa or_ ar op ap s)) [(0, .ref o), (1, .int x1), (2, .int x2), (3, .int x3)] [] 4 :=
  lp_W (σ := Int32 × Int32) (P := fun q => atG p l e rmX5_countNets s0 m args below meth c 0 0 Z 5 (iW D A H0 (wX5 cy o ad oa aa or_ ar op ap s)) [(0, .ref o), (1, .int x1), (2, .int q.1), (3, .int q.2)] [] 4) (fun K2 hK2 q hb => tbX5_countNets_4 C K hk44 (fun x2 x3 hk => hK2 (x2, x3) hk) q.1 q.2 hb) (x2, x3) h
theorem eX5_countNets (C : ctB p s0 m args c cX5_countNets 5 RX5 wsX5_countNets) (K : ctK s0 D A H0 cy) {o : Nat} {ad : Nat → Nat} {oa : Nat} {aa : Nat → Nat} {or_ : Nat} {ar : Nat → Nat} {op : Nat} {ap : Nat → Nat} {Q : Int32 → Prop} (s : TS) (hQ : ∀ (v : Int32), Q v → ∀ pc, decode cX5_countNets pc = .ok (.ireturn, 1) → atG p l e rmX5_countNets s0 m args below meth c 0 0 Z 5 (iW D A H0 (wX5 cy o ad oa aa or_ ar op ap s)) [] [.int v] pc) (x1 : Int32) (h : pX5_countNets  s x1 Q) : atG p l e rmX5_countNets s0 m args below meth c 0 0 Z 5 (iW D A H0 (wX5 cy o ad oa aa or_ ar op ap s)) [(0, .ref o), (1, .int x1)] [] 0 := by
  delta pX5_countNets at h
  refine aw_iconst (v := 0) C dX5_countNets_0 (by decide) ?_
  refine aw_istore_n (lv' := [(2, .int 0), (0, .ref o), (1, .int x1)]) C dX5_countNets_1 (by decide) rfl ?_
  refine aw_iconst (v := 0) C dX5_countNets_2 (by decide) ?_
  refine aw_istore_n (lv' := [(3, .int 0), (2, .int 0), (0, .ref o), (1, .int x1)]) C dX5_countNets_3 (by decide) rfl ?_
  refine aw_lv [2, 3, 1, 0] rfl ?_
  refine tlX5_countNets_4 C K ?_ 0 0 h
  intro z44_2 h
  refine aw_iload_n C dX5_countNets_44 1 rfl ?_
  refine aw_lv [] rfl ?_
  exact hQ z44_2 h 45 dX5_countNets_45
end SX5_countNets
theorem mtX5_countNets (l : Launch) (D : va_G) (cy : Nat → ClassId) (o : Nat) (ad : Nat → Nat) (oa : Nat) (aa : Nat → Nat) (or_ : Nat) (ar : Nat → Nat) (op : Nat) (ap : Nat → Nat) (s : TS) (x1 : Int32) (Q : Int32 → Prop) (hw : pX5_countNets  s x1 Q) : mI l yX5_countNets wsX5_countNets rmX5_countNets D cy [.ref o, .int x1] (wX5 cy o ad oa aa or_ ar op ap s) (wX5 cy o ad oa aa or_ ar op ap) (fun r u => Q r ∧ u = s) :=
  metI (Wd := wX5 cy o ad oa aa or_ ar op ap) ⟨rfl, rfl⟩ (by decide) rfl (Nat.le_of_ble_eq_true rfl) (fun C K hQ => eX5_countNets C K s (fun v hq => hQ v s ⟨hq, rfl⟩) x1 hw)
def rmX5_countCalls : Room := { frames := 0, cells := 0, slots := 0, locals := 0 }
theorem inX5_countCalls_1 : ∀ w ∈ wsX10, w ∈ wsX5_countCalls := fun w h => (List.mem_cons_of_mem _ (List.mem_append_right _ h))
theorem inX5_countCalls_5 : ∀ w ∈ wsX50, w ∈ wsX5_countCalls := fun w h => (List.mem_cons_of_mem _ (List.mem_append_left _ (List.mem_append_right _ h)))
theorem qX5_countCalls_fieldLink_RX5_17 : Cond.fieldLink RX5 17 "StageSwitch" "shelf" "[LStageSwitch$Net;" ∈ wsX5_countCalls := (List.mem_cons_of_mem _ (List.mem_append_left _ (List.mem_append_left _ (List.mem_of_getElem? (i := 0) rfl))))
theorem qX5_countCalls_fieldLink_RX5_205 : Cond.fieldLink RX5 205 "StageSwitch$Net" "calls" "I" ∈ wsX5_countCalls := (List.mem_cons_of_mem _ (List.mem_append_left _ (List.mem_append_left _ (List.mem_of_getElem? (i := 1) rfl))))
section SX5_countCalls
variable {p : Program} {l : Launch} {e : Env} {s0 : State} {m : MethodId} {args : Array Value} {below : List Frame} {meth : Method} {c : Code} {D : va_G} {A : Nat → Prop} {H0 : Heap} {cy : Nat → ClassId} {Z : State → Prop}
theorem tbX5_countCalls_4 (C : ctB p s0 m args c cX5_countCalls 4 RX5 wsX5_countCalls) (K : ctK s0 D A H0 cy) {o : Nat} {ad : Nat → Nat} {oa : Nat} {aa : Nat → Nat} {or_ : Nat} {ar : Nat → Nat} {op : Nat} {ap : Nat → Nat}  {s : TS} {k34 : Int32 → Prop} (hk34 : ∀ (y1 : Int32), k34 y1 → atG p l e rmX5_countCalls s0 m args below meth c 0 0 Z 4 (iW D A H0 (wX5 cy o ad oa aa or_ ar op ap s)) [(0, .ref o), (1, .int y1)] [] 34) {kH : Int32 → Int32 → Prop} (hkH : ∀ (y1 : Int32) (y2 : Int32), kH y1 y2 → atG p l e rmX5_countCalls s0 m args below meth c 0 0 Z 4 (iW D A H0 (wX5 cy o ad oa aa or_ ar op ap s)) [(0, .ref o), (1, .int y1), (2, .int y2)] [] 4) (x1 : Int32) (x2 : Int32) (h : bX5_countCalls_4 s k34 kH x1 x2) : atG p l e rmX5_countCalls s0 m args below meth c 0 0 Z 4 (iW D A H0 (wX5 cy o ad oa aa or_ ar op ap s)) [(0, .ref o), (1, .int x1), (2, .int x2)] [] 4 := by
  delta bX5_countCalls_4 at h
  refine aw_iload_n C dX5_countCalls_4 2 rfl ?_
  refine aw_bipush (v := 6) C dX5_countCalls_5 (by decide) ?_
  refine aw_icmp_ge (tgt := 34) C dX5_countCalls_7 (by decide) (fun c7 => ?_) (fun c7 => ?_)
  · have h := h.1 c7
    refine aw_lv [0, 1] rfl ?_
    exact hk34 x1 h
  have h := h.2 c7
  refine aw_aload_n C dX5_countCalls_10 0 rfl ?_
  refine aw_getX5 C K inX5_countCalls_5 dX5_countCalls_11 1 (by decide) qX5_countCalls_fieldLink_RX5_17 0 (g5 ..) rfl ?_
  refine aw_iload_n C dX5_countCalls_14 2 rfl ?_
  obtain ⟨b15, h⟩ := h
  rcases hz15 : tN s x2.toNatClampNeg with _ | ⟨o15, a15, l15, t15⟩
  · have h := h.1 hz15
    refine aw_aaldN C K dX5_countCalls_15 2 5 (g5N ..) rfl b15 (by show Option.map _ _ = _; rw [hz15]; rfl) ?_
    refine aw_astore_nN (lv' := [(3, .null), (0, .ref o), (1, .int x1), (2, .int x2)]) C dX5_countCalls_16 (by decide) rfl ?_
    refine aw_aload_nN C dX5_countCalls_17 0 rfl ?_
    refine aw_ifnullN (tgt := 28) C dX5_countCalls_18 (by decide) ?_
    obtain ⟨x2_28, ex2_28⟩ : ∃ y : Int32, y = x2 + 1 := ⟨_, rfl⟩
    have h := h x2_28 ex2_28
    refine aw_iinc (v := x2_28) (lv' := [(2, .int x2_28), (3, .null), (0, .ref o), (1, .int x1)]) C dX5_countCalls_28 3 rfl (by rw [ex2_28]; rfl) (by decide) rfl ?_
    refine aw_goto (tgt := 4) C dX5_countCalls_31 (by decide) ?_
    refine aw_lv [2, 3, 0] rfl ?_
    exact hkH x1 x2_28 h
  have h := h.2 o15 a15 l15 t15 hz15
  refine aw_aaldS (r := o15) C K dX5_countCalls_15 2 5 (g5N ..) rfl b15 (by show Option.map _ _ = _; rw [hz15]; rfl) ?_
  refine aw_astore_n (lv' := [(3, .ref o15), (0, .ref o), (1, .int x1), (2, .int x2)]) C dX5_countCalls_16 (by decide) rfl ?_
  refine aw_aload_n C dX5_countCalls_17 0 rfl ?_
  refine aw_ifnull C dX5_countCalls_18 ?_
  refine aw_iload_n C dX5_countCalls_21 2 rfl ?_
  refine aw_aload_n C dX5_countCalls_22 0 rfl ?_
  refine aw_perm (w1 := wX1 cy o15 a15 l15 t15 ++ r5N cy o ad oa aa or_ ar op ap s x2.toNatClampNeg) (foN cy o ad oa aa or_ ar op ap s (vp_in_lt b15) hz15) ?_
  refine aw_getX1 C K inX5_countCalls_1 dX5_countCalls_23 14 (by decide) qX5_countCalls_fieldLink_RX5_205 0 (wX1_ag ..) rfl ?_
  refine aw_perm (w1 := (wX5 cy o ad oa aa or_ ar op ap s)) (foN cy o ad oa aa or_ ar op ap s (vp_in_lt b15) hz15).symm ?_
  refine aw_iadd C dX5_countCalls_26 ?_
  refine aw_name (fun x1_27 ex1_27 => ?_)
  have h := h x1_27 ex1_27
  refine aw_istore_n (lv' := [(1, .int x1_27), (3, .ref o15), (0, .ref o), (2, .int x2)]) C dX5_countCalls_27 (by decide) rfl ?_
  obtain ⟨x2_28, ex2_28⟩ : ∃ y : Int32, y = x2 + 1 := ⟨_, rfl⟩
  have h := h x2_28 ex2_28
  refine aw_iinc (v := x2_28) (lv' := [(2, .int x2_28), (1, .int x1_27), (3, .ref o15), (0, .ref o)]) C dX5_countCalls_28 3 rfl (by rw [ex2_28]; rfl) (by decide) rfl ?_
  refine aw_goto (tgt := 4) C dX5_countCalls_31 (by decide) ?_
  refine aw_lv [3, 1, 0] rfl ?_
  exact hkH x1_27 x2_28 h
theorem tlX5_countCalls_4 (C : ctB p s0 m args c cX5_countCalls 4 RX5 wsX5_countCalls) (K : ctK s0 D A H0 cy) {o : Nat} {ad : Nat → Nat} {oa : Nat} {aa : Nat → Nat} {or_ : Nat} {ar : Nat → Nat} {op : Nat} {ap : Nat → Nat}  {s : TS} {k34 : Int32 → Prop} (hk34 : ∀ (y1 : Int32), k34 y1 → atG p l e rmX5_countCalls s0 m args below meth c 0 0 Z 4 (iW D A H0 (wX5 cy o ad oa aa or_ ar op ap s)) [(0, .ref o), (1, .int y1)] [] 34) (x1 : Int32) (x2 : Int32) (h : lX5_countCalls_4 s k34 x1 x2) : atG p l e rmX5_countCalls s0 m args below meth c 0 0 Z 4 (iW D A H0 (wX5 cy o ad oa aa or_ ar op ap s)) [(0, .ref o), (1, .int x1), (2, .int x2)] [] 4 :=
  lp_W (σ := Int32 × Int32) (P := fun q => atG p l e rmX5_countCalls s0 m args below meth c 0 0 Z 4 (iW D A H0 (wX5 cy o ad oa aa or_ ar op ap s)) [(0, .ref o), (1, .int q.1), (2, .int q.2)] [] 4) (fun K2 hK2 q hb => tbX5_countCalls_4 C K hk34 (fun x1 x2 hk => hK2 (x1, x2) hk) q.1 q.2 hb) (x1, x2) h
theorem eX5_countCalls (C : ctB p s0 m args c cX5_countCalls 4 RX5 wsX5_countCalls) (K : ctK s0 D A H0 cy) {o : Nat} {ad : Nat → Nat} {oa : Nat} {aa : Nat → Nat} {or_ : Nat} {ar : Nat → Nat} {op : Nat} {ap : Nat → Nat} {Q : Int32 → Prop} (s : TS) (hQ : ∀ (v : Int32), Q v → ∀ pc, decode cX5_countCalls pc = .ok (.ireturn, 1) → atG p l e rmX5_countCalls s0 m args below meth c 0 0 Z 4 (iW D A H0 (wX5 cy o ad oa aa or_ ar op ap s)) [] [.int v] pc)  (h : pX5_countCalls  s Q) : atG p l e rmX5_countCalls s0 m args below meth c 0 0 Z 4 (iW D A H0 (wX5 cy o ad oa aa or_ ar op ap s)) [(0, .ref o)] [] 0 := by
  delta pX5_countCalls at h
  refine aw_iconst (v := 0) C dX5_countCalls_0 (by decide) ?_
  refine aw_istore_n (lv' := [(1, .int 0), (0, .ref o)]) C dX5_countCalls_1 (by decide) rfl ?_
  refine aw_iconst (v := 0) C dX5_countCalls_2 (by decide) ?_
  refine aw_istore_n (lv' := [(2, .int 0), (1, .int 0), (0, .ref o)]) C dX5_countCalls_3 (by decide) rfl ?_
  refine aw_lv [2, 1, 0] rfl ?_
  refine tlX5_countCalls_4 C K ?_ 0 0 h
  intro z34_1 h
  refine aw_iload_n C dX5_countCalls_34 1 rfl ?_
  refine aw_lv [] rfl ?_
  exact hQ z34_1 h 35 dX5_countCalls_35
end SX5_countCalls
theorem mtX5_countCalls (l : Launch) (D : va_G) (cy : Nat → ClassId) (o : Nat) (ad : Nat → Nat) (oa : Nat) (aa : Nat → Nat) (or_ : Nat) (ar : Nat → Nat) (op : Nat) (ap : Nat → Nat) (s : TS)  (Q : Int32 → Prop) (hw : pX5_countCalls  s Q) : mI l yX5_countCalls wsX5_countCalls rmX5_countCalls D cy [.ref o] (wX5 cy o ad oa aa or_ ar op ap s) (wX5 cy o ad oa aa or_ ar op ap) (fun r u => Q r ∧ u = s) :=
  metI (Wd := wX5 cy o ad oa aa or_ ar op ap) ⟨rfl, rfl⟩ (by decide) rfl (Nat.le_of_ble_eq_true rfl) (fun C K hQ => eX5_countCalls C K s (fun v hq => hQ v s ⟨hq, rfl⟩) hw)
def rmX5_count : Room := { frames := 2, cells := 0, slots := 0, locals := 45 }
theorem inX5_count_1 : ∀ w ∈ wsX10, w ∈ wsX5_count := fun w h => (List.mem_cons_of_mem _ (List.mem_append_right _ h))
theorem inX5_count_5 : ∀ w ∈ wsX50, w ∈ wsX5_count := fun w h => (List.mem_cons_of_mem _ (List.mem_append_left _ (List.mem_append_right _ h)))
theorem qX5_count_constant_RX5_54_1000001 : Cond.constant RX5 54 (-1000001) ∈ wsX5_count := (List.mem_cons_of_mem _ (List.mem_append_left _ (List.mem_append_left _ (List.mem_append_left _ (List.mem_of_getElem? (i := 0) rfl)))))
section SX5_count
variable {p : Program} {l : Launch} {e : Env} {s0 : State} {m : MethodId} {args : Array Value} {below : List Frame} {meth : Method} {c : Code} {D : va_G} {A : Nat → Prop} {H0 : Heap} {cy : Nat → ClassId} {Z : State → Prop}
theorem eX5_count (C : ctB p s0 m args c cX5_count 2 RX5 wsX5_count) (K : ctK s0 D A H0 cy) {o : Nat} {ad : Nat → Nat} {oa : Nat} {aa : Nat → Nat} {or_ : Nat} {ar : Nat → Nat} {op : Nat} {ap : Nat → Nat} {Q : Int32 → Prop} (s : TS) (hQ : ∀ (v : Int32), Q v → ∀ pc, decode cX5_count pc = .ok (.ireturn, 1) → atG p l e rmX5_count s0 m args below meth c 0 0 Z 2 (iW D A H0 (wX5 cy o ad oa aa or_ ar op ap s)) [] [.int v] pc) (x1 : Int32) (h : pX5_count  s x1 Q) : atG p l e rmX5_count s0 m args below meth c 0 0 Z 2 (iW D A H0 (wX5 cy o ad oa aa or_ ar op ap s)) [(0, .ref o), (1, .int x1)] [] 0 := by
  delta pX5_count at h
  refine aw_iload_n C dX5_count_0 1 rfl ?_
  by_cases c1_0 : x1 = 0
  · refine aw_tabIn (tgt := 40) C dX5_count_1 c1_0 (by decide) (by decide) rfl (by decide) ?_
    have h := h.1 c1_0
    refine aw_aload_n C dX5_count_40 0 rfl ?_
    refine aw_callFI (cells2 := 0) (slots2 := 0) (Wx := wX5 cy o ad oa aa or_ ar op ap) (wr := []) (As := []) (rest := []) C K (mtX5_countSheets l D cy o ad oa aa or_ ar op ap s _ h) (permNil _) (fun u => permNil _) (cwV 0 C.2.2.2.2.1 gX5_count_X5_countSheets rfl rfl rfl (by decide +kernel) ⟨Nat.le_of_ble_eq_true rfl, Nat.le_of_ble_eq_true rfl⟩) 0 5 (g5 ..) rfl rfl rfl rfl (Nat.le_of_ble_eq_true rfl) rfl rfl ⟨Nat.le_of_ble_eq_true rfl, Nat.le_of_ble_eq_true rfl⟩ dX5_count_41 (fun r41 s41 h => ?_)
    obtain ⟨h, hu41⟩ := h
    rw [hu41]
    refine aw_lv [] rfl ?_
    exact hQ r41 h 44 dX5_count_44
  have h := h.2 c1_0
  by_cases c1_1 : x1 = 1
  · refine aw_tabIn (tgt := 45) C dX5_count_1 c1_1 (by decide) (by decide) rfl (by decide) ?_
    have h := h.1 c1_1
    refine aw_aload_n C dX5_count_45 0 rfl ?_
    refine aw_iconst (v := 0) C dX5_count_46 (by decide) ?_
    refine aw_callFI (cells2 := 0) (slots2 := 0) (Wx := wX5 cy o ad oa aa or_ ar op ap) (wr := []) (As := [.int 0]) (rest := []) C K (mtX5_countNets l D cy o ad oa aa or_ ar op ap s 0 _ h) (permNil _) (fun u => permNil _) (cwV 1 C.2.2.2.2.1 gX5_count_X5_countNets rfl rfl rfl (by decide +kernel) ⟨Nat.le_of_ble_eq_true rfl, Nat.le_of_ble_eq_true rfl⟩) 0 5 (g5 ..) rfl rfl rfl rfl (Nat.le_of_ble_eq_true rfl) rfl rfl ⟨Nat.le_of_ble_eq_true rfl, Nat.le_of_ble_eq_true rfl⟩ dX5_count_47 (fun r47 s47 h => ?_)
    obtain ⟨h, hu47⟩ := h
    rw [hu47]
    refine aw_lv [] rfl ?_
    exact hQ r47 h 50 dX5_count_50
  have h := h.2 c1_1
  by_cases c1_2 : x1 = 2
  · refine aw_tabIn (tgt := 51) C dX5_count_1 c1_2 (by decide) (by decide) rfl (by decide) ?_
    have h := h.1 c1_2
    refine aw_aload_n C dX5_count_51 0 rfl ?_
    refine aw_iconst (v := 1) C dX5_count_52 (by decide) ?_
    refine aw_callFI (cells2 := 0) (slots2 := 0) (Wx := wX5 cy o ad oa aa or_ ar op ap) (wr := []) (As := [.int 1]) (rest := []) C K (mtX5_countNets l D cy o ad oa aa or_ ar op ap s 1 _ h) (permNil _) (fun u => permNil _) (cwV 1 C.2.2.2.2.1 gX5_count_X5_countNets rfl rfl rfl (by decide +kernel) ⟨Nat.le_of_ble_eq_true rfl, Nat.le_of_ble_eq_true rfl⟩) 0 5 (g5 ..) rfl rfl rfl rfl (Nat.le_of_ble_eq_true rfl) rfl rfl ⟨Nat.le_of_ble_eq_true rfl, Nat.le_of_ble_eq_true rfl⟩ dX5_count_53 (fun r53 s53 h => ?_)
    obtain ⟨h, hu53⟩ := h
    rw [hu53]
    refine aw_lv [] rfl ?_
    exact hQ r53 h 56 dX5_count_56
  have h := h.2 c1_2
  by_cases c1_3 : x1 = 3
  · refine aw_tabIn (tgt := 57) C dX5_count_1 c1_3 (by decide) (by decide) rfl (by decide) ?_
    have h := h.1 c1_3
    refine aw_aload_n C dX5_count_57 0 rfl ?_
    refine aw_iconst (v := 2) C dX5_count_58 (by decide) ?_
    refine aw_callFI (cells2 := 0) (slots2 := 0) (Wx := wX5 cy o ad oa aa or_ ar op ap) (wr := []) (As := [.int 2]) (rest := []) C K (mtX5_countNets l D cy o ad oa aa or_ ar op ap s 2 _ h) (permNil _) (fun u => permNil _) (cwV 1 C.2.2.2.2.1 gX5_count_X5_countNets rfl rfl rfl (by decide +kernel) ⟨Nat.le_of_ble_eq_true rfl, Nat.le_of_ble_eq_true rfl⟩) 0 5 (g5 ..) rfl rfl rfl rfl (Nat.le_of_ble_eq_true rfl) rfl rfl ⟨Nat.le_of_ble_eq_true rfl, Nat.le_of_ble_eq_true rfl⟩ dX5_count_59 (fun r59 s59 h => ?_)
    obtain ⟨h, hu59⟩ := h
    rw [hu59]
    refine aw_lv [] rfl ?_
    exact hQ r59 h 62 dX5_count_62
  have h := h.2 c1_3
  by_cases c1_4 : x1 = 4
  · refine aw_tabIn (tgt := 63) C dX5_count_1 c1_4 (by decide) (by decide) rfl (by decide) ?_
    have h := h.1 c1_4
    refine aw_aload_n C dX5_count_63 0 rfl ?_
    refine aw_iconst (v := 3) C dX5_count_64 (by decide) ?_
    refine aw_callFI (cells2 := 0) (slots2 := 0) (Wx := wX5 cy o ad oa aa or_ ar op ap) (wr := []) (As := [.int 3]) (rest := []) C K (mtX5_countNets l D cy o ad oa aa or_ ar op ap s 3 _ h) (permNil _) (fun u => permNil _) (cwV 1 C.2.2.2.2.1 gX5_count_X5_countNets rfl rfl rfl (by decide +kernel) ⟨Nat.le_of_ble_eq_true rfl, Nat.le_of_ble_eq_true rfl⟩) 0 5 (g5 ..) rfl rfl rfl rfl (Nat.le_of_ble_eq_true rfl) rfl rfl ⟨Nat.le_of_ble_eq_true rfl, Nat.le_of_ble_eq_true rfl⟩ dX5_count_65 (fun r65 s65 h => ?_)
    obtain ⟨h, hu65⟩ := h
    rw [hu65]
    refine aw_lv [] rfl ?_
    exact hQ r65 h 68 dX5_count_68
  have h := h.2 c1_4
  by_cases c1_5 : x1 = 5
  · refine aw_tabIn (tgt := 69) C dX5_count_1 c1_5 (by decide) (by decide) rfl (by decide) ?_
    have h := h.1 c1_5
    refine aw_aload_n C dX5_count_69 0 rfl ?_
    refine aw_callFI (cells2 := 0) (slots2 := 0) (Wx := wX5 cy o ad oa aa or_ ar op ap) (wr := []) (As := []) (rest := []) C K (mtX5_countCalls l D cy o ad oa aa or_ ar op ap s _ h) (permNil _) (fun u => permNil _) (cwV 0 C.2.2.2.2.1 gX5_count_X5_countCalls rfl rfl rfl (by decide +kernel) ⟨Nat.le_of_ble_eq_true rfl, Nat.le_of_ble_eq_true rfl⟩) 0 5 (g5 ..) rfl rfl rfl rfl (Nat.le_of_ble_eq_true rfl) rfl rfl ⟨Nat.le_of_ble_eq_true rfl, Nat.le_of_ble_eq_true rfl⟩ dX5_count_70 (fun r70 s70 h => ?_)
    obtain ⟨h, hu70⟩ := h
    rw [hu70]
    refine aw_lv [] rfl ?_
    exact hQ r70 h 73 dX5_count_73
  have h := h.2 c1_5
  refine aw_tabOut (tgt := 74) C dX5_count_1 (tab_out 0 6 (by decide) (fun j hj => match j, hj with | 0, _ => fun e => c1_0 (Int32.toInt_inj.mp (e.trans (by decide))) | 1, _ => fun e => c1_1 (Int32.toInt_inj.mp (e.trans (by decide))) | 2, _ => fun e => c1_2 (Int32.toInt_inj.mp (e.trans (by decide))) | 3, _ => fun e => c1_3 (Int32.toInt_inj.mp (e.trans (by decide))) | 4, _ => fun e => c1_4 (Int32.toInt_inj.mp (e.trans (by decide))) | 5, _ => fun e => c1_5 (Int32.toInt_inj.mp (e.trans (by decide))) | j + 6, hj => absurd hj (by omega))) (by decide) ?_
  refine aw_ldc (v := (-1000001)) C dX5_count_74 qX5_count_constant_RX5_54_1000001 ?_
  refine aw_lv [] rfl ?_
  exact hQ (-1000001) h 76 dX5_count_76
end SX5_count
theorem mtX5_count (l : Launch) (D : va_G) (cy : Nat → ClassId) (o : Nat) (ad : Nat → Nat) (oa : Nat) (aa : Nat → Nat) (or_ : Nat) (ar : Nat → Nat) (op : Nat) (ap : Nat → Nat) (s : TS) (x1 : Int32) (Q : Int32 → Prop) (hw : pX5_count  s x1 Q) : mI l yX5_count wsX5_count rmX5_count D cy [.ref o, .int x1] (wX5 cy o ad oa aa or_ ar op ap s) (wX5 cy o ad oa aa or_ ar op ap) (fun r u => Q r ∧ u = s) :=
  metI (Wd := wX5 cy o ad oa aa or_ ar op ap) ⟨rfl, rfl⟩ (by decide) rfl (Nat.le_of_ble_eq_true rfl) (fun C K hQ => eX5_count C K s (fun v hq => hQ v s ⟨hq, rfl⟩) x1 hw)
def rmX5_status : Room := { frames := 0, cells := 0, slots := 0, locals := 0 }
theorem inX5_status_5 : ∀ w ∈ wsX50, w ∈ wsX5_status := fun w h => (List.mem_cons_of_mem _ (List.mem_append_right _ h))
theorem qX5_status_fieldLink_RX5_42 : Cond.fieldLink RX5 42 "StageSwitch" "latestFinding" "I" ∈ wsX5_status := (List.mem_cons_of_mem _ (List.mem_append_left _ (List.mem_of_getElem? (i := 0) rfl)))
section SX5_status
variable {p : Program} {l : Launch} {e : Env} {s0 : State} {m : MethodId} {args : Array Value} {below : List Frame} {meth : Method} {c : Code} {D : va_G} {A : Nat → Prop} {H0 : Heap} {cy : Nat → ClassId} {Z : State → Prop}
theorem eX5_status (C : ctB p s0 m args c cX5_status 1 RX5 wsX5_status) (K : ctK s0 D A H0 cy) {o : Nat} {ad : Nat → Nat} {oa : Nat} {aa : Nat → Nat} {or_ : Nat} {ar : Nat → Nat} {op : Nat} {ap : Nat → Nat} {Q : Int32 → Prop} (s : TS) (hQ : ∀ (v : Int32), Q v → ∀ pc, decode cX5_status pc = .ok (.ireturn, 1) → atG p l e rmX5_status s0 m args below meth c 0 0 Z 1 (iW D A H0 (wX5 cy o ad oa aa or_ ar op ap s)) [] [.int v] pc)  (h : pX5_status  s Q) : atG p l e rmX5_status s0 m args below meth c 0 0 Z 1 (iW D A H0 (wX5 cy o ad oa aa or_ ar op ap s)) [(0, .ref o)] [] 0 := by
  delta pX5_status at h
  refine aw_aload_n C dX5_status_0 0 rfl ?_
  refine aw_getX5 C K inX5_status_5 dX5_status_1 5 (by decide) qX5_status_fieldLink_RX5_42 0 (g5 ..) rfl ?_
  refine aw_lv [] rfl ?_
  exact hQ (sF (tX s) 5) h 4 dX5_status_4
end SX5_status
theorem mtX5_status (l : Launch) (D : va_G) (cy : Nat → ClassId) (o : Nat) (ad : Nat → Nat) (oa : Nat) (aa : Nat → Nat) (or_ : Nat) (ar : Nat → Nat) (op : Nat) (ap : Nat → Nat) (s : TS)  (Q : Int32 → Prop) (hw : pX5_status  s Q) : mI l yX5_status wsX5_status rmX5_status D cy [.ref o] (wX5 cy o ad oa aa or_ ar op ap s) (wX5 cy o ad oa aa or_ ar op ap) (fun r u => Q r ∧ u = s) :=
  metI (Wd := wX5 cy o ad oa aa or_ ar op ap) ⟨rfl, rfl⟩ (by decide) rfl (Nat.le_of_ble_eq_true rfl) (fun C K hQ => eX5_status C K s (fun v hq => hQ v s ⟨hq, rfl⟩) hw)
