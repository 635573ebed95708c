section START
variable {p : Program} {e : Env} {s : State} {m : MethodId} {below : List Frame} {meth : Method} {c : Code} {b L : Nat} {xs : Nat → Int32}
set_option maxRecDepth 100000 in
theorem law_start (l : Launch) (hL : L ≤ 3072) (C0 : lw_At p s m meth c b L xs) {Rel : TS → St → Prop} (H : stepsOK Rel) : W p l e room_1 s m #[Value.ref b] below meth c s.heap [] 0 0 (lw_Z below #[Value.ref b] s) (entryFrame m ([Value.ref b] : List Value).toArray 4) := by
  obtain ⟨hx, hb, hr, hml, hown, hts, hX, hbl, hlocks, hgv⟩ := id C0
  obtain ⟨c0, iS0, hKn0⟩ := u_known (C := RX0) (T := TX0) (N := 2) (n := 2) hts inX0 (hts (.instantiable RX0 2) (wsL_law_in _ (List.mem_append_left _ (List.mem_append_left _ (List.mem_append_left _ (List.mem_append_left _ (List.mem_append_left _ (List.mem_append_left _ (List.mem_append_left _ (List.mem_append_left _ (List.mem_append_left _ (List.mem_of_getElem? (i := 17) rfl))))))))))))
  obtain ⟨c1, iS1, hKn1⟩ := u_known (C := RX1) (T := TX1) (N := 17) (n := 17) hts inX1 (hts (.instantiable RX1 17) (wsL_law_in _ (List.mem_append_left _ (List.mem_append_left _ (List.mem_append_left _ (List.mem_append_left _ (List.mem_append_left _ (List.mem_append_left _ (List.mem_append_left _ (List.mem_append_left _ (List.mem_append_right _ (List.mem_append_right _ (List.mem_append_right _ (List.mem_append_right _ (List.mem_append_right _ (List.mem_append_right _ (List.mem_append_left _ (List.mem_of_getElem? (i := 23) rfl))))))))))))))))))
  obtain ⟨c2, iS2, hKn2⟩ := u_known (C := RX2) (T := TX2) (N := 4) (n := 4) hts inX2 (hts (.instantiable RX2 4) (wsL_law_in _ (List.mem_append_left _ (List.mem_append_left _ (List.mem_append_left _ (List.mem_append_left _ (List.mem_append_left _ (List.mem_append_left _ (List.mem_append_left _ (List.mem_append_left _ (List.mem_append_right _ (List.mem_append_left _ (List.mem_of_getElem? (i := 1) rfl)))))))))))))
  obtain ⟨c3, iS3, hKn3⟩ := u_known (C := RX3) (T := TX3) (N := 4) (n := 4) hts inX3 (hts (.instantiable RX3 4) (wsL_law_in _ (List.mem_append_left _ (List.mem_append_left _ (List.mem_append_left _ (List.mem_append_left _ (List.mem_append_left _ (List.mem_append_left _ (List.mem_append_left _ (List.mem_append_left _ (List.mem_append_left _ (List.mem_of_getElem? (i := 21) rfl))))))))))))
  obtain ⟨c4, iS4, hKn4⟩ := u_known (C := RX4) (T := TX4) (N := 2) (n := 2) hts inX4 (hts (.instantiable RX4 2) (wsL_law_in _ (List.mem_append_left _ (List.mem_append_left _ (List.mem_append_left _ (List.mem_append_left _ (List.mem_append_left _ (List.mem_append_left _ (List.mem_append_left _ (List.mem_append_left _ (List.mem_append_right _ (List.mem_append_right _ (List.mem_append_right _ (List.mem_append_left _ (List.mem_of_getElem? (i := 10) rfl)))))))))))))))
  obtain ⟨c5, iS5, hKn5⟩ := u_known (C := RX5) (T := TX5) (N := 6) (n := 6) hts inX5 (hts (.instantiable RX5 6) (wsL_law_in _ (List.mem_append_left _ (List.mem_append_left _ (List.mem_append_left _ (List.mem_append_left _ (List.mem_append_left _ (List.mem_append_left _ (List.mem_append_left _ (List.mem_append_left _ (List.mem_append_left _ (List.mem_of_getElem? (i := 1) rfl))))))))))))
  obtain ⟨c6, iS6, hKn6⟩ := u_known (C := RX6) (T := TX6) (N := 30) (n := 30) hts inX6 (hts (.instantiable RX6 30) (wsL_law_in _ (List.mem_append_left _ (List.mem_append_left _ (List.mem_append_left _ (List.mem_append_left _ (List.mem_append_left _ (List.mem_append_left _ (List.mem_append_left _ (List.mem_append_left _ (List.mem_append_left _ (List.mem_of_getElem? (i := 4) rfl))))))))))))
  obtain ⟨dC, dI, hKc⟩ : ∃ (dC : Nat → ClassId) (dI : Nat → Nat → Nat), ∀ (k : Nat) (q : vw_C), vwCl[k]? = some q → u_Kn s q.1 q.2.1 q.2.2 (dC k) (dI k) := by
    refine ⟨fun k => if k = 0 then c0 else if k = 1 then c1 else if k = 2 then c2 else if k = 3 then c3 else if k = 4 then c4 else if k = 5 then c5 else c6, fun k => if k = 0 then iS0 else if k = 1 then iS1 else if k = 2 then iS2 else if k = 3 then iS3 else if k = 4 then iS4 else if k = 5 then iS5 else iS6, ?_⟩
    intro k q hq
    match k, hq with
    | 0, hq => cases hq; exact hKn0
    | 1, hq => cases hq; exact hKn1
    | 2, hq => cases hq; exact hKn2
    | 3, hq => cases hq; exact hKn3
    | 4, hq => cases hq; exact hKn4
    | 5, hq => cases hq; exact hKn5
    | 6, hq => cases hq; exact hKn6
    | k + 7, hq => simp [vwCl] at hq
  obtain ⟨yI, kI, pI, aI1, aI2, aI3⟩ := Cond.arrayClass_spec (type := .int) (hts _ (List.mem_of_getElem? (i := 85) rfl))
  obtain ⟨yZ, kZ, pZ, aZ1, aZ2, aZ3⟩ := Cond.arrayClass_spec (type := .boolean) (hts _ (List.mem_of_getElem? (i := 284) rfl))
  obtain ⟨yJ, kJ, pJ, aJ1, aJ2, aJ3⟩ := Cond.arrayClass_spec (type := .long) (hts _ (List.mem_of_getElem? (i := 673) rfl))
  obtain ⟨pA, yA, kA, aA1, aA2, aA3, aA4, aA5⟩ := Jvm.Stand.arrayOver_specB (t := .int) (hts _ (List.mem_of_getElem? (i := 93) rfl))
  obtain ⟨pS, yS, kS, aS1, aS2, aS3, aS4, aS5⟩ := Cond.arrayOver_spec (n := "StageSwitch$Sheet") (hts _ (List.mem_of_getElem? (i := 69) rfl))
  obtain ⟨pN, yN, kN, aN1, aN2, aN3, aN4, aN5⟩ := Cond.arrayOver_spec (n := "StageSwitch$Net") (hts _ (List.mem_of_getElem? (i := 71) rfl))
  obtain ⟨cy, ecy⟩ : ∃ z : Nat → ClassId, z = (fun k => match k with | 0 => yI | 1 => yZ | 2 => yJ | 3 => yA | 4 => yS | _ => yN) := ⟨_, rfl⟩
  have hK : va_K (dC, dI) vwCl (tyW cy) s := by
    refine ⟨hKc, fun k q hq => ?_⟩
    rw [ecy] at hq
    match k, hq with
    | 0, hq => cases hq; exact ⟨fun N z => ⟨(fun k h => by cases h), kI, aI2, pI, aI3⟩, aI1⟩
    | 1, hq => cases hq; exact ⟨fun N z => ⟨(fun k h => by cases h), kZ, aZ2, pZ, aZ3⟩, aZ1⟩
    | 2, hq => cases hq; exact ⟨fun N z => ⟨(fun k h => by cases h), kJ, aJ2, pJ, aJ3⟩, aJ1⟩
    | 3, hq => cases hq; exact ⟨fun N z => ⟨(fun k h => by cases h), kA, aA3, pA, aA4⟩, aA5⟩
    | 4, hq => cases hq; exact ⟨fun N z => ⟨(fun k h => by cases h), kS, aS3, pS, aS4⟩, kS, pS, aS3, aS4, aS1, aS5⟩
    | 5, hq => cases hq; exact ⟨fun N z => ⟨(fun k h => by cases h), kN, aN3, pN, aN4⟩, kN, pN, aN3, aN4, aN1, aN5⟩
    | k + 6, hq => simp [tyW] at hq
  have hN : nst s := by
    refine ⟨?_, Jvm.Stand.arrayOver_alikeB (Vm.Alike.refl s.vm) (hts _ (List.mem_of_getElem? (i := 93) rfl)), va_AO.moved (Vm.Alike.refl s.vm) (?_ : va_AO "StageSwitch$Sheet" s), va_AO.moved (Vm.Alike.refl s.vm) (?_ : va_AO "StageSwitch$Net" s)⟩
    · intro q hq
      simp only [nstL, List.mem_cons, List.not_mem_nil, or_false] at hq
      rcases hq with rfl | rfl | rfl | rfl | rfl | rfl | rfl
      · exact va_Nw.of rfl (hts (Cond.methodLinkNest RX5 23 yX0_init RX5) (List.mem_of_getElem? (i := 74) rfl))
      · exact va_Nw.of rfl (hts (Cond.methodLinkNest RX5 30 yX3_init RX5) (List.mem_of_getElem? (i := 88) rfl))
      · exact va_Nw.of rfl (hts (Cond.methodLinkNest RX5 37 yX2_init RX5) (List.mem_of_getElem? (i := 110) rfl))
      · exact va_Nw.of rfl (hts (Cond.methodLinkNest RX0 19 yX5_within RX5) (List.mem_of_getElem? (i := 368) rfl))
      · exact va_Nw.of rfl (hts (Cond.methodLinkNest RX1 72 yX5_within RX5) (List.mem_of_getElem? (i := 378) rfl))
      · exact va_Nw.of rfl (hts (Cond.methodLinkNest RX2 29 yX5_within RX5) (List.mem_of_getElem? (i := 519) rfl))
      · exact va_Nw.of rfl (hts (Cond.methodLinkNest RX3 31 yX5_within RX5) (List.mem_of_getElem? (i := 479) rfl))
    · exact va_AO.of (A := #[]) (Cond.arrayOver_alike (Vm.Alike.refl s.vm) (hts _ (List.mem_of_getElem? (i := 69) rfl)))
    · exact va_AO.of (A := #[]) (Cond.arrayOver_alike (Vm.Alike.refl s.vm) (hts _ (List.mem_of_getElem? (i := 71) rfl)))
  have hA : ∀ q : Nat, s.heap.size ≤ q → (fun q : Nat => s.heap.size ≤ q) q := fun _ h => h
  have hbA : ¬ (fun q : Nat => s.heap.size ≤ q) b := Nat.not_le.mpr hbl
  have C : ctB p s m #[Value.ref b] c cL_law 4 RL wsL_law := ⟨hx, hb, hml, hown, fun w hw => hts w (wsL_law_in w hw), hN⟩
  have K : ctK s (dC, dI) (fun q : Nat => s.heap.size ≤ q) s.heap cy := ⟨hK, hA⟩
  have hl := lv_entry ([.ref b]) (n := 4) (Nat.le_of_ble_eq_true rfl)
  rw [lg_entry_eq]
  suffices h0 : atG p l e room_1 s m #[Value.ref b] below meth c 0 0 (lw_Z below #[Value.ref b] s) 4 (iW (dC, dI) (fun q : Nat => s.heap.size ≤ q) s.heap []) [(0, .ref b)] [] 0 from h0 s.heap [] _ ⟨fun k q h => by simp at h, ⟨fun i j p q h => by simp at h, fun k q h => by simp at h⟩, va_S.rf⟩ hl
  have h1 : pX5_init (fun T => pX6_init (fun M => Rel T M)) := H.1
  refine aw_newX5 (fs := [.null, .null, .null, .null, .null, .int 0]) (cells2 := 1) (slots2 := 6) C K inlX5 dL_law_0 (List.mem_append_left _ (List.mem_append_left _ (List.mem_append_left _ (List.mem_append_left _ (List.mem_append_left _ (List.mem_append_left _ (List.mem_append_left _ (List.mem_append_left _ (List.mem_append_left _ (List.mem_of_getElem? (i := 0) rfl)))))))))) (List.mem_append_left _ (List.mem_append_left _ (List.mem_append_left _ (List.mem_append_left _ (List.mem_append_left _ (List.mem_append_left _ (List.mem_append_left _ (List.mem_append_left _ (List.mem_append_left _ (List.mem_of_getElem? (i := 1) rfl)))))))))) (List.mem_append_left _ (List.mem_append_left _ (List.mem_append_left _ (List.mem_append_left _ (List.mem_append_left _ (List.mem_append_left _ (List.mem_append_left _ (List.mem_append_left _ (List.mem_append_left _ (List.mem_of_getElem? (i := 2) rfl)))))))))) (fun j hj => match j, hj with | 0, _ => rfl | 1, _ => rfl | 2, _ => rfl | 3, _ => rfl | 4, _ => rfl | 5, _ => rfl | j + 6, h => absurd h (by omega)) rfl rfl ⟨Nat.le_of_ble_eq_true rfl, Nat.le_of_ble_eq_true rfl⟩ (fun o => ?_)
  refine aw_dup C dL_law_3 rfl ?_
  refine aw_callInit (Wd := iwX5 cy o) (cells2 := 30) (slots2 := 257) (Wx := iwX5 cy o) (wr := []) (As := []) (rest := [.ref o]) C K (mtX5_init l (dC, dI) cy o _ h1) (List.Perm.refl _) (fun u => permNil _) (cwI 0 C.2.2.2.2.1 gL_law_X5_init rfl rfl rfl (C.2.2.2.2.1 _ (List.mem_append_left _ (List.mem_append_left _ (List.mem_append_left _ (List.mem_append_left _ (List.mem_append_left _ (List.mem_append_left _ (List.mem_append_left _ (List.mem_append_left _ (List.mem_append_left _ (List.mem_of_getElem? (i := 2) rfl))))))))))) (C.2.2.2.2.1 _ (List.mem_append_left _ (List.mem_append_left _ (List.mem_append_left _ (List.mem_append_left _ (List.mem_append_left _ (List.mem_append_left _ (List.mem_append_left _ (List.mem_append_left _ (List.mem_append_left _ (List.mem_of_getElem? (i := 6) rfl))))))))))) (C.2.2.2.2.1 _ (List.mem_append_left _ (List.mem_append_left _ (List.mem_append_left _ (List.mem_append_left _ (List.mem_append_left _ (List.mem_append_left _ (List.mem_append_left _ (List.mem_append_left _ (List.mem_append_left _ (List.mem_of_getElem? (i := 7) rfl))))))))))) rfl (by decide +kernel) ⟨Nat.le_of_ble_eq_true rfl, Nat.le_of_ble_eq_true rfl⟩) rfl rfl (Nat.le_of_ble_eq_true rfl) rfl rfl ⟨Nat.le_of_ble_eq_true rfl, Nat.le_of_ble_eq_true rfl⟩ dL_law_4 ?_
  rintro ⟨ad, oa, aa, or_, ar, op, ap, T⟩ h2
  have h3 : pX6_init (fun M => Rel T M) := h2
  refine aw_perm (w1 := (wX5 cy o ad oa aa or_ ar op ap T)) (List.Perm.refl _) ?_
  refine aw_astore_n (lv' := [(1, .ref o), (0, .ref b)]) C dL_law_7 (by decide) rfl ?_
  refine aw_newX6 (fs := [.int 0, .int 0, .null, .null, .null, .null, .null, .null, .null, .null, .null, .null, .int 0, .int 0, .null, .int 0, .int 0, .null, .null, .null, .null, .null, .null, .null, .null, .int 0, .null, .null, .null, .null]) (cells2 := 31) (slots2 := 287) C K inlX6 dL_law_8 (List.mem_append_left _ (List.mem_append_left _ (List.mem_append_left _ (List.mem_append_left _ (List.mem_append_left _ (List.mem_append_left _ (List.mem_append_left _ (List.mem_append_left _ (List.mem_append_left _ (List.mem_of_getElem? (i := 3) rfl)))))))))) (List.mem_append_left _ (List.mem_append_left _ (List.mem_append_left _ (List.mem_append_left _ (List.mem_append_left _ (List.mem_append_left _ (List.mem_append_left _ (List.mem_append_left _ (List.mem_append_left _ (List.mem_of_getElem? (i := 4) rfl)))))))))) (List.mem_append_left _ (List.mem_append_left _ (List.mem_append_left _ (List.mem_append_left _ (List.mem_append_left _ (List.mem_append_left _ (List.mem_append_left _ (List.mem_append_left _ (List.mem_append_left _ (List.mem_of_getElem? (i := 5) rfl)))))))))) (fun j hj => match j, hj with | 0, _ => rfl | 1, _ => rfl | 2, _ => rfl | 3, _ => rfl | 4, _ => rfl | 5, _ => rfl | 6, _ => rfl | 7, _ => rfl | 8, _ => rfl | 9, _ => rfl | 10, _ => rfl | 11, _ => rfl | 12, _ => rfl | 13, _ => rfl | 14, _ => rfl | 15, _ => rfl | 16, _ => rfl | 17, _ => rfl | 18, _ => rfl | 19, _ => rfl | 20, _ => rfl | 21, _ => rfl | 22, _ => rfl | 23, _ => rfl | 24, _ => rfl | 25, _ => rfl | 26, _ => rfl | 27, _ => rfl | 28, _ => rfl | 29, _ => rfl | j + 30, h => absurd h (by omega)) rfl rfl ⟨Nat.le_of_ble_eq_true rfl, Nat.le_of_ble_eq_true rfl⟩ (fun o6 => ?_)
  refine aw_dup C dL_law_11 rfl ?_
  refine aw_callInit (Wd := iwX6 cy o6) (cells2 := 54) (slots2 := 2128) (Wx := (fun u => (wX5 cy o ad oa aa or_ ar op ap T) ++ iwX6 cy o6 u)) (wr := (wX5 cy o ad oa aa or_ ar op ap T)) (As := []) (rest := [.ref o6]) C K (mtX6_init l (dC, dI) cy o6 _ h3) List.perm_append_comm (fun u => List.perm_append_comm) (cwI 0 C.2.2.2.2.1 gL_law_X6_init rfl rfl rfl (C.2.2.2.2.1 _ (List.mem_append_left _ (List.mem_append_left _ (List.mem_append_left _ (List.mem_append_left _ (List.mem_append_left _ (List.mem_append_left _ (List.mem_append_left _ (List.mem_append_left _ (List.mem_append_left _ (List.mem_of_getElem? (i := 5) rfl))))))))))) (C.2.2.2.2.1 _ (List.mem_append_left _ (List.mem_append_left _ (List.mem_append_left _ (List.mem_append_left _ (List.mem_append_left _ (List.mem_append_left _ (List.mem_append_left _ (List.mem_append_left _ (List.mem_append_right _ (List.mem_append_right _ (List.mem_append_left _ (List.mem_of_getElem? (i := 0) rfl))))))))))))) (C.2.2.2.2.1 _ (List.mem_append_left _ (List.mem_append_left _ (List.mem_append_left _ (List.mem_append_left _ (List.mem_append_left _ (List.mem_append_left _ (List.mem_append_left _ (List.mem_append_left _ (List.mem_append_right _ (List.mem_append_right _ (List.mem_append_left _ (List.mem_of_getElem? (i := 1) rfl))))))))))))) rfl (by decide +kernel) ⟨Nat.le_of_ble_eq_true rfl, Nat.le_of_ble_eq_true rfl⟩) rfl rfl (Nat.le_of_ble_eq_true rfl) rfl rfl ⟨Nat.le_of_ble_eq_true rfl, Nat.le_of_ble_eq_true rfl⟩ dL_law_12 ?_
  rintro ⟨ad6, M⟩ h4
  have hRel : Rel T M := h4
  refine aw_perm (w1 := (wX5 cy o ad oa aa or_ ar op ap T) ++ wX6 cy o6 ad6 M) (List.Perm.refl _) ?_
  refine aw_astore_n (lv' := [(2, .ref o6), (1, .ref o), (0, .ref b)]) C dL_law_15 (by decide) rfl ?_
  refine aw_iconst (v := 0) C dL_law_16 (by decide) ?_
  refine aw_istore_n (lv' := [(3, .int (nI (6 * 0))), (2, .ref o6), (1, .ref o), (0, .ref b)]) C dL_law_17 (by decide) rfl ?_
  refine aw_lv [3, 2, 1, 0] rfl ?_
  refine aw_widen (cells2 := 100 + 10 * 0) (slots2 := 3000 + 700 * 0) (by decide) (by decide) ?_
  exact law_loop hb hr hlocks hL C K hX hbl hbA (fun _ h => h) H 513 0 T M hRel (by omega) (by omega)
end START
