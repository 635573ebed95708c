/-! Worlds side by side: by membership and by permutation -/
theorem vP_mem {D : va_G} {cl : List vw_C} {ws : va_W} {H : Heap} (h : va_P D cl ws H) {x : Nat × va_E} (hx : x ∈ ws) : va_at D cl x H := by
  obtain ⟨k, hk⟩ := List.getElem?_of_mem hx
  exact h k x hk
theorem vP_of {D : va_G} {cl : List vw_C} {ws : va_W} {H : Heap} (h : ∀ x ∈ ws, va_at D cl x H) : va_P D cl ws H := fun k q hk => h q (List.mem_of_getElem? hk)
theorem vP_perm {D : va_G} {cl : List vw_C} {a b : va_W} {H : Heap} (hp : a.Perm b) (h : va_P D cl a H) : va_P D cl b H := vP_of fun x hx => vP_mem h (hp.mem_iff.mpr hx)
theorem permNil (w : va_W) : w.Perm (w ++ []) := by rw [List.append_nil]
theorem vP_left {D : va_G} {cl : List vw_C} {a b : va_W} {H : Heap} (h : va_P D cl (a ++ b) H) : va_P D cl a H := vP_of fun x hx => vP_mem h (List.mem_append_left _ hx)
theorem vP_right {D : va_G} {cl : List vw_C} {a b : va_W} {H : Heap} (h : va_P D cl (a ++ b) H) : va_P D cl b H := vP_of fun x hx => vP_mem h (List.mem_append_right _ hx)
theorem vD_iff {A : Nat → Prop} {ws : va_W} : va_D A ws ↔ (ws.map Prod.fst).Nodup ∧ ∀ x ∈ ws, A x.1 := by
  constructor
  · intro h
    refine ⟨?_, fun x hx => ?_⟩
    · rw [List.Nodup, List.pairwise_iff_getElem]
      intro i j hi hj hij he
      rw [List.length_map] at hi hj
      rw [List.getElem_map, List.getElem_map] at he
      have := h.1 i j ws[i] ws[j] (List.getElem?_eq_getElem hi) (List.getElem?_eq_getElem hj) he
      omega
    · obtain ⟨k, hk⟩ := List.getElem?_of_mem hx
      exact h.2 k x hk
  · rintro ⟨h1, h2⟩
    refine ⟨fun i j p q hi hj he => ?_, fun k q hk => h2 q (List.mem_of_getElem? hk)⟩
    rw [List.Nodup, List.pairwise_iff_getElem] at h1
    obtain ⟨li, ei⟩ := List.getElem?_eq_some_iff.mp hi
    obtain ⟨lj, ej⟩ := List.getElem?_eq_some_iff.mp hj
    rcases Nat.lt_trichotomy i j with q1 | q1 | q1
    · exact absurd (by rw [List.getElem_map, List.getElem_map, ei, ej, he]) (h1 i j (by rw [List.length_map]; exact li) (by rw [List.length_map]; exact lj) q1)
    · exact q1
    · exact absurd (by rw [List.getElem_map, List.getElem_map, ei, ej, he]) (h1 j i (by rw [List.length_map]; exact lj) (by rw [List.length_map]; exact li) q1)
theorem vD_perm {A : Nat → Prop} {a b : va_W} (hp : a.Perm b) (h : va_D A a) : va_D A b := by
  rw [vD_iff] at h ⊢
  exact ⟨(hp.map Prod.fst).nodup_iff.mp h.1, fun x hx => h.2 x (hp.mem_iff.mpr hx)⟩
theorem vD_left {A : Nat → Prop} {a b : va_W} (h : va_D A (a ++ b)) : va_D A a := by
  rw [vD_iff] at h ⊢
  rw [List.map_append, List.nodup_append] at h
  exact ⟨h.1.1, fun x hx => h.2 x (List.mem_append_left _ hx)⟩
theorem fr_W {A : Nat → Prop} {D : va_G} {cl : List vw_C} {w0 wc wr wc2 w1 : va_W} {H H1 : Heap} (hP : va_P D cl w0 H) (hD : va_D A w0) (hp : w0.Perm (wc ++ wr)) (hk : ∀ q : Nat, q < H.size → ¬ va_A wc H.size q → H1[q]? = H[q]?) (hF : ∀ q, va_A wc H.size q → A q) (hP1 : va_P D cl wc2 H1) (hD1 : va_D (va_A wc H.size) wc2) (hp1 : w1.Perm (wc2 ++ wr)) : va_P D cl w1 H1 ∧ va_D A w1 := by
  have hP0 := vP_perm hp hP
  have hD0 := vD_perm hp hD
  have hr : ∀ x ∈ wr, x.1 < H.size ∧ ¬ va_A wc H.size x.1 := by
    intro x hx
    have hlt := (vP_mem hP0 (List.mem_append_right _ hx)).lt
    refine ⟨hlt, ?_⟩
    rintro (⟨k, e, hke⟩ | q)
    · rw [vD_iff] at hD0
      have h2 := hD0.1
      rw [List.map_append, List.nodup_append] at h2
      exact h2.2.2 x.1 (List.mem_map.mpr ⟨(x.1, e), List.mem_of_getElem? hke, rfl⟩) x.1 (List.mem_map.mpr ⟨x, hx, rfl⟩) rfl
    · omega
  have hPr : va_P D cl wr H1 := vP_of fun x hx => (vP_mem hP0 (List.mem_append_right _ hx)).kept (hk x.1 (hr x hx).1 (hr x hx).2)
  refine ⟨vP_perm hp1.symm (hP1.app hPr), vD_perm hp1.symm ?_⟩
  rw [vD_iff] at hD0 hD1 ⊢
  have h2 := hD0.1
  rw [List.map_append, List.nodup_append] at h2
  refine ⟨?_, fun x hx => ?_⟩
  · rw [List.map_append, List.nodup_append]
    refine ⟨hD1.1, h2.2.1, ?_⟩
    rintro a ha b hb rfl
    obtain ⟨x, hx, rfl⟩ := List.mem_map.mp ha
    obtain ⟨y, hy, he⟩ := List.mem_map.mp hb
    exact (hr y hy).2 (by rw [he]; exact hD1.2 x hx)
  · rcases List.mem_append.mp hx with h | h
    · exact hF _ (hD1.2 x h)
    · exact hD0.2 x (List.mem_append_right _ h)
section FR
variable {p : Program} {l : Launch} {e : Env} {R : Room} {s0 : State} {m : MethodId} {args : Array Value} {below : List Frame} {meth : Method} {c : Code} {cells slots : Nat} {Z : State → Prop} {nL : Nat} {I : Heap → List Loc → Prop} {lv : List (Nat × Value)} {st : List Value} {pc : Nat}
variable {cc : ByteArray} {own : String} {ws : List Cond} {D : va_G} {A : Nat → Prop} {H0 : Heap} {cy : Nat → ClassId}
variable {y : MethodName} {bytes : ByteArray} {maxL n ix : Nat} {ret : Option FieldType} {wsy : List Cond} {rm : Room} {As rest : List Value}
theorem aw_perm {w0 w1 : va_W} (hp : w0.Perm w1) (kk : atG p l e R s0 m args below meth c cells slots Z nL (iW D A H0 w1) lv st pc) : atG p l e R s0 m args below meth c cells slots Z nL (iW D A H0 w0) lv st pc := fun H locs ls hI hl => kk H locs ls ⟨vP_perm hp hI.1, vD_perm hp hI.2.1, hI.2.2⟩ hl
theorem aw_left {w0 w1 : va_W} (kk : atG p l e R s0 m args below meth c cells slots Z nL (iW D A H0 w0) lv st pc) : atG p l e R s0 m args below meth c cells slots Z nL (iW D A H0 (w0 ++ w1)) lv st pc := fun H locs ls hI hl => kk H locs ls ⟨vP_left hI.1, vD_left hI.2.1, hI.2.2⟩ hl
theorem aw_widen {cells2 slots2 : Nat} (h1 : cells ≤ cells2) (h2 : slots ≤ slots2) (kk : atG p l e R s0 m args below meth c cells2 slots2 Z nL I lv st pc) : atG p l e R s0 m args below meth c cells slots Z nL I lv st pc := fun H locs ls hI hl => W.widen h1 h2 (kk H locs ls hI hl)
theorem aw_callFI (C : ctB p s0 m args c cc nL own ws) (K : ctK s0 D A H0 cy) {cells2 slots2 : Nat} {σ : Type} {Wd : σ → va_W} {Wx : σ → va_W} {w0 wc wr : va_W} {Qc : Int32 → σ → Prop} {Cn : String} {b : Nat} (hM : mI l y wsy rm D cy (.ref b :: As) wc Wd Qc) (hp : w0.Perm (wc ++ wr)) (hp1 : ∀ u, (Wx u).Perm (Wd u ++ wr)) (cw : CallW R s0 args own Cn ix y bytes maxL ret wsy rm rm.cells rm.slots n) (q0 ci : Nat) {rc : vw_C} {fs : List Value} (he : wc[q0]? = some (b, .inr (ci, fs))) (hc : vwCl[ci]? = some rc) (hrc : rc.1 = Cn) (hst : st = As.reverse ++ .ref b :: rest) (hn : As.length = n) (hcat : (rest.map fun v => v.category).sum ≤ 8) (hc2 : cells + rm.cells = cells2) (hs2 : slots + rm.slots = slots2) (hR : cells2 ≤ R.cells ∧ slots2 ≤ R.slots) (hdg : decode cc pc = .ok (.invokevirtual ix, 3)) (kk : ∀ (r : Int32) (u : σ), Qc r u → atG p l e R s0 m args below meth c cells2 slots2 Z nL (iW D A H0 (Wx u)) lv (.int r :: rest) (pc + 3)) : atG p l e R s0 m args below meth c cells slots Z nL (iW D A H0 w0) lv st pc := by
  intro H locs ls hI hl
  obtain ⟨hP, hD, hS⟩ := hI
  subst hst
  subst hrc
  subst hc2
  subst hs2
  have hPc := vP_left (vP_perm hp hP)
  have hDc := vD_left (vD_perm hp hD)
  have hF : ∀ q, va_A wc H.size q → A q := fun q hq => hq.elim (fun ⟨k, e, hk⟩ => hDc.2 k _ hk) (fun h => K.2 q (Nat.le_trans hS.1 h))
  refine va_calli (va_runV (As := As) (rest := rest) C.fix (hM H.size) cw ⟨pW.blind, va_recv K.1 hPc hc he, fun U hU hW => ⟨rfl, by rw [hU], by rw [hU]; exact hPc, va_K.moved hW.alike K.1, C.2.2.2.2.2.warm hW, hDc.weaken (fun _ _ _ _ => trivial)⟩⟩ rfl hn hl.1 rfl (lv_room hcat) hdg hR) hS (fun q _ h => hF q h) hF (fun r u t H1 locs1 ht hvm hw hB hz1 hk1 hS1 => ?_)
  obtain ⟨h1, h2⟩ := hB
  rw [ht] at h1
  obtain ⟨h3, h4⟩ := fr_W hP hD hp hk1 hF h1 h2 (hp1 u)
  exact kk r u hw H1 locs1 ls ⟨h3, h4, hS1⟩ hl
theorem aw_callFV (C : ctB p s0 m args c cc nL own ws) (K : ctK s0 D A H0 cy) {cells2 slots2 : Nat} {σ : Type} {Wd : σ → va_W} {Wx : σ → va_W} {w0 wc wr : va_W} {Qc : σ → Prop} {Cn : String} {b : Nat} (hM : mV l y wsy rm D cy (.ref b :: As) wc Wd Qc) (hp : w0.Perm (wc ++ wr)) (hp1 : ∀ u, (Wx u).Perm (Wd u ++ wr)) (cw : CallW R s0 args own Cn ix y bytes maxL ret wsy rm rm.cells rm.slots n) (q0 ci : Nat) {rc : vw_C} {fs : List Value} (he : wc[q0]? = some (b, .inr (ci, fs))) (hc : vwCl[ci]? = some rc) (hrc : rc.1 = Cn) (hst : st = As.reverse ++ .ref b :: rest) (hn : As.length = n) (hcat : (rest.map fun v => v.category).sum ≤ 8) (hc2 : cells + rm.cells = cells2) (hs2 : slots + rm.slots = slots2) (hR : cells2 ≤ R.cells ∧ slots2 ≤ R.slots) (hdg : decode cc pc = .ok (.invokevirtual ix, 3)) (kk : ∀ (u : σ), Qc u → atG p l e R s0 m args below meth c cells2 slots2 Z nL (iW D A H0 (Wx u)) lv rest (pc + 3)) : atG p l e R s0 m args below meth c cells slots Z nL (iW D A H0 w0) lv st pc := by
  intro H locs ls hI hl
  obtain ⟨hP, hD, hS⟩ := hI
  subst hst
  subst hrc
  subst hc2
  subst hs2
  have hPc := vP_left (vP_perm hp hP)
  have hDc := vD_left (vD_perm hp hD)
  have hF : ∀ q, va_A wc H.size q → A q := fun q hq => hq.elim (fun ⟨k, e, hk⟩ => hDc.2 k _ hk) (fun h => K.2 q (Nat.le_trans hS.1 h))
  refine va_callv (va_runV (As := As) (rest := rest) C.fix (hM H.size) cw ⟨pW.blind, va_recv K.1 hPc hc he, fun U hU hW => ⟨rfl, by rw [hU], by rw [hU]; exact hPc, va_K.moved hW.alike K.1, C.2.2.2.2.2.warm hW, hDc.weaken (fun _ _ _ _ => trivial)⟩⟩ rfl hn hl.1 rfl (lv_room hcat) hdg hR) hS (fun q _ h => hF q h) hF (fun u t H1 locs1 ht hvm hw hB hz1 hk1 hS1 => ?_)
  obtain ⟨h1, h2⟩ := hB
  rw [ht] at h1
  obtain ⟨h3, h4⟩ := fr_W hP hD hp hk1 hF h1 h2 (hp1 u)
  exact kk u hw H1 locs1 ls ⟨h3, h4, hS1⟩ hl
theorem aw_callFTI (C : ctB p s0 m args c cc nL own ws) (K : ctK s0 D A H0 cy) {cells2 slots2 : Nat} {σ : Type} {Wd : σ → va_W} {Wx : σ → va_W} {w0 wc wr : va_W} {Qc : Int32 → σ → Prop} (hM : mI l y wsy rm D cy (As) wc Wd Qc) (hp : w0.Perm (wc ++ wr)) (hp1 : ∀ u, (Wx u).Perm (Wd u ++ wr)) (cw : CallB R s0 args own ix y bytes maxL ret wsy rm rm.cells rm.slots n ∧ (Cond.static y).before args s0 = true) (hst : st = As.reverse ++ rest) (hn : As.length = n) (hcat : (rest.map fun v => v.category).sum ≤ 8) (hc2 : cells + rm.cells = cells2) (hs2 : slots + rm.slots = slots2) (hR : cells2 ≤ R.cells ∧ slots2 ≤ R.slots) (hdg : decode cc pc = .ok (.invokestatic ix, 3)) (kk : ∀ (r : Int32) (u : σ), Qc r u → atG p l e R s0 m args below meth c cells2 slots2 Z nL (iW D A H0 (Wx u)) lv (.int r :: rest) (pc + 3)) : atG p l e R s0 m args below meth c cells slots Z nL (iW D A H0 w0) lv st pc := by
  intro H locs ls hI hl
  obtain ⟨hP, hD, hS⟩ := hI
  subst hst
  subst hc2
  subst hs2
  have hPc := vP_left (vP_perm hp hP)
  have hDc := vD_left (vD_perm hp hD)
  have hF : ∀ q, va_A wc H.size q → A q := fun q hq => hq.elim (fun ⟨k, e, hk⟩ => hDc.2 k _ hk) (fun h => K.2 q (Nat.le_trans hS.1 h))
  refine va_calli (va_runS (As := As) (rest := rest) C.fix (hM H.size) cw ⟨pW.blind, fun U hU hW => ⟨rfl, by rw [hU], by rw [hU]; exact hPc, va_K.moved hW.alike K.1, C.2.2.2.2.2.warm hW, hDc.weaken (fun _ _ _ _ => trivial)⟩⟩ rfl hn hl.1 rfl (lv_room hcat) hdg hR) hS (fun q _ h => hF q h) hF (fun r u t H1 locs1 ht hvm hw hB hz1 hk1 hS1 => ?_)
  obtain ⟨h1, h2⟩ := hB
  rw [ht] at h1
  obtain ⟨h3, h4⟩ := fr_W hP hD hp hk1 hF h1 h2 (hp1 u)
  exact kk r u hw H1 locs1 ls ⟨h3, h4, hS1⟩ hl
theorem aw_callFTV (C : ctB p s0 m args c cc nL own ws) (K : ctK s0 D A H0 cy) {cells2 slots2 : Nat} {σ : Type} {Wd : σ → va_W} {Wx : σ → va_W} {w0 wc wr : va_W} {Qc : σ → Prop} (hM : mV l y wsy rm D cy (As) wc Wd Qc) (hp : w0.Perm (wc ++ wr)) (hp1 : ∀ u, (Wx u).Perm (Wd u ++ wr)) (cw : CallB R s0 args own ix y bytes maxL ret wsy rm rm.cells rm.slots n ∧ (Cond.static y).before args s0 = true) (hst : st = As.reverse ++ rest) (hn : As.length = n) (hcat : (rest.map fun v => v.category).sum ≤ 8) (hc2 : cells + rm.cells = cells2) (hs2 : slots + rm.slots = slots2) (hR : cells2 ≤ R.cells ∧ slots2 ≤ R.slots) (hdg : decode cc pc = .ok (.invokestatic ix, 3)) (kk : ∀ (u : σ), Qc u → atG p l e R s0 m args below meth c cells2 slots2 Z nL (iW D A H0 (Wx u)) lv rest (pc + 3)) : atG p l e R s0 m args below meth c cells slots Z nL (iW D A H0 w0) lv st pc := by
  intro H locs ls hI hl
  obtain ⟨hP, hD, hS⟩ := hI
  subst hst
  subst hc2
  subst hs2
  have hPc := vP_left (vP_perm hp hP)
  have hDc := vD_left (vD_perm hp hD)
  have hF : ∀ q, va_A wc H.size q → A q := fun q hq => hq.elim (fun ⟨k, e, hk⟩ => hDc.2 k _ hk) (fun h => K.2 q (Nat.le_trans hS.1 h))
  refine va_callv (va_runS (As := As) (rest := rest) C.fix (hM H.size) cw ⟨pW.blind, fun U hU hW => ⟨rfl, by rw [hU], by rw [hU]; exact hPc, va_K.moved hW.alike K.1, C.2.2.2.2.2.warm hW, hDc.weaken (fun _ _ _ _ => trivial)⟩⟩ rfl hn hl.1 rfl (lv_room hcat) hdg hR) hS (fun q _ h => hF q h) hF (fun u t H1 locs1 ht hvm hw hB hz1 hk1 hS1 => ?_)
  obtain ⟨h1, h2⟩ := hB
  rw [ht] at h1
  obtain ⟨h3, h4⟩ := fr_W hP hD hp hk1 hF h1 h2 (hp1 u)
  exact kk u hw H1 locs1 ls ⟨h3, h4, hS1⟩ hl
theorem aw_callInit (C : ctB p s0 m args c cc nL own ws) (K : ctK s0 D A H0 cy) {cells2 slots2 : Nat} {σ : Type} {Wd : σ → va_W} {Wx : σ → va_W} {w0 wc wr : va_W} {Qc : σ → Prop} {b : Nat} (hM : mV l y wsy rm D cy (.ref b :: As) wc Wd Qc) (hp : w0.Perm (wc ++ wr)) (hp1 : ∀ u, (Wx u).Perm (Wd u ++ wr)) (cw : CallB R s0 args own ix y bytes maxL none wsy rm rm.cells rm.slots n ∧ y.name = "<init>" ∧ (Cond.instanceMethod y).before args s0 = true) (hst : st = As.reverse ++ .ref b :: rest) (hn : As.length = n) (hcat : (rest.map fun v => v.category).sum ≤ 8) (hc2 : cells + rm.cells = cells2) (hs2 : slots + rm.slots = slots2) (hR : cells2 ≤ R.cells ∧ slots2 ≤ R.slots) (hdg : decode cc pc = .ok (.invokespecial ix, 3)) (kk : ∀ (u : σ), Qc u → atG p l e R s0 m args below meth c cells2 slots2 Z nL (iW D A H0 (Wx u)) lv rest (pc + 3)) : atG p l e R s0 m args below meth c cells slots Z nL (iW D A H0 w0) lv st pc := by
  intro H locs ls hI hl
  obtain ⟨hP, hD, hS⟩ := hI
  subst hst
  subst hc2
  subst hs2
  have hPc := vP_left (vP_perm hp hP)
  have hDc := vD_left (vD_perm hp hD)
  have hF : ∀ q, va_A wc H.size q → A q := fun q hq => hq.elim (fun ⟨k, e, hk⟩ => hDc.2 k _ hk) (fun h => K.2 q (Nat.le_trans hS.1 h))
  refine va_callv (va_runI (As := As) (rest := rest) C.fix (hM H.size) cw ⟨pW.blind, fun U hU hW => ⟨rfl, by rw [hU], by rw [hU]; exact hPc, va_K.moved hW.alike K.1, C.2.2.2.2.2.warm hW, hDc.weaken (fun _ _ _ _ => trivial)⟩⟩ rfl hn hl.1 rfl (lv_room hcat) hdg hR) hS (fun q _ h => hF q h) hF (fun u t H1 locs1 ht hvm hw hB hz1 hk1 hS1 => ?_)
  obtain ⟨h1, h2⟩ := hB
  rw [ht] at h1
  obtain ⟨h3, h4⟩ := fr_W hP hD hp hk1 hF h1 h2 (hp1 u)
  exact kk u hw H1 locs1 ls ⟨h3, h4, hS1⟩ hl
theorem aw_callInitN (C : ctB p s0 m args c cc nL own ws) (K : ctK s0 D A H0 cy) {cells2 slots2 : Nat} {σ : Type} {Wd : σ → va_W} {Wx : σ → va_W} {w0 wc wr : va_W} {Qc : σ → Prop} {b : Nat} (hM : mV l y wsy rm D cy (.ref b :: As) wc Wd Qc) (hp : w0.Perm (wc ++ wr)) (hp1 : ∀ u, (Wx u).Perm (Wd u ++ wr)) {host : String} (cw : va_CN R s0 args own ix y host bytes maxL none wsy rm rm.cells rm.slots n ∧ y.name = "<init>" ∧ (Cond.instanceMethod y).before args s0 = true) (hst : st = As.reverse ++ .ref b :: rest) (hn : As.length = n) (hcat : (rest.map fun v => v.category).sum ≤ 8) (hc2 : cells + rm.cells = cells2) (hs2 : slots + rm.slots = slots2) (hR : cells2 ≤ R.cells ∧ slots2 ≤ R.slots) (hdg : decode cc pc = .ok (.invokespecial ix, 3)) (kk : ∀ (u : σ), Qc u → atG p l e R s0 m args below meth c cells2 slots2 Z nL (iW D A H0 (Wx u)) lv rest (pc + 3)) : atG p l e R s0 m args below meth c cells slots Z nL (iW D A H0 w0) lv st pc := by
  intro H locs ls hI hl
  obtain ⟨hP, hD, hS⟩ := hI
  subst hst
  subst hc2
  subst hs2
  have hPc := vP_left (vP_perm hp hP)
  have hDc := vD_left (vD_perm hp hD)
  have hF : ∀ q, va_A wc H.size q → A q := fun q hq => hq.elim (fun ⟨k, e, hk⟩ => hDc.2 k _ hk) (fun h => K.2 q (Nat.le_trans hS.1 h))
  refine va_callv (va_runIN (As := As) (rest := rest) C.fix (hM H.size) cw ⟨pW.blind, fun U hU hW => ⟨rfl, by rw [hU], by rw [hU]; exact hPc, va_K.moved hW.alike K.1, C.2.2.2.2.2.warm hW, hDc.weaken (fun _ _ _ _ => trivial)⟩⟩ rfl hn hl.1 rfl (lv_room hcat) hdg hR) hS (fun q _ h => hF q h) hF (fun u t H1 locs1 ht hvm hw hB hz1 hk1 hS1 => ?_)
  obtain ⟨h1, h2⟩ := hB
  rw [ht] at h1
  obtain ⟨h3, h4⟩ := fr_W hP hD hp hk1 hF h1 h2 (hp1 u)
  exact kk u hw H1 locs1 ls ⟨h3, h4, hS1⟩ hl
theorem ra_uni {t0 : Nat} {c1 cA : ClassId} {ty : FieldType} {tys : List (ClassId × FieldType)} (K : ctK s0 D A H0 cy) (ht : (tyW cy)[t0]? = some (c1, ty)) (hK2 : va_K D vwCl (tys ++ [(cA, ty)]) s0) : cA = c1 := by
  have h1 := (K.1.2 t0 _ ht).2
  have h2 := (hK2.2 tys.length (cA, ty) (by simp)).2
  have k1 : s0.vm.findClass ("[" ++ ty.toString) = some c1 := by
    cases ty with
    | object C => exact h1.choose_spec.choose_spec.2.2.2
    | _ => exact h1
  have k2 : s0.vm.findClass ("[" ++ ty.toString) = some cA := by
    cases ty with
    | object C => exact h2.choose_spec.choose_spec.2.2.2
    | _ => exact h2
  rw [k1] at k2
  exact (Option.some.inj k2).symm
theorem aw_newa (C : ctB p s0 m args c cc nL own ws) (K : ctK s0 D A H0 cy) {cells2 slots2 : Nat} {w0 : va_W} {atype : ArrayType} {ty : FieldType} {c1 : ClassId} (t0 : Nat) (hdg : decode cc pc = .ok (.newarray atype, 2)) (hty : newarray.typeOf atype = ty) (ht : (tyW cy)[t0]? = some (c1, ty)) (harr : Cond.arrayClass ty ∈ ws) {k : Int32} {N B : Nat} {a0 : vp_A} (ha : ∀ cA : ClassId, vp_cell cA a0 = arrV cA N (fun _ => defaultValue ty)) (hn : ¬ k < 0) (hN : k.toNatClampNeg = N) (hB : N ≤ B) (hbytes : B * componentBytes ty ≤ 536870912) (hc2 : cells + 1 = cells2) (hs2 : slots + B = slots2) (hR : cells2 ≤ R.cells ∧ slots2 ≤ R.slots) (kk : ∀ q : Nat, atG p l e R s0 m args below meth c cells2 slots2 Z nL (iW D A H0 (w0 ++ [(q, .inl (c1, a0))])) lv (.ref q :: st) (pc + 2)) : atG p l e R s0 m args below meth c cells slots Z nL (iW D A H0 w0) lv (.int k :: st) pc := by
  intro H locs ls hI hl
  subst hc2
  subst hs2
  subst hty
  refine va_newa (D := D) (cl := vwCl) (tys := tyW cy) C.1 C.2.1 (C.2.2.2.2.1 _ harr) rfl K.1 hI.1 hI.2.1 hI.2.2 K.2 ha hn hN (Nat.le_trans (Nat.mul_le_mul_right _ hB) hbytes) hR.1 (Nat.le_trans (Nat.add_le_add_left hB _) hR.2) hdg (fun q cA H1 hK2 h1 h2 h3 => ?_)
  have e := ra_uni K ht hK2
  subst e
  exact W.widen (Nat.le_refl _) (Nat.add_le_add_left hB _) (kk q H1 locs ls ⟨h1, h2, h3⟩ hl)
theorem aw_finX0 (C : ctB p s0 m args c cc nL own ws) (K : ctK s0 D A H0 cy) (hinit : meth.name = "<init>") (hin : ∀ w ∈ wsX00, w ∈ ws) {w0 w1 : va_W} {ix : Nat} (hdg : decode cc pc = .ok (.putfield ix, 3)) (k : Nat) (hk : k < 2) (hlk : Cond.fieldLink own ix (TX0 k).1 (TX0 k).2.1 (TX0 k).2.2.1 ∈ ws) (hdecl : (TX0 k).1 = own) (q0 : Nat) {a : Nat} {fs : List Value} (he : w0[q0]? = some (a, .inr (0, fs))) {ty : FieldType} {v : Value} (hfin : (TX0 k).2.2.2 = true) (hd : parseFieldDescriptor (TX0 k).2.2.1 = some ty) (hnr : narrow ty v = v) (hfit : fits ty v = true) (hlen : k < fs.length) (hw : w0.set q0 (a, .inr (0, fs.set k v)) = w1) (kk : atG p l e R s0 m args below meth c cells slots Z nL (iW D A H0 w1) lv st (pc + 3)) : atG p l e R s0 m args below meth c cells slots Z nL (iW D A H0 w0) lv (v :: .ref a :: st) pc := fun H locs ls hI hl => va_putF (D := D) (ci := 0) (v := v) (ty := ty) (C := RX0) (T := TX0) (N := 2) C.1 C.2.1 C.2.2.2.2.1 hin tyX0 tyX0_ok nmX0 C.2.2.2.1 K.1 hI.1 hI.2.1 hI.2.2 q0 he rfl k hk (C.2.2.2.2.1 _ hlk) (fun _ h => h) hfin hinit hdecl hd hnr hfit hlen hdg (fun H1 locs1 h1 h2 h3 => by rw [hw] at h1 h2; exact kk H1 locs1 ls ⟨h1, h2, h3⟩ hl)
theorem aw_newX0 (C : ctB p s0 m args c cc nL own ws) (K : ctK s0 D A H0 cy) {cells2 slots2 : Nat} (hin : ∀ w ∈ wsX00, w ∈ ws) {w0 : va_W} {ix : Nat} (hdg : decode cc pc = .ok (.new ix, 3)) (hcl : Cond.classLink own ix RX0 ∈ ws) (hinst : Cond.instantiable RX0 2 ∈ ws) (hini : Cond.initialized RX0 ∈ ws) {fs : List Value} (hfs : ∀ j, j < 2 → defaultValue (tyX0 j) = vp_V fs j) (hc2 : cells + 1 = cells2) (hs2 : slots + 2 = slots2) (hR : cells2 ≤ R.cells ∧ slots2 ≤ R.slots) (kk : ∀ q : Nat, atG p l e R s0 m args below meth c cells2 slots2 Z nL (iW D A H0 (w0 ++ [(q, .inr (0, fs))])) lv (.ref q :: st) (pc + 3)) : atG p l e R s0 m args below meth c cells slots Z nL (iW D A H0 w0) lv st pc := by
  intro H locs ls hI hl
  subst hc2
  subst hs2
  exact va_new (c0 := c) (ci := 0) (C := RX0) (T := TX0) (N := 2) C.1 C.2.1 C.2.2.2.2.1 hin tyX0 tyX0_ok C.2.2.2.1 (C.2.2.2.2.1 _ hcl) (C.2.2.2.2.1 _ hinst) (C.2.2.2.2.1 _ hini) K.1 hI.1 hI.2.1 hI.2.2 K.2 rfl hfs hR.1 hR.2 hdg (fun q H1 h1 h2 h3 => kk q H1 locs ls ⟨h1, h2, h3⟩ hl)
theorem aw_finX1 (C : ctB p s0 m args c cc nL own ws) (K : ctK s0 D A H0 cy) (hinit : meth.name = "<init>") (hin : ∀ w ∈ wsX10, w ∈ ws) {w0 w1 : va_W} {ix : Nat} (hdg : decode cc pc = .ok (.putfield ix, 3)) (k : Nat) (hk : k < 17) (hlk : Cond.fieldLink own ix (TX1 k).1 (TX1 k).2.1 (TX1 k).2.2.1 ∈ ws) (hdecl : (TX1 k).1 = own) (q0 : Nat) {a : Nat} {fs : List Value} (he : w0[q0]? = some (a, .inr (1, fs))) {ty : FieldType} {v : Value} (hfin : (TX1 k).2.2.2 = true) (hd : parseFieldDescriptor (TX1 k).2.2.1 = some ty) (hnr : narrow ty v = v) (hfit : fits ty v = true) (hlen : k < fs.length) (hw : w0.set q0 (a, .inr (1, fs.set k v)) = w1) (kk : atG p l e R s0 m args below meth c cells slots Z nL (iW D A H0 w1) lv st (pc + 3)) : atG p l e R s0 m args below meth c cells slots Z nL (iW D A H0 w0) lv (v :: .ref a :: st) pc := fun H locs ls hI hl => va_putF (D := D) (ci := 1) (v := v) (ty := ty) (C := RX1) (T := TX1) (N := 17) C.1 C.2.1 C.2.2.2.2.1 hin tyX1 tyX1_ok nmX1 C.2.2.2.1 K.1 hI.1 hI.2.1 hI.2.2 q0 he rfl k hk (C.2.2.2.2.1 _ hlk) (fun _ h => h) hfin hinit hdecl hd hnr hfit hlen hdg (fun H1 locs1 h1 h2 h3 => by rw [hw] at h1 h2; exact kk H1 locs1 ls ⟨h1, h2, h3⟩ hl)
theorem aw_newX1 (C : ctB p s0 m args c cc nL own ws) (K : ctK s0 D A H0 cy) {cells2 slots2 : Nat} (hin : ∀ w ∈ wsX10, w ∈ ws) {w0 : va_W} {ix : Nat} (hdg : decode cc pc = .ok (.new ix, 3)) (hcl : Cond.classLink own ix RX1 ∈ ws) (hinst : Cond.instantiable RX1 17 ∈ ws) (hini : Cond.initialized RX1 ∈ ws) {fs : List Value} (hfs : ∀ j, j < 17 → defaultValue (tyX1 j) = vp_V fs j) (hc2 : cells + 1 = cells2) (hs2 : slots + 17 = slots2) (hR : cells2 ≤ R.cells ∧ slots2 ≤ R.slots) (kk : ∀ q : Nat, atG p l e R s0 m args below meth c cells2 slots2 Z nL (iW D A H0 (w0 ++ [(q, .inr (1, fs))])) lv (.ref q :: st) (pc + 3)) : atG p l e R s0 m args below meth c cells slots Z nL (iW D A H0 w0) lv st pc := by
  intro H locs ls hI hl
  subst hc2
  subst hs2
  exact va_new (c0 := c) (ci := 1) (C := RX1) (T := TX1) (N := 17) C.1 C.2.1 C.2.2.2.2.1 hin tyX1 tyX1_ok C.2.2.2.1 (C.2.2.2.2.1 _ hcl) (C.2.2.2.2.1 _ hinst) (C.2.2.2.2.1 _ hini) K.1 hI.1 hI.2.1 hI.2.2 K.2 rfl hfs hR.1 hR.2 hdg (fun q H1 h1 h2 h3 => kk q H1 locs ls ⟨h1, h2, h3⟩ hl)
theorem aw_finX2 (C : ctB p s0 m args c cc nL own ws) (K : ctK s0 D A H0 cy) (hinit : meth.name = "<init>") (hin : ∀ w ∈ wsX20, w ∈ ws) {w0 w1 : va_W} {ix : Nat} (hdg : decode cc pc = .ok (.putfield ix, 3)) (k : Nat) (hk : k < 4) (hlk : Cond.fieldLink own ix (TX2 k).1 (TX2 k).2.1 (TX2 k).2.2.1 ∈ ws) (hdecl : (TX2 k).1 = own) (q0 : Nat) {a : Nat} {fs : List Value} (he : w0[q0]? = some (a, .inr (2, fs))) {ty : FieldType} {v : Value} (hfin : (TX2 k).2.2.2 = true) (hd : parseFieldDescriptor (TX2 k).2.2.1 = some ty) (hnr : narrow ty v = v) (hfit : fits ty v = true) (hlen : k < fs.length) (hw : w0.set q0 (a, .inr (2, fs.set k v)) = w1) (kk : atG p l e R s0 m args below meth c cells slots Z nL (iW D A H0 w1) lv st (pc + 3)) : atG p l e R s0 m args below meth c cells slots Z nL (iW D A H0 w0) lv (v :: .ref a :: st) pc := fun H locs ls hI hl => va_putF (D := D) (ci := 2) (v := v) (ty := ty) (C := RX2) (T := TX2) (N := 4) C.1 C.2.1 C.2.2.2.2.1 hin tyX2 tyX2_ok nmX2 C.2.2.2.1 K.1 hI.1 hI.2.1 hI.2.2 q0 he rfl k hk (C.2.2.2.2.1 _ hlk) (fun _ h => h) hfin hinit hdecl hd hnr hfit hlen hdg (fun H1 locs1 h1 h2 h3 => by rw [hw] at h1 h2; exact kk H1 locs1 ls ⟨h1, h2, h3⟩ hl)
theorem aw_newX2 (C : ctB p s0 m args c cc nL own ws) (K : ctK s0 D A H0 cy) {cells2 slots2 : Nat} (hin : ∀ w ∈ wsX20, w ∈ ws) {w0 : va_W} {ix : Nat} (hdg : decode cc pc = .ok (.new ix, 3)) (hcl : Cond.classLink own ix RX2 ∈ ws) (hinst : Cond.instantiable RX2 4 ∈ ws) (hini : Cond.initialized RX2 ∈ ws) {fs : List Value} (hfs : ∀ j, j < 4 → defaultValue (tyX2 j) = vp_V fs j) (hc2 : cells + 1 = cells2) (hs2 : slots + 4 = slots2) (hR : cells2 ≤ R.cells ∧ slots2 ≤ R.slots) (kk : ∀ q : Nat, atG p l e R s0 m args below meth c cells2 slots2 Z nL (iW D A H0 (w0 ++ [(q, .inr (2, fs))])) lv (.ref q :: st) (pc + 3)) : atG p l e R s0 m args below meth c cells slots Z nL (iW D A H0 w0) lv st pc := by
  intro H locs ls hI hl
  subst hc2
  subst hs2
  exact va_new (c0 := c) (ci := 2) (C := RX2) (T := TX2) (N := 4) C.1 C.2.1 C.2.2.2.2.1 hin tyX2 tyX2_ok C.2.2.2.1 (C.2.2.2.2.1 _ hcl) (C.2.2.2.2.1 _ hinst) (C.2.2.2.2.1 _ hini) K.1 hI.1 hI.2.1 hI.2.2 K.2 rfl hfs hR.1 hR.2 hdg (fun q H1 h1 h2 h3 => kk q H1 locs ls ⟨h1, h2, h3⟩ hl)
theorem aw_finX3 (C : ctB p s0 m args c cc nL own ws) (K : ctK s0 D A H0 cy) (hinit : meth.name = "<init>") (hin : ∀ w ∈ wsX30, w ∈ ws) {w0 w1 : va_W} {ix : Nat} (hdg : decode cc pc = .ok (.putfield ix, 3)) (k : Nat) (hk : k < 4) (hlk : Cond.fieldLink own ix (TX3 k).1 (TX3 k).2.1 (TX3 k).2.2.1 ∈ ws) (hdecl : (TX3 k).1 = own) (q0 : Nat) {a : Nat} {fs : List Value} (he : w0[q0]? = some (a, .inr (3, fs))) {ty : FieldType} {v : Value} (hfin : (TX3 k).2.2.2 = true) (hd : parseFieldDescriptor (TX3 k).2.2.1 = some ty) (hnr : narrow ty v = v) (hfit : fits ty v = true) (hlen : k < fs.length) (hw : w0.set q0 (a, .inr (3, fs.set k v)) = w1) (kk : atG p l e R s0 m args below meth c cells slots Z nL (iW D A H0 w1) lv st (pc + 3)) : atG p l e R s0 m args below meth c cells slots Z nL (iW D A H0 w0) lv (v :: .ref a :: st) pc := fun H locs ls hI hl => va_putF (D := D) (ci := 3) (v := v) (ty := ty) (C := RX3) (T := TX3) (N := 4) C.1 C.2.1 C.2.2.2.2.1 hin tyX3 tyX3_ok nmX3 C.2.2.2.1 K.1 hI.1 hI.2.1 hI.2.2 q0 he rfl k hk (C.2.2.2.2.1 _ hlk) (fun _ h => h) hfin hinit hdecl hd hnr hfit hlen hdg (fun H1 locs1 h1 h2 h3 => by rw [hw] at h1 h2; exact kk H1 locs1 ls ⟨h1, h2, h3⟩ hl)
theorem aw_newX3 (C : ctB p s0 m args c cc nL own ws) (K : ctK s0 D A H0 cy) {cells2 slots2 : Nat} (hin : ∀ w ∈ wsX30, w ∈ ws) {w0 : va_W} {ix : Nat} (hdg : decode cc pc = .ok (.new ix, 3)) (hcl : Cond.classLink own ix RX3 ∈ ws) (hinst : Cond.instantiable RX3 4 ∈ ws) (hini : Cond.initialized RX3 ∈ ws) {fs : List Value} (hfs : ∀ j, j < 4 → defaultValue (tyX3 j) = vp_V fs j) (hc2 : cells + 1 = cells2) (hs2 : slots + 4 = slots2) (hR : cells2 ≤ R.cells ∧ slots2 ≤ R.slots) (kk : ∀ q : Nat, atG p l e R s0 m args below meth c cells2 slots2 Z nL (iW D A H0 (w0 ++ [(q, .inr (3, fs))])) lv (.ref q :: st) (pc + 3)) : atG p l e R s0 m args below meth c cells slots Z nL (iW D A H0 w0) lv st pc := by
  intro H locs ls hI hl
  subst hc2
  subst hs2
  exact va_new (c0 := c) (ci := 3) (C := RX3) (T := TX3) (N := 4) C.1 C.2.1 C.2.2.2.2.1 hin tyX3 tyX3_ok C.2.2.2.1 (C.2.2.2.2.1 _ hcl) (C.2.2.2.2.1 _ hinst) (C.2.2.2.2.1 _ hini) K.1 hI.1 hI.2.1 hI.2.2 K.2 rfl hfs hR.1 hR.2 hdg (fun q H1 h1 h2 h3 => kk q H1 locs ls ⟨h1, h2, h3⟩ hl)
theorem aw_finX4 (C : ctB p s0 m args c cc nL own ws) (K : ctK s0 D A H0 cy) (hinit : meth.name = "<init>") (hin : ∀ w ∈ wsX40, w ∈ ws) {w0 w1 : va_W} {ix : Nat} (hdg : decode cc pc = .ok (.putfield ix, 3)) (k : Nat) (hk : k < 2) (hlk : Cond.fieldLink own ix (TX4 k).1 (TX4 k).2.1 (TX4 k).2.2.1 ∈ ws) (hdecl : (TX4 k).1 = own) (q0 : Nat) {a : Nat} {fs : List Value} (he : w0[q0]? = some (a, .inr (4, fs))) {ty : FieldType} {v : Value} (hfin : (TX4 k).2.2.2 = true) (hd : parseFieldDescriptor (TX4 k).2.2.1 = some ty) (hnr : narrow ty v = v) (hfit : fits ty v = true) (hlen : k < fs.length) (hw : w0.set q0 (a, .inr (4, fs.set k v)) = w1) (kk : atG p l e R s0 m args below meth c cells slots Z nL (iW D A H0 w1) lv st (pc + 3)) : atG p l e R s0 m args below meth c cells slots Z nL (iW D A H0 w0) lv (v :: .ref a :: st) pc := fun H locs ls hI hl => va_putF (D := D) (ci := 4) (v := v) (ty := ty) (C := RX4) (T := TX4) (N := 2) C.1 C.2.1 C.2.2.2.2.1 hin tyX4 tyX4_ok nmX4 C.2.2.2.1 K.1 hI.1 hI.2.1 hI.2.2 q0 he rfl k hk (C.2.2.2.2.1 _ hlk) (fun _ h => h) hfin hinit hdecl hd hnr hfit hlen hdg (fun H1 locs1 h1 h2 h3 => by rw [hw] at h1 h2; exact kk H1 locs1 ls ⟨h1, h2, h3⟩ hl)
theorem aw_newX4 (C : ctB p s0 m args c cc nL own ws) (K : ctK s0 D A H0 cy) {cells2 slots2 : Nat} (hin : ∀ w ∈ wsX40, w ∈ ws) {w0 : va_W} {ix : Nat} (hdg : decode cc pc = .ok (.new ix, 3)) (hcl : Cond.classLink own ix RX4 ∈ ws) (hinst : Cond.instantiable RX4 2 ∈ ws) (hini : Cond.initialized RX4 ∈ ws) {fs : List Value} (hfs : ∀ j, j < 2 → defaultValue (tyX4 j) = vp_V fs j) (hc2 : cells + 1 = cells2) (hs2 : slots + 2 = slots2) (hR : cells2 ≤ R.cells ∧ slots2 ≤ R.slots) (kk : ∀ q : Nat, atG p l e R s0 m args below meth c cells2 slots2 Z nL (iW D A H0 (w0 ++ [(q, .inr (4, fs))])) lv (.ref q :: st) (pc + 3)) : atG p l e R s0 m args below meth c cells slots Z nL (iW D A H0 w0) lv st pc := by
  intro H locs ls hI hl
  subst hc2
  subst hs2
  exact va_new (c0 := c) (ci := 4) (C := RX4) (T := TX4) (N := 2) C.1 C.2.1 C.2.2.2.2.1 hin tyX4 tyX4_ok C.2.2.2.1 (C.2.2.2.2.1 _ hcl) (C.2.2.2.2.1 _ hinst) (C.2.2.2.2.1 _ hini) K.1 hI.1 hI.2.1 hI.2.2 K.2 rfl hfs hR.1 hR.2 hdg (fun q H1 h1 h2 h3 => kk q H1 locs ls ⟨h1, h2, h3⟩ hl)
theorem aw_finX5 (C : ctB p s0 m args c cc nL own ws) (K : ctK s0 D A H0 cy) (hinit : meth.name = "<init>") (hin : ∀ w ∈ wsX50, w ∈ ws) {w0 w1 : va_W} {ix : Nat} (hdg : decode cc pc = .ok (.putfield ix, 3)) (k : Nat) (hk : k < 6) (hlk : Cond.fieldLink own ix (TX5 k).1 (TX5 k).2.1 (TX5 k).2.2.1 ∈ ws) (hdecl : (TX5 k).1 = own) (q0 : Nat) {a : Nat} {fs : List Value} (he : w0[q0]? = some (a, .inr (5, fs))) {ty : FieldType} {v : Value} (hfin : (TX5 k).2.2.2 = true) (hd : parseFieldDescriptor (TX5 k).2.2.1 = some ty) (hnr : narrow ty v = v) (hfit : fits ty v = true) (hlen : k < fs.length) (hw : w0.set q0 (a, .inr (5, fs.set k v)) = w1) (kk : atG p l e R s0 m args below meth c cells slots Z nL (iW D A H0 w1) lv st (pc + 3)) : atG p l e R s0 m args below meth c cells slots Z nL (iW D A H0 w0) lv (v :: .ref a :: st) pc := fun H locs ls hI hl => va_putF (D := D) (ci := 5) (v := v) (ty := ty) (C := RX5) (T := TX5) (N := 6) C.1 C.2.1 C.2.2.2.2.1 hin tyX5 tyX5_ok nmX5 C.2.2.2.1 K.1 hI.1 hI.2.1 hI.2.2 q0 he rfl k hk (C.2.2.2.2.1 _ hlk) (fun _ h => h) hfin hinit hdecl hd hnr hfit hlen hdg (fun H1 locs1 h1 h2 h3 => by rw [hw] at h1 h2; exact kk H1 locs1 ls ⟨h1, h2, h3⟩ hl)
theorem aw_newX5 (C : ctB p s0 m args c cc nL own ws) (K : ctK s0 D A H0 cy) {cells2 slots2 : Nat} (hin : ∀ w ∈ wsX50, w ∈ ws) {w0 : va_W} {ix : Nat} (hdg : decode cc pc = .ok (.new ix, 3)) (hcl : Cond.classLink own ix RX5 ∈ ws) (hinst : Cond.instantiable RX5 6 ∈ ws) (hini : Cond.initialized RX5 ∈ ws) {fs : List Value} (hfs : ∀ j, j < 6 → defaultValue (tyX5 j) = vp_V fs j) (hc2 : cells + 1 = cells2) (hs2 : slots + 6 = slots2) (hR : cells2 ≤ R.cells ∧ slots2 ≤ R.slots) (kk : ∀ q : Nat, atG p l e R s0 m args below meth c cells2 slots2 Z nL (iW D A H0 (w0 ++ [(q, .inr (5, fs))])) lv (.ref q :: st) (pc + 3)) : atG p l e R s0 m args below meth c cells slots Z nL (iW D A H0 w0) lv st pc := by
  intro H locs ls hI hl
  subst hc2
  subst hs2
  exact va_new (c0 := c) (ci := 5) (C := RX5) (T := TX5) (N := 6) C.1 C.2.1 C.2.2.2.2.1 hin tyX5 tyX5_ok C.2.2.2.1 (C.2.2.2.2.1 _ hcl) (C.2.2.2.2.1 _ hinst) (C.2.2.2.2.1 _ hini) K.1 hI.1 hI.2.1 hI.2.2 K.2 rfl hfs hR.1 hR.2 hdg (fun q H1 h1 h2 h3 => kk q H1 locs ls ⟨h1, h2, h3⟩ hl)
theorem aw_finX6 (C : ctB p s0 m args c cc nL own ws) (K : ctK s0 D A H0 cy) (hinit : meth.name = "<init>") (hin : ∀ w ∈ wsX60, w ∈ ws) {w0 w1 : va_W} {ix : Nat} (hdg : decode cc pc = .ok (.putfield ix, 3)) (k : Nat) (hk : k < 30) (hlk : Cond.fieldLink own ix (TX6 k).1 (TX6 k).2.1 (TX6 k).2.2.1 ∈ ws) (hdecl : (TX6 k).1 = own) (q0 : Nat) {a : Nat} {fs : List Value} (he : w0[q0]? = some (a, .inr (6, fs))) {ty : FieldType} {v : Value} (hfin : (TX6 k).2.2.2 = true) (hd : parseFieldDescriptor (TX6 k).2.2.1 = some ty) (hnr : narrow ty v = v) (hfit : fits ty v = true) (hlen : k < fs.length) (hw : w0.set q0 (a, .inr (6, fs.set k v)) = w1) (kk : atG p l e R s0 m args below meth c cells slots Z nL (iW D A H0 w1) lv st (pc + 3)) : atG p l e R s0 m args below meth c cells slots Z nL (iW D A H0 w0) lv (v :: .ref a :: st) pc := fun H locs ls hI hl => va_putF (D := D) (ci := 6) (v := v) (ty := ty) (C := RX6) (T := TX6) (N := 30) C.1 C.2.1 C.2.2.2.2.1 hin tyX6 tyX6_ok nmX6 C.2.2.2.1 K.1 hI.1 hI.2.1 hI.2.2 q0 he rfl k hk (C.2.2.2.2.1 _ hlk) (fun _ h => h) hfin hinit hdecl hd hnr hfit hlen hdg (fun H1 locs1 h1 h2 h3 => by rw [hw] at h1 h2; exact kk H1 locs1 ls ⟨h1, h2, h3⟩ hl)
theorem aw_newX6 (C : ctB p s0 m args c cc nL own ws) (K : ctK s0 D A H0 cy) {cells2 slots2 : Nat} (hin : ∀ w ∈ wsX60, w ∈ ws) {w0 : va_W} {ix : Nat} (hdg : decode cc pc = .ok (.new ix, 3)) (hcl : Cond.classLink own ix RX6 ∈ ws) (hinst : Cond.instantiable RX6 30 ∈ ws) (hini : Cond.initialized RX6 ∈ ws) {fs : List Value} (hfs : ∀ j, j < 30 → defaultValue (tyX6 j) = vp_V fs j) (hc2 : cells + 1 = cells2) (hs2 : slots + 30 = slots2) (hR : cells2 ≤ R.cells ∧ slots2 ≤ R.slots) (kk : ∀ q : Nat, atG p l e R s0 m args below meth c cells2 slots2 Z nL (iW D A H0 (w0 ++ [(q, .inr (6, fs))])) lv (.ref q :: st) (pc + 3)) : atG p l e R s0 m args below meth c cells slots Z nL (iW D A H0 w0) lv st pc := by
  intro H locs ls hI hl
  subst hc2
  subst hs2
  exact va_new (c0 := c) (ci := 6) (C := RX6) (T := TX6) (N := 30) C.1 C.2.1 C.2.2.2.2.1 hin tyX6 tyX6_ok C.2.2.2.1 (C.2.2.2.2.1 _ hcl) (C.2.2.2.2.1 _ hinst) (C.2.2.2.2.1 _ hini) K.1 hI.1 hI.2.1 hI.2.2 K.2 rfl hfs hR.1 hR.2 hdg (fun q H1 h1 h2 h3 => kk q H1 locs ls ⟨h1, h2, h3⟩ hl)
theorem aw_objInit (C : ctB p s0 m args c cc nL own ws) (hdg : decode cc pc = .ok (.invokespecial ix, 3)) (h1 : Cond.methodLink own ix objectInit ∈ ws) (h2 : Cond.instanceMethod objectInit ∈ ws) (h3 : Cond.code objectInit ⟨#[0xb1]⟩ 1 none ∈ ws) {a : Nat} (hR1 : 1 ≤ R.frames) (hR2 : (st.map fun v => v.category).sum + 12 ≤ R.locals) (kk : atG p l e R s0 m args below meth c cells slots Z nL I lv st (pc + 3)) : atG p l e R s0 m args below meth c cells slots Z nL I lv (.ref a :: st) pc := by
  intro H locs ls hI hl
  refine W.objInit C.1 C.2.1 C.2.2.2.1 (C.2.2.2.2.1 _ h1) (C.2.2.2.2.1 _ h2) (C.2.2.2.2.1 _ h3) rfl (by rw [C.2.2.1]; exact hl.1) rfl hdg ?_ ?_ ?_
  · exact hR1
  · show 2 * 0 + _ + 12 ≤ _
    omega
  · exact W.eq (g2 := F0 m (pc + 3) ls st) rfl (kk H locs ls hI hl)
theorem vp_in_lt {i : Int32} {n : Nat} (h : vp_in i n) : i.toNatClampNeg < n := Nat.not_le.mp fun q => h (Or.inr q)
theorem aw_aald (C : ctB p s0 m args c cc nL own ws) (K : ctK s0 D A H0 cy) {w0 : va_W} (hdg : decode cc pc = .ok (.aaload, 1)) (q0 : Nat) {a n : Nat} {f : Nat → Option Nat} {i : Int32} (ha : w0[q0]? = some (a, .inl (cy 3, n, .inr (.inr (.inr (.inr f)))))) (hin : vp_in i n) {r : Nat} (hf : f i.toNatClampNeg = some r) (kk : atG p l e R s0 m args below meth c cells slots Z nL (iW D A H0 w0) lv (.ref r :: st) (pc + 1)) : atG p l e R s0 m args below meth c cells slots Z nL (iW D A H0 w0) lv (.int i :: .ref a :: st) pc := by
  intro H locs ls hI hl
  have hlt := vp_in_lt hin
  exact W.aald (v := .ref r) (ty := .array .int) C.1 C.2.1 (hI.1 q0 _ ha) ((K.1.2 3 _ rfl).1 n (fun j => va_rf (f j))) rfl (fun q => by cases q) (by show ¬ (i < 0 ∨ (arrV _ _ _).slots.size ≤ _); rw [arrV_size]; exact hin) (by show (arrV _ _ _).slots[_]? = _; rw [arrV_read _ _ hlt, hf]; rfl) rfl rfl hdg (kk H locs ls hI hl)
theorem aw_mmin (C : ctB p s0 m args c cc nL own ws) (hdg : decode cc pc = .ok (.invokestatic ix, 3)) (h1 : Cond.methodLink own ix Lib.Math.min.name ∈ ws) (h2 : Cond.static Lib.Math.min.name ∈ ws) (h3 : Cond.initialized "java/lang/Math" ∈ ws) (h4 : Cond.code Lib.Math.min.name Lib.Math.min.code 2 (some .int) ∈ ws) (hR1 : 1 ≤ R.frames) (hR2 : (st.map fun v => v.category).sum + 13 ≤ R.locals) (hc : cells ≤ R.cells) (hs : slots ≤ R.slots) {x y : Int32} (kk : atG p l e R s0 m args below meth c cells slots Z nL I lv (.int (if y < x then y else x) :: st) (pc + 3)) : atG p l e R s0 m args below meth c cells slots Z nL I lv (.int y :: .int x :: st) pc := fun H locs ls hI hl => va_mmin C.1 C.2.1 (by rw [C.2.2.1]; exact hl.1.symm) C.2.2.2.1 (C.2.2.2.2.1 _ h1) (C.2.2.2.2.1 _ h2) (C.2.2.2.2.1 _ h3) (C.2.2.2.2.1 _ h4) hR1 hR2 hc hs hdg (kk H locs ls hI hl)
end FR
section META
variable {l : Launch} {D : va_G} {cy : Nat → ClassId} {y : MethodName} {ws ws' : List Cond} {rm : Room} {cc : ByteArray} {maxL : Nat} {av : List Value}
theorem metIA {σ : Type} {Wd : σ → va_W} {W0 : va_W} {Q : Int32 → σ → Prop} (hy : plainName y.cls = true) (hw : ws = Cond.code y cc maxL (some .int) :: ws') (hn : (lg_sl av).length ≤ maxL) (body : ∀ {p : Program} {e : Env} {s0 : State} {m : MethodId} {below : List Frame} {meth : Method} {c : Code} {A : Nat → Prop} {Z : State → Prop}, meth.name = y.name → ctB p s0 m av.toArray c cc maxL y.cls ws → ctK s0 D A s0.heap cy → (∀ (v : Int32) (u : σ), Q v u → ∀ pc, decode cc pc = .ok (.ireturn, 1) → atG p l e rm s0 m av.toArray below meth c rm.cells rm.slots Z maxL (iW D A s0.heap (Wd u)) [] [.int v] pc) → atG p l e rm s0 m av.toArray below meth c 0 0 Z maxL (iW D A s0.heap W0) (lv_args 0 av) [] 0) : mI l y ws rm D cy av W0 Wd Q := by
  intro sz
  refine Met.ofW (cc := cc) (maxL := maxL) (ret := (some .int)) hy hw ?_
  intro p e s0 m args below meth c s₁ B hml hv
  obtain ⟨rfl, hsz, hP, hK, hN, hD0⟩ := hv
  have hx := B.exec
  have hb := B.bytes
  have hr := B.returns
  have hts := atoms_spec (ws := ws) B.pre
  have hown : s0.vm.findClass y.cls = some m.cls := findClass_of_methodNamed B.named
  have hlocks := B.notSynchronized
  have hnm : meth.name = y.name := (name_of_methodNamed B.named B.method).1
  subst hsz
  have hD := hD0.self (sz := s0.heap.size)
  have hA : ∀ q, s0.heap.size ≤ q → va_A W0 s0.heap.size q := fun q h => Or.inr h
  have hl := lv_entry av (n := maxL) hn
  rw [lg_entry_eq]
  refine body (A := va_A W0 s0.heap.size) hnm ⟨hx, hb, hml, hown, hts, hN⟩ ⟨hK, hA⟩ ?_ s0.heap [] _ ⟨hP, hD, va_S.rf⟩ hl
  intro v u hq pc hd H locs ls hI hl
  exact W.iret (v := v) hx hb hr (fun t ht hW => ⟨⟨v, u, rfl, hq, by rw [ht]; exact hI.1, hI.2.1⟩, hI.2.2.F ht⟩) hI.2.2.2.2 hd
theorem metVA {σ : Type} {Wd : σ → va_W} {W0 : va_W} {Q : σ → Prop} (hy : plainName y.cls = true) (hw : ws = Cond.code y cc maxL none :: ws') (hn : (lg_sl av).length ≤ maxL) (body : ∀ {p : Program} {e : Env} {s0 : State} {m : MethodId} {below : List Frame} {meth : Method} {c : Code} {A : Nat → Prop} {Z : State → Prop}, meth.name = y.name → ctB p s0 m av.toArray c cc maxL y.cls ws → ctK s0 D A s0.heap cy → (∀ (u : σ), Q u → ∀ pc, decode cc pc = .ok (.return_, 1) → atG p l e rm s0 m av.toArray below meth c rm.cells rm.slots Z maxL (iW D A s0.heap (Wd u)) [] [] pc) → atG p l e rm s0 m av.toArray below meth c 0 0 Z maxL (iW D A s0.heap W0) (lv_args 0 av) [] 0) : mV l y ws rm D cy av W0 Wd Q := by
  intro sz
  refine Met.ofW (cc := cc) (maxL := maxL) (ret := none) hy hw ?_
  intro p e s0 m args below meth c s₁ B hml hv
  obtain ⟨rfl, hsz, hP, hK, hN, hD0⟩ := hv
  have hx := B.exec
  have hb := B.bytes
  have hr := B.returns
  have hts := atoms_spec (ws := ws) B.pre
  have hown : s0.vm.findClass y.cls = some m.cls := findClass_of_methodNamed B.named
  have hlocks := B.notSynchronized
  have hnm : meth.name = y.name := (name_of_methodNamed B.named B.method).1
  subst hsz
  have hD := hD0.self (sz := s0.heap.size)
  have hA : ∀ q, s0.heap.size ≤ q → va_A W0 s0.heap.size q := fun q h => Or.inr h
  have hl := lv_entry av (n := maxL) hn
  rw [lg_entry_eq]
  refine body (A := va_A W0 s0.heap.size) hnm ⟨hx, hb, hml, hown, hts, hN⟩ ⟨hK, hA⟩ ?_ s0.heap [] _ ⟨hP, hD, va_S.rf⟩ hl
  intro u hq pc hd H locs ls hI hl
  exact W.vret hx hb hr (fun t ht hW => ⟨⟨u, rfl, hq, by rw [ht]; exact hI.1, hI.2.1⟩, hI.2.2.F ht⟩) hI.2.2.2.2 hd
end META
