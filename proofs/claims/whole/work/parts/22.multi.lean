theorem vr_outer (c : ClassId) (N h0 : Nat) : ∀ i : Nat, Jvm.Free.Multi.outerC c N h0 i = arrV c N (fun j => va_rf (if j < i then some (h0 + 1 + j) else none))
  | 0 => by
    show ({ cls := c, slots := Array.replicate N .null, vm := .none } : Cell) = _
    rw [arrV_new]
    refine congrArg (arrV c N) (funext fun j => ?_)
    simp [va_rf]
  | i + 1 => by
    show (Jvm.Free.Multi.outerC c N h0 i).setSlot i (.ref (h0 + 1 + i)) = _
    rw [vr_outer c N h0 i, arrV_store]
    refine congrArg (arrV c N) (funext fun j => ?_)
    by_cases e : j = i
    · subst e
      simp [updV, va_rf]
    · by_cases h : j < i
      · simp [updV, e, h, Nat.lt_succ_of_lt h]
      · simp [updV, e, h, show ¬ j < i + 1 by omega]
section MN
variable {p : Program} {l : Launch} {e : Env} {R : Room} {s0 : State} {m : MethodId} {args : Array Value} {below : List Frame} {meth : Method} {c : Code} {cells slots : Nat} {Z : State → Prop} {nL : Nat} {I : Heap → List Loc → Prop} {lv : List (Nat × Value)} {st : List Value} {pc : Nat}
variable {cc : ByteArray} {own : String} {ws : List Cond} {D : va_G} {A : Nat → Prop} {H0 : Heap} {cy : Nat → ClassId} {ix : Nat}
theorem mn_D {w0 : va_W} {h N : Nat} {c3 : va_E} {f : Nat → va_E} (hD : va_D A w0) (hlt : ∀ x ∈ w0, x.1 < h) (hA : ∀ q, h ≤ q → A q) : va_D A (w0 ++ (h, c3) :: (List.range N).map (fun i => (h + 1 + i, f i))) := by
  rw [vD_iff] at hD ⊢
  refine ⟨?_, fun x hx => ?_⟩
  · rw [List.map_append, List.nodup_append]
    refine ⟨hD.1, ?_, ?_⟩
    · rw [List.map_cons, List.nodup_cons, List.map_map]
      refine ⟨fun q => ?_, ?_⟩
      · obtain ⟨i, -, hi⟩ := List.mem_map.mp q
        have : h + 1 + i = h := hi
        omega
      · refine List.Pairwise.map (S := (· ≠ ·)) _ (fun a b hab q => hab ?_) List.nodup_range
        have : h + 1 + a = h + 1 + b := q
        omega
    · intro a ha b hb q
      subst q
      obtain ⟨x, hx, rfl⟩ := List.mem_map.mp ha
      have h1 := hlt x hx
      obtain ⟨y, hy, he⟩ := List.mem_map.mp hb
      rcases List.mem_cons.mp hy with rfl | hy
      · have : h = x.1 := he
        omega
      · obtain ⟨i, -, rfl⟩ := List.mem_map.mp hy
        have : h + 1 + i = x.1 := he
        omega
  · rcases List.mem_append.mp hx with q | q
    · exact hD.2 x q
    · rcases List.mem_cons.mp q with rfl | q
      · exact hA _ (Nat.le_refl _)
      · obtain ⟨i, -, rfl⟩ := List.mem_map.mp q
        exact hA _ (by show h ≤ h + 1 + i; omega)
theorem aw_mna (C : ctB p s0 m args c cc nL own ws) (K : ctK s0 D A H0 cy) {cells2 slots2 : Nat} {w0 : va_W} (hdg : decode cc pc = .ok (.multianewarray ix 2, 4)) (hcl : Cond.classLink own ix "[[I" ∈ ws) (harr : Cond.arrayClass .int ∈ ws) {n k : Int32} {N B : Nat} (hn : ¬ n < 0) (hk : ¬ k < 0) (hN : n.toNatClampNeg = N) (hM : k.toNatClampNeg = B) (hb1 : N * 4 ≤ 536870912) (hb2 : B * 4 ≤ 536870912) (hc2 : cells + (1 + N) = cells2) (hs2 : slots + (N + N * B) = slots2) (hR : cells2 ≤ R.cells ∧ slots2 ≤ R.slots) (kk : ∀ (q : Nat) (r : Nat → Nat), atG p l e R s0 m args below meth c cells2 slots2 Z nL (iW D A H0 (w0 ++ (q, .inl (cy 3, N, .inr (.inr (.inr (.inr (fun i => if i < N then some (r i) else none)))))) :: (List.range N).map (fun i => (r i, .inl (cy 0, B, .inl (fun _ => 0)))))) lv (.ref q :: st) (pc + 4)) : atG p l e R s0 m args below meth c cells slots Z nL (iW D A H0 w0) lv (.int k :: .int n :: st) pc := by
  intro H locs ls hI hl
  obtain ⟨hP, hD, hS⟩ := hI
  subst hN
  subst hM
  subst hc2
  subst hs2
  intro T hT Xs
  have hover : (Cond.arrayOver (.array .int)).before args s0 = true := Jvm.Stand.arrayOver_alikeB (Vm.Alike.refl s0.vm) C.2.2.2.2.2.2.1
  obtain ⟨vm₁, cA, comp, -, fA, fC, hO, -, X', step⟩ := Xs.multianewarray2F (ty := .int) (index := ix) (own := own) C.1 C.2.2.2.1 (C.2.2.2.2.1 _ hcl) hover (C.2.2.2.2.1 _ harr) (g := F0 m pc ls (.int k :: .int n :: st)) rfl (by rw [C.2.1]; exact hdg) rfl hn hk hb1 hb2 (by omega) rfl rfl hR.1 hR.2
  have e0 : comp = cy 0 := Option.some.inj (fC.symm.trans (K.1.2 0 _ rfl).2)
  have e3 : cA = cy 3 := Option.some.inj (fA.symm.trans (K.1.2 3 _ rfl).2)
  subst e0
  subst e3
  generalize hF : Jvm.Free.Multi.fill (T.setVm vm₁) (cy 3) (cy 0) n.toNatClampNeg k.toNatClampNeg (defaultValue .int) n.toNatClampNeg = F at X' step
  have hTh : (T.setVm vm₁).heap = H := hT
  obtain ⟨f1, f2, -, -⟩ := Jvm.Free.Multi.fill_facts (T.setVm vm₁) (cy 3) (cy 0) n.toNatClampNeg k.toNatClampNeg (defaultValue .int) n.toNatClampNeg
  rw [hF, hTh] at f1 f2
  have hold : ∀ x : Nat, x < H.size → F.heap[x]? = H[x]? := fun x hx => by
    have := Jvm.Free.Multi.fill_old (T.setVm vm₁) (cy 3) (cy 0) n.toNatClampNeg k.toNatClampNeg (defaultValue .int) (a := x) (by rw [hTh]; exact hx) n.toNatClampNeg
    rw [hF, hTh] at this
    exact this
  have hrow : ∀ j : Nat, j < n.toNatClampNeg → F.heap[H.size + 1 + j]? = some (vp_cell (cy 0) (k.toNatClampNeg, .inl (fun _ => 0))) := fun j hj => by
    have := Jvm.Free.Multi.fill_inner (T.setVm vm₁) (cy 3) (cy 0) n.toNatClampNeg k.toNatClampNeg (defaultValue .int) n.toNatClampNeg j hj
    rw [hF, hTh] at this
    rw [this]
    refine congrArg some ?_
    show ({ cls := cy 0, slots := Array.replicate k.toNatClampNeg (.int 0), vm := .none } : Cell) = _
    rw [arrV_new, vp_cell_i]
  have hout : Jvm.Free.Multi.outerC (cy 3) n.toNatClampNeg H.size n.toNatClampNeg = vp_cell (cy 3) (n.toNatClampNeg, .inr (.inr (.inr (.inr (fun i => if i < n.toNatClampNeg then some (H.size + 1 + i) else none))))) := by
    rw [vp_cell_q]
    exact vr_outer (cy 3) n.toNatClampNeg H.size n.toNatClampNeg
  rw [hout] at f2
  have hlt : ∀ x ∈ w0, x.1 < H.size := fun x hx => (vP_mem hP hx).lt
  obtain ⟨t, a1, b1⟩ := kk H.size (fun i => H.size + 1 + i) F.heap locs ls ⟨vP_of fun x hx => by
    rcases List.mem_append.mp hx with q | q
    · exact (vP_mem hP q).kept (hold x.1 (hlt x q))
    · rcases List.mem_cons.mp q with rfl | q
      · exact f2
      · obtain ⟨i, hi, rfl⟩ := List.mem_map.mp q
        exact hrow i (List.mem_range.mp hi), mn_D hD hlt (fun q hq => K.2 q (Nat.le_trans hS.1 hq)), ⟨by rw [f1]; have := hS.1; omega, fun x h1 h2 => (hold x (Nat.lt_of_lt_of_le h1 hS.1)).trans (hS.2.1 x h1 h2), hS.2.2⟩⟩ hl F rfl (by rw [Nat.add_assoc, Nat.add_assoc] at X'; exact X')
  refine ⟨t, step t ?_, b1⟩
  have e : T.heap.size = H.size := by rw [hT]
  rw [e]
  exact a1
theorem aw_newq (C : ctB p s0 m args c cc nL own ws) (K : ctK s0 D A H0 cy) {cells2 slots2 : Nat} {w0 : va_W} (t0 : Nat) {Cn : String} {c1 : ClassId} (hdg : decode cc pc = .ok (.anewarray ix, 3)) (hcl : Cond.classLink own ix Cn ∈ ws) (hover : va_AO Cn s0) (ht : (tyW cy)[t0]? = some (c1, .object Cn)) {k : Int32} {N : Nat} (hn : ¬ k < 0) (hN : k.toNatClampNeg = N) (hbytes : N * 4 ≤ 536870912) (hc2 : cells + 1 = cells2) (hs2 : slots + N = slots2) (hR : cells2 ≤ R.cells ∧ slots2 ≤ R.slots) (kk : ∀ q : Nat, atG p l e R s0 m args below meth c cells2 slots2 Z nL (iW D A H0 (w0 ++ [(q, .inl (c1, N, .inr (.inr (.inr (.inr (fun _ => none))))))])) lv (.ref q :: st) (pc + 3)) : atG p l e R s0 m args below meth c cells slots Z nL (iW D A H0 w0) lv (.int k :: st) pc := by
  intro H locs ls hI hl
  subst hc2
  subst hs2
  refine va_newq (D := D) (cl := vwCl) (tys := tyW cy) C.1 C.2.1 C.2.2.2.1 (C.2.2.2.2.1 _ hcl) hover K.1 hI.1 hI.2.1 hI.2.2 K.2 hn hN hbytes hR.1 hR.2 hdg (fun q cA H1 hK2 h1 h2 h3 => ?_)
  have e := ra_uni K ht hK2
  subst e
  exact kk q H1 locs ls ⟨h1, h2, h3⟩ hl
end MN
