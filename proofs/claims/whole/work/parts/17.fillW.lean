def rmJ7_fill_53178 : Room := { frames := 0, cells := 0, slots := 0, locals := 0 }
section SJ7_fill_53178
variable {p : Program} {l : Launch} {e : Env} {s0 : State} {m : MethodId} {args : Array Value} {below : List Frame} {meth : Method} {c : Code} {D : va_G} {A : Nat → Prop} {H0 : Heap} {cy : Nat → ClassId} {Z : State → Prop}
theorem tbJ7_fill_53178_5 (C : ctB p s0 m args c cJ7_fill_53178 4 RJ7 wsJ7_fill_53178) (K : ctK s0 D A H0 cy) {o : Nat} {ad ln : Nat → Nat}  {x1 : Int32} {x3 : Int32} {k20 : St → Prop} (hk20 : ∀ (s : St), k20 s → atG p l e rmJ7_fill_53178 s0 m args below meth c 0 0 Z 4 (iW D A H0 (wXF cy o ad ln s)) [] [] 20) {kH : St → Int32 → Prop} (hkH : ∀ (s : St) (y2 : Int32), kH s y2 → atG p l e rmJ7_fill_53178 s0 m args below meth c 0 0 Z 4 (iW D A H0 (wXF cy o ad ln s)) [(0, .ref (ad 0)), (1, .int x1), (2, .int y2), (3, .int x3)] [] 5) (s : St) (x2 : Int32) (h : bJ7_fill_53178_5 ln x1 x3 k20 kH s x2) : atG p l e rmJ7_fill_53178 s0 m args below meth c 0 0 Z 4 (iW D A H0 (wXF cy o ad ln s)) [(0, .ref (ad 0)), (1, .int x1), (2, .int x2), (3, .int x3)] [] 5 := by
  delta bJ7_fill_53178_5 at h
  refine aw_iload_n C dJ7_fill_53178_5 2 rfl ?_
  refine aw_iload_n C dJ7_fill_53178_6 3 rfl ?_
  refine aw_icmp_ge (tgt := 20) C dJ7_fill_53178_7 (by decide) (fun c7 => ?_) (fun c7 => ?_)
  · have h := h.1 c7
    refine aw_lv [] rfl ?_
    exact hk20 s h
  have h := h.2 c7
  refine aw_aload_n C dJ7_fill_53178_10 0 rfl ?_
  refine aw_iload_n C dJ7_fill_53178_11 2 rfl ?_
  refine aw_iload_n C dJ7_fill_53178_12 1 rfl ?_
  obtain ⟨b13, h⟩ := h
  refine aw_iast C K dJ7_fill_53178_13 0 (wXF_g0 ..) (wXF_s0 ..) b13 ?_
  obtain ⟨s13, es13⟩ : ∃ z, z = (uA s 0 (upd (sA s 0) x2.toNatClampNeg x1)) := ⟨_, rfl⟩
  rw [← es13]
  have h := h s13 es13
  obtain ⟨x2_14, ex2_14⟩ : ∃ y : Int32, y = x2 + 1 := ⟨_, rfl⟩
  have h := h x2_14 ex2_14
  refine aw_iinc (v := x2_14) (lv' := [(2, .int x2_14), (0, .ref (ad 0)), (1, .int x1), (3, .int x3)]) C dJ7_fill_53178_14 2 rfl (by rw [ex2_14]; rfl) (by decide) rfl ?_
  refine aw_goto (tgt := 5) C dJ7_fill_53178_17 (by decide) ?_
  refine aw_lv [1, 2, 0, 3] rfl ?_
  exact hkH s13 x2_14 h
theorem tlJ7_fill_53178_5 (C : ctB p s0 m args c cJ7_fill_53178 4 RJ7 wsJ7_fill_53178) (K : ctK s0 D A H0 cy) {o : Nat} {ad ln : Nat → Nat}  {x1 : Int32} {x3 : Int32} {k20 : St → Prop} (hk20 : ∀ (s : St), k20 s → atG p l e rmJ7_fill_53178 s0 m args below meth c 0 0 Z 4 (iW D A H0 (wXF cy o ad ln s)) [] [] 20) (s : St) (x2 : Int32) (h : lJ7_fill_53178_5 ln x1 x3 k20 s x2) : atG p l e rmJ7_fill_53178 s0 m args below meth c 0 0 Z 4 (iW D A H0 (wXF cy o ad ln s)) [(0, .ref (ad 0)), (1, .int x1), (2, .int x2), (3, .int x3)] [] 5 :=
  lp_W (σ := St × Int32) (P := fun q => atG p l e rmJ7_fill_53178 s0 m args below meth c 0 0 Z 4 (iW D A H0 (wXF cy o ad ln q.1)) [(0, .ref (ad 0)), (1, .int x1), (2, .int q.2), (3, .int x3)] [] 5) (fun K2 hK2 q hb => tbJ7_fill_53178_5 C K hk20 (fun s x2 hk => hK2 (s, x2) hk) q.1 q.2 hb) (s, x2) h
theorem eJ7_fill_53178 (C : ctB p s0 m args c cJ7_fill_53178 4 RJ7 wsJ7_fill_53178) (K : ctK s0 D A H0 cy) {o : Nat} {ad ln : Nat → Nat} {Q : St → Prop} (hQ : ∀ (u : St), Q u → ∀ pc, decode cJ7_fill_53178 pc = .ok (.return_, 1) → atG p l e rmJ7_fill_53178 s0 m args below meth c 0 0 Z 4 (iW D A H0 (wXF cy o ad ln u)) [] [] pc) (s : St) (x1 : Int32) (h : pJ7_fill_53178 ln s x1 Q) : atG p l e rmJ7_fill_53178 s0 m args below meth c 0 0 Z 4 (iW D A H0 (wXF cy o ad ln s)) [(0, .ref (ad 0)), (1, .int x1)] [] 0 := by
  delta pJ7_fill_53178 at h
  refine aw_iconst (v := 0) C dJ7_fill_53178_0 (by decide) ?_
  refine aw_istore_n (lv' := [(2, .int 0), (0, .ref (ad 0)), (1, .int x1)]) C dJ7_fill_53178_1 (by decide) rfl ?_
  refine aw_aload_n C dJ7_fill_53178_2 1 rfl ?_
  refine aw_alen C K dJ7_fill_53178_3 0 0 (wXF_g0 ..) rfl ?_
  refine aw_name (fun x3_4 ex3_4 => ?_)
  have h := h x3_4 ex3_4
  refine aw_istore_n (lv' := [(3, .int x3_4), (2, .int 0), (0, .ref (ad 0)), (1, .int x1)]) C dJ7_fill_53178_4 (by decide) rfl ?_
  refine aw_lv [2, 3, 1, 0] rfl ?_
  refine tlJ7_fill_53178_5 C K ?_ s 0 h
  intro s_20 h
  refine aw_lv [] rfl ?_
  exact hQ s_20 h 20 dJ7_fill_53178_20
end SJ7_fill_53178
theorem mtJ7_fill_53178 (l : Launch) (D : va_G) (cy : Nat → ClassId) (o : Nat) (ad ln : Nat → Nat) (s : St) (x1 : Int32) (Q : St → Prop) (hw : pJ7_fill_53178 ln s x1 Q) : mV l yJ7_fill_53178 wsJ7_fill_53178 rmJ7_fill_53178 D cy [.ref (ad 0), .int x1] (wXF cy o ad ln s) (wXF cy o ad ln) Q :=
  metV (Wd := wXF cy o ad ln) ⟨rfl, rfl⟩ (by decide) rfl (Nat.le_of_ble_eq_true rfl) (fun C K hQ => eJ7_fill_53178 C K hQ s x1 hw)
