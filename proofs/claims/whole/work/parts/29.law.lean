theorem li_sub {L i : Nat} (hL : L ≤ 3072) (hi : i ≤ 4000) : (Int32.ofNat L - 6 < nI i) ↔ L < i + 6 := by
  have h1 : (Int32.ofNat L).toInt = (L : Int) := nI_toInt (n := L) (by omega)
  have h2 : (nI i).toInt = (i : Int) := nI_toInt (by omega)
  rw [Int32.lt_iff_toInt_lt, Int32.toInt_sub, h1, h2]
  have h3 : (6 : Int32).toInt = 6 := by decide
  rw [h3]
  have h4 : ((L : Int) - 6).bmod (2 ^ 32) = (L : Int) - 6 := by
    apply Int.bmod_eq_of_le <;> omega
  rw [h4]
  omega
theorem li_in {L i j : Nat} (hL : L ≤ 3072) (h : i + 6 ≤ L) (hj : j < 6) : vp_in (nI i + nI j) L := by
  have e : nI i + nI j = nI (i + j) := by unfold nI; exact (Int32.ofNat_add i j).symm
  rw [e]
  exact vp_in_nI (by omega) (by omega)
section LW
variable {p : Program} {l : Launch} {e : Env} {R : Room} {s0 : State} {m : MethodId} {args : Array Value} {below : List Frame} {meth : Method} {c : Code} {cells slots : Nat} {Z : State → Prop} {nL : Nat} {lv : List (Nat × Value)} {st : List Value} {pc : Nat} {cc : ByteArray} {own : String} {ws : List Cond} {D : va_G} {A : Nat → Prop} {H0 : Heap} {b L : Nat} {xs : Nat → Int32} {w0 : va_W}
theorem aw_sld (C : ctB p s0 m args c cc nL own ws) (hX : va_X b L xs s0 H0) (hbl : b < H0.size) (hbA : ¬ A b) (hdg : decode cc pc = .ok (.iaload, 1)) {i : Int32} (hin : vp_in i L) (kk : atG p l e R s0 m args below meth c cells slots Z nL (iW D A H0 w0) lv (.int (xs i.toNatClampNeg) :: st) (pc + 1)) : atG p l e R s0 m args below meth c cells slots Z nL (iW D A H0 w0) lv (.int i :: .ref b :: st) pc := fun H locs ls hI hl => va_sld C.1 C.2.1 hX hbl hbA hI.2.2 hin hdg (kk H locs ls hI hl)
theorem aw_slen (C : ctB p s0 m args c cc nL own ws) (hX : va_X b L xs s0 H0) (hbl : b < H0.size) (hbA : ¬ A b) (hdg : decode cc pc = .ok (.arraylength, 1)) (kk : atG p l e R s0 m args below meth c cells slots Z nL (iW D A H0 w0) lv (.int (Int32.ofNat L) :: st) (pc + 1)) : atG p l e R s0 m args below meth c cells slots Z nL (iW D A H0 w0) lv (.ref b :: st) pc := fun H locs ls hI hl => va_slen C.1 C.2.1 hX hbl hbA hI.2.2 hdg (kk H locs ls hI hl)
end LW
def stepOK_0 (Rel : TS → St → Prop) : Prop := ∀ (T : TS) (M : St) (a1 a2 a3 : Int32), Rel T M → pX5_sheet T a1 a2 a3 (fun r u => pX6_sheet M a1 a2 a3 (fun rr v => r = rr ∧ Rel u v))
section CASE0
variable {p : Program} {l : Launch} {e : Env} {s : State} {m : MethodId} {below : List Frame} {meth : Method} {c : Code} {D : va_G} {A : Nat → Prop} {cy : Nat → ClassId} {b L : Nat} {xs : Nat → Int32} {cells slots : Nat}
theorem law_case_0 (C : ctB p s m #[Value.ref b] c cL_law 4 RL wsL_law) (K : ctK s D A s.heap cy) (hX : va_X b L xs s s.heap) (hbl : b < s.heap.size) (hbA : ¬ A b) {o : Nat} {ad : Nat → Nat} {oa : Nat} {aa : Nat → Nat} {or_ : Nat} {ar : Nat → Nat} {op : Nat} {ap : Nat → Nat} {o6 : Nat} {ad6 : Nat → Nat} {x3 : Int32} (hv1 : vp_in (x3 + 1) L) (hv2 : vp_in (x3 + 2) L) (hv3 : vp_in (x3 + 3) L) (hv4 : vp_in (x3 + 4) L) (hv5 : vp_in (x3 + 5) L) (hc : cells + 10 ≤ 600000) (hs : slots + 700 ≤ 7302250) {Rel : TS → St → Prop} (hstep : stepOK_0 Rel) {T : TS} {M : St} (hRel : Rel T M) (hnext : ∀ T2 M2, Rel T2 M2 → atG p l e room_1 s m #[Value.ref b] below meth c (cells + 10) (slots + 700) (lw_Z below #[Value.ref b] s) 4 (iW D A s.heap (wX5 cy o ad oa aa or_ ar op ap T2 ++ wX6 cy o6 ad6 M2)) [(0, .ref b), (1, .ref o), (2, .ref o6), (3, .int x3)] [] 1077) : atG p l e room_1 s m #[Value.ref b] below meth c cells slots (lw_Z below #[Value.ref b] s) 4 (iW D A s.heap (wX5 cy o ad oa aa or_ ar op ap T ++ wX6 cy o6 ad6 M)) [(0, .ref b), (1, .ref o), (2, .ref o6), (3, .int x3)] [] 144 := by
  have h := hstep T M (xs (x3 + 1).toNatClampNeg) (xs (x3 + 2).toNatClampNeg) (xs (x3 + 3).toNatClampNeg) hRel
  refine aw_aload_n C dL_law_144 1 rfl ?_
  refine aw_aload_n C dL_law_145 0 rfl ?_
  refine aw_iload_n C dL_law_146 3 rfl ?_
  refine aw_iconst (v := 1) C dL_law_147 (by decide) ?_
  refine aw_iadd C dL_law_148 ?_
  refine aw_sld C hX hbl hbA dL_law_149 hv1 ?_
  refine aw_aload_n C dL_law_150 0 rfl ?_
  refine aw_iload_n C dL_law_151 3 rfl ?_
  refine aw_iconst (v := 2) C dL_law_152 (by decide) ?_
  refine aw_iadd C dL_law_153 ?_
  refine aw_sld C hX hbl hbA dL_law_154 hv2 ?_
  refine aw_aload_n C dL_law_155 0 rfl ?_
  refine aw_iload_n C dL_law_156 3 rfl ?_
  refine aw_iconst (v := 3) C dL_law_157 (by decide) ?_
  refine aw_iadd C dL_law_158 ?_
  refine aw_sld C hX hbl hbA dL_law_159 hv3 ?_
  refine aw_callFI (cells2 := cells + 2) (slots2 := slots + 66) (Wx := fun u => (wX5 cy o ad oa aa or_ ar op ap u ++ wX6 cy o6 ad6 M)) (wr := wX6 cy o6 ad6 M) (As := [.int (xs (x3 + 1).toNatClampNeg), .int (xs (x3 + 2).toNatClampNeg), .int (xs (x3 + 3).toNatClampNeg)]) (rest := []) C K (mtX5_sheet l D cy o ad oa aa or_ ar op ap T (xs (x3 + 1).toNatClampNeg) (xs (x3 + 2).toNatClampNeg) (xs (x3 + 3).toNatClampNeg) _ h) (List.Perm.refl _) (fun u => List.Perm.refl _) (cwV 3 C.2.2.2.2.1 gL_law_X5_sheet rfl rfl rfl (by decide +kernel) ⟨Nat.le_of_ble_eq_true rfl, Nat.le_of_ble_eq_true rfl⟩) 0 5 (g5 ..) rfl rfl rfl rfl (Nat.le_of_ble_eq_true rfl) rfl rfl ⟨by show cells + 2 ≤ 600000; omega, by show slots + 66 ≤ 7302250; omega⟩ dL_law_160 (fun r u h => ?_)
  refine aw_perm (w1 := (wX5 cy o ad oa aa or_ ar op ap u ++ wX6 cy o6 ad6 M)) (List.Perm.refl _) ?_
  refine aw_aload_n C dL_law_163 2 rfl ?_
  refine aw_aload_n C dL_law_164 0 rfl ?_
  refine aw_iload_n C dL_law_165 3 rfl ?_
  refine aw_iconst (v := 1) C dL_law_166 (by decide) ?_
  refine aw_iadd C dL_law_167 ?_
  refine aw_sld C hX hbl hbA dL_law_168 hv1 ?_
  refine aw_aload_n C dL_law_169 0 rfl ?_
  refine aw_iload_n C dL_law_170 3 rfl ?_
  refine aw_iconst (v := 2) C dL_law_171 (by decide) ?_
  refine aw_iadd C dL_law_172 ?_
  refine aw_sld C hX hbl hbA dL_law_173 hv2 ?_
  refine aw_aload_n C dL_law_174 0 rfl ?_
  refine aw_iload_n C dL_law_175 3 rfl ?_
  refine aw_iconst (v := 3) C dL_law_176 (by decide) ?_
  refine aw_iadd C dL_law_177 ?_
  refine aw_sld C hX hbl hbA dL_law_178 hv3 ?_
  refine aw_callFI (cells2 := cells + 2) (slots2 := slots + 66) (Wx := fun w9 => (wX5 cy o ad oa aa or_ ar op ap u ++ wX6 cy o6 ad6 w9)) (wr := wX5 cy o ad oa aa or_ ar op ap u) (As := [.int (xs (x3 + 1).toNatClampNeg), .int (xs (x3 + 2).toNatClampNeg), .int (xs (x3 + 3).toNatClampNeg)]) (rest := [.int r]) C K (mtX6_sheet l D cy o6 ad6 M (xs (x3 + 1).toNatClampNeg) (xs (x3 + 2).toNatClampNeg) (xs (x3 + 3).toNatClampNeg) _ h) List.perm_append_comm (fun u => List.perm_append_comm) (cwV 3 C.2.2.2.2.1 gL_law_X6_sheet rfl rfl rfl (by decide +kernel) ⟨Nat.le_of_ble_eq_true rfl, Nat.le_of_ble_eq_true rfl⟩) 0 6 (wX6_g ..) rfl rfl rfl rfl (Nat.le_of_ble_eq_true rfl) rfl rfl ⟨by show cells + 2 ≤ 600000; omega, by show slots + 66 ≤ 7302250; omega⟩ dL_law_179 (fun rr v h => ?_)
  refine aw_perm (w1 := (wX5 cy o ad oa aa or_ ar op ap u ++ wX6 cy o6 ad6 v)) (List.Perm.refl _) ?_
  refine aw_icmp_eq (tgt := 1077) C dL_law_182 (by decide) (fun _ => ?_) (fun q => absurd h.1 q)
  refine aw_widen (cells2 := cells + 10) (slots2 := slots + 700) (by omega) (by omega) ?_
  exact hnext _ _ h.2
end CASE0
def stepOK_1 (Rel : TS → St → Prop) : Prop := ∀ (T : TS) (M : St) (a1 a2 a3 : Int32), Rel T M → pX5_set T a1 a2 a3 (fun r u => pX6_set M a1 a2 a3 (fun rr v => r = rr ∧ Rel u v))
section CASE1
variable {p : Program} {l : Launch} {e : Env} {s : State} {m : MethodId} {below : List Frame} {meth : Method} {c : Code} {D : va_G} {A : Nat → Prop} {cy : Nat → ClassId} {b L : Nat} {xs : Nat → Int32} {cells slots : Nat}
theorem law_case_1 (C : ctB p s m #[Value.ref b] c cL_law 4 RL wsL_law) (K : ctK s D A s.heap cy) (hX : va_X b L xs s s.heap) (hbl : b < s.heap.size) (hbA : ¬ A b) {o : Nat} {ad : Nat → Nat} {oa : Nat} {aa : Nat → Nat} {or_ : Nat} {ar : Nat → Nat} {op : Nat} {ap : Nat → Nat} {o6 : Nat} {ad6 : Nat → Nat} {x3 : Int32} (hv1 : vp_in (x3 + 1) L) (hv2 : vp_in (x3 + 2) L) (hv3 : vp_in (x3 + 3) L) (hv4 : vp_in (x3 + 4) L) (hv5 : vp_in (x3 + 5) L) (hc : cells + 10 ≤ 600000) (hs : slots + 700 ≤ 7302250) {Rel : TS → St → Prop} (hstep : stepOK_1 Rel) {T : TS} {M : St} (hRel : Rel T M) (hnext : ∀ T2 M2, Rel T2 M2 → atG p l e room_1 s m #[Value.ref b] below meth c (cells + 10) (slots + 700) (lw_Z below #[Value.ref b] s) 4 (iW D A s.heap (wX5 cy o ad oa aa or_ ar op ap T2 ++ wX6 cy o6 ad6 M2)) [(0, .ref b), (1, .ref o), (2, .ref o6), (3, .int x3)] [] 1077) : atG p l e room_1 s m #[Value.ref b] below meth c cells slots (lw_Z below #[Value.ref b] s) 4 (iW D A s.heap (wX5 cy o ad oa aa or_ ar op ap T ++ wX6 cy o6 ad6 M)) [(0, .ref b), (1, .ref o), (2, .ref o6), (3, .int x3)] [] 187 := by
  have h := hstep T M (xs (x3 + 1).toNatClampNeg) (xs (x3 + 2).toNatClampNeg) (xs (x3 + 3).toNatClampNeg) hRel
  refine aw_aload_n C dL_law_187 1 rfl ?_
  refine aw_aload_n C dL_law_188 0 rfl ?_
  refine aw_iload_n C dL_law_189 3 rfl ?_
  refine aw_iconst (v := 1) C dL_law_190 (by decide) ?_
  refine aw_iadd C dL_law_191 ?_
  refine aw_sld C hX hbl hbA dL_law_192 hv1 ?_
  refine aw_aload_n C dL_law_193 0 rfl ?_
  refine aw_iload_n C dL_law_194 3 rfl ?_
  refine aw_iconst (v := 2) C dL_law_195 (by decide) ?_
  refine aw_iadd C dL_law_196 ?_
  refine aw_sld C hX hbl hbA dL_law_197 hv2 ?_
  refine aw_aload_n C dL_law_198 0 rfl ?_
  refine aw_iload_n C dL_law_199 3 rfl ?_
  refine aw_iconst (v := 3) C dL_law_200 (by decide) ?_
  refine aw_iadd C dL_law_201 ?_
  refine aw_sld C hX hbl hbA dL_law_202 hv3 ?_
  refine aw_callFI (cells2 := cells) (slots2 := slots) (Wx := fun u => (wX5 cy o ad oa aa or_ ar op ap u ++ wX6 cy o6 ad6 M)) (wr := wX6 cy o6 ad6 M) (As := [.int (xs (x3 + 1).toNatClampNeg), .int (xs (x3 + 2).toNatClampNeg), .int (xs (x3 + 3).toNatClampNeg)]) (rest := []) C K (mtX5_set l D cy o ad oa aa or_ ar op ap T (xs (x3 + 1).toNatClampNeg) (xs (x3 + 2).toNatClampNeg) (xs (x3 + 3).toNatClampNeg) _ h) (List.Perm.refl _) (fun u => List.Perm.refl _) (cwV 3 C.2.2.2.2.1 gL_law_X5_set rfl rfl rfl (by decide +kernel) ⟨Nat.le_of_ble_eq_true rfl, Nat.le_of_ble_eq_true rfl⟩) 0 5 (g5 ..) rfl rfl rfl rfl (Nat.le_of_ble_eq_true rfl) rfl rfl ⟨by show cells ≤ 600000; omega, by show slots ≤ 7302250; omega⟩ dL_law_203 (fun r u h => ?_)
  refine aw_perm (w1 := (wX5 cy o ad oa aa or_ ar op ap u ++ wX6 cy o6 ad6 M)) (List.Perm.refl _) ?_
  refine aw_aload_n C dL_law_206 2 rfl ?_
  refine aw_aload_n C dL_law_207 0 rfl ?_
  refine aw_iload_n C dL_law_208 3 rfl ?_
  refine aw_iconst (v := 1) C dL_law_209 (by decide) ?_
  refine aw_iadd C dL_law_210 ?_
  refine aw_sld C hX hbl hbA dL_law_211 hv1 ?_
  refine aw_aload_n C dL_law_212 0 rfl ?_
  refine aw_iload_n C dL_law_213 3 rfl ?_
  refine aw_iconst (v := 2) C dL_law_214 (by decide) ?_
  refine aw_iadd C dL_law_215 ?_
  refine aw_sld C hX hbl hbA dL_law_216 hv2 ?_
  refine aw_aload_n C dL_law_217 0 rfl ?_
  refine aw_iload_n C dL_law_218 3 rfl ?_
  refine aw_iconst (v := 3) C dL_law_219 (by decide) ?_
  refine aw_iadd C dL_law_220 ?_
  refine aw_sld C hX hbl hbA dL_law_221 hv3 ?_
  refine aw_callFI (cells2 := cells) (slots2 := slots) (Wx := fun w9 => (wX5 cy o ad oa aa or_ ar op ap u ++ wX6 cy o6 ad6 w9)) (wr := wX5 cy o ad oa aa or_ ar op ap u) (As := [.int (xs (x3 + 1).toNatClampNeg), .int (xs (x3 + 2).toNatClampNeg), .int (xs (x3 + 3).toNatClampNeg)]) (rest := [.int r]) C K (mtX6_set l D cy o6 ad6 M (xs (x3 + 1).toNatClampNeg) (xs (x3 + 2).toNatClampNeg) (xs (x3 + 3).toNatClampNeg) _ h) List.perm_append_comm (fun u => List.perm_append_comm) (cwV 3 C.2.2.2.2.1 gL_law_X6_set rfl rfl rfl (by decide +kernel) ⟨Nat.le_of_ble_eq_true rfl, Nat.le_of_ble_eq_true rfl⟩) 0 6 (wX6_g ..) rfl rfl rfl rfl (Nat.le_of_ble_eq_true rfl) rfl rfl ⟨by show cells ≤ 600000; omega, by show slots ≤ 7302250; omega⟩ dL_law_222 (fun rr v h => ?_)
  refine aw_perm (w1 := (wX5 cy o ad oa aa or_ ar op ap u ++ wX6 cy o6 ad6 v)) (List.Perm.refl _) ?_
  refine aw_icmp_eq (tgt := 1077) C dL_law_225 (by decide) (fun _ => ?_) (fun q => absurd h.1 q)
  refine aw_widen (cells2 := cells + 10) (slots2 := slots + 700) (by omega) (by omega) ?_
  exact hnext _ _ h.2
end CASE1
def stepOK_2 (Rel : TS → St → Prop) : Prop := ∀ (T : TS) (M : St) (a1 a2 a3 a4 a5 : Int32), Rel T M → pX5_copy T a1 a2 a3 a4 a5 (fun r u => pX6_copy M a1 a2 a3 a4 a5 (fun rr v => r = rr ∧ Rel u v))
section CASE2
variable {p : Program} {l : Launch} {e : Env} {s : State} {m : MethodId} {below : List Frame} {meth : Method} {c : Code} {D : va_G} {A : Nat → Prop} {cy : Nat → ClassId} {b L : Nat} {xs : Nat → Int32} {cells slots : Nat}
theorem law_case_2 (C : ctB p s m #[Value.ref b] c cL_law 4 RL wsL_law) (K : ctK s D A s.heap cy) (hX : va_X b L xs s s.heap) (hbl : b < s.heap.size) (hbA : ¬ A b) {o : Nat} {ad : Nat → Nat} {oa : Nat} {aa : Nat → Nat} {or_ : Nat} {ar : Nat → Nat} {op : Nat} {ap : Nat → Nat} {o6 : Nat} {ad6 : Nat → Nat} {x3 : Int32} (hv1 : vp_in (x3 + 1) L) (hv2 : vp_in (x3 + 2) L) (hv3 : vp_in (x3 + 3) L) (hv4 : vp_in (x3 + 4) L) (hv5 : vp_in (x3 + 5) L) (hc : cells + 10 ≤ 600000) (hs : slots + 700 ≤ 7302250) {Rel : TS → St → Prop} (hstep : stepOK_2 Rel) {T : TS} {M : St} (hRel : Rel T M) (hnext : ∀ T2 M2, Rel T2 M2 → atG p l e room_1 s m #[Value.ref b] below meth c (cells + 10) (slots + 700) (lw_Z below #[Value.ref b] s) 4 (iW D A s.heap (wX5 cy o ad oa aa or_ ar op ap T2 ++ wX6 cy o6 ad6 M2)) [(0, .ref b), (1, .ref o), (2, .ref o6), (3, .int x3)] [] 1077) : atG p l e room_1 s m #[Value.ref b] below meth c cells slots (lw_Z below #[Value.ref b] s) 4 (iW D A s.heap (wX5 cy o ad oa aa or_ ar op ap T ++ wX6 cy o6 ad6 M)) [(0, .ref b), (1, .ref o), (2, .ref o6), (3, .int x3)] [] 230 := by
  have h := hstep T M (xs (x3 + 1).toNatClampNeg) (xs (x3 + 2).toNatClampNeg) (xs (x3 + 3).toNatClampNeg) (xs (x3 + 4).toNatClampNeg) (xs (x3 + 5).toNatClampNeg) hRel
  refine aw_aload_n C dL_law_230 1 rfl ?_
  refine aw_aload_n C dL_law_231 0 rfl ?_
  refine aw_iload_n C dL_law_232 3 rfl ?_
  refine aw_iconst (v := 1) C dL_law_233 (by decide) ?_
  refine aw_iadd C dL_law_234 ?_
  refine aw_sld C hX hbl hbA dL_law_235 hv1 ?_
  refine aw_aload_n C dL_law_236 0 rfl ?_
  refine aw_iload_n C dL_law_237 3 rfl ?_
  refine aw_iconst (v := 2) C dL_law_238 (by decide) ?_
  refine aw_iadd C dL_law_239 ?_
  refine aw_sld C hX hbl hbA dL_law_240 hv2 ?_
  refine aw_aload_n C dL_law_241 0 rfl ?_
  refine aw_iload_n C dL_law_242 3 rfl ?_
  refine aw_iconst (v := 3) C dL_law_243 (by decide) ?_
  refine aw_iadd C dL_law_244 ?_
  refine aw_sld C hX hbl hbA dL_law_245 hv3 ?_
  refine aw_aload_n C dL_law_246 0 rfl ?_
  refine aw_iload_n C dL_law_247 3 rfl ?_
  refine aw_iconst (v := 4) C dL_law_248 (by decide) ?_
  refine aw_iadd C dL_law_249 ?_
  refine aw_sld C hX hbl hbA dL_law_250 hv4 ?_
  refine aw_aload_n C dL_law_251 0 rfl ?_
  refine aw_iload_n C dL_law_252 3 rfl ?_
  refine aw_iconst (v := 5) C dL_law_253 (by decide) ?_
  refine aw_iadd C dL_law_254 ?_
  refine aw_sld C hX hbl hbA dL_law_255 hv5 ?_
  refine aw_callFI (cells2 := cells) (slots2 := slots) (Wx := fun u => (wX5 cy o ad oa aa or_ ar op ap u ++ wX6 cy o6 ad6 M)) (wr := wX6 cy o6 ad6 M) (As := [.int (xs (x3 + 1).toNatClampNeg), .int (xs (x3 + 2).toNatClampNeg), .int (xs (x3 + 3).toNatClampNeg), .int (xs (x3 + 4).toNatClampNeg), .int (xs (x3 + 5).toNatClampNeg)]) (rest := []) C K (mtX5_copy l D cy o ad oa aa or_ ar op ap T (xs (x3 + 1).toNatClampNeg) (xs (x3 + 2).toNatClampNeg) (xs (x3 + 3).toNatClampNeg) (xs (x3 + 4).toNatClampNeg) (xs (x3 + 5).toNatClampNeg) _ h) (List.Perm.refl _) (fun u => List.Perm.refl _) (cwV 5 C.2.2.2.2.1 gL_law_X5_copy rfl rfl rfl (by decide +kernel) ⟨Nat.le_of_ble_eq_true rfl, Nat.le_of_ble_eq_true rfl⟩) 0 5 (g5 ..) rfl rfl rfl rfl (Nat.le_of_ble_eq_true rfl) rfl rfl ⟨by show cells ≤ 600000; omega, by show slots ≤ 7302250; omega⟩ dL_law_256 (fun r u h => ?_)
  refine aw_perm (w1 := (wX5 cy o ad oa aa or_ ar op ap u ++ wX6 cy o6 ad6 M)) (List.Perm.refl _) ?_
  refine aw_aload_n C dL_law_259 2 rfl ?_
  refine aw_aload_n C dL_law_260 0 rfl ?_
  refine aw_iload_n C dL_law_261 3 rfl ?_
  refine aw_iconst (v := 1) C dL_law_262 (by decide) ?_
  refine aw_iadd C dL_law_263 ?_
  refine aw_sld C hX hbl hbA dL_law_264 hv1 ?_
  refine aw_aload_n C dL_law_265 0 rfl ?_
  refine aw_iload_n C dL_law_266 3 rfl ?_
  refine aw_iconst (v := 2) C dL_law_267 (by decide) ?_
  refine aw_iadd C dL_law_268 ?_
  refine aw_sld C hX hbl hbA dL_law_269 hv2 ?_
  refine aw_aload_n C dL_law_270 0 rfl ?_
  refine aw_iload_n C dL_law_271 3 rfl ?_
  refine aw_iconst (v := 3) C dL_law_272 (by decide) ?_
  refine aw_iadd C dL_law_273 ?_
  refine aw_sld C hX hbl hbA dL_law_274 hv3 ?_
  refine aw_aload_n C dL_law_275 0 rfl ?_
  refine aw_iload_n C dL_law_276 3 rfl ?_
  refine aw_iconst (v := 4) C dL_law_277 (by decide) ?_
  refine aw_iadd C dL_law_278 ?_
  refine aw_sld C hX hbl hbA dL_law_279 hv4 ?_
  refine aw_aload_n C dL_law_280 0 rfl ?_
  refine aw_iload_n C dL_law_281 3 rfl ?_
  refine aw_iconst (v := 5) C dL_law_282 (by decide) ?_
  refine aw_iadd C dL_law_283 ?_
  refine aw_sld C hX hbl hbA dL_law_284 hv5 ?_
  refine aw_callFI (cells2 := cells) (slots2 := slots) (Wx := fun w9 => (wX5 cy o ad oa aa or_ ar op ap u ++ wX6 cy o6 ad6 w9)) (wr := wX5 cy o ad oa aa or_ ar op ap u) (As := [.int (xs (x3 + 1).toNatClampNeg), .int (xs (x3 + 2).toNatClampNeg), .int (xs (x3 + 3).toNatClampNeg), .int (xs (x3 + 4).toNatClampNeg), .int (xs (x3 + 5).toNatClampNeg)]) (rest := [.int r]) C K (mtX6_copy l D cy o6 ad6 M (xs (x3 + 1).toNatClampNeg) (xs (x3 + 2).toNatClampNeg) (xs (x3 + 3).toNatClampNeg) (xs (x3 + 4).toNatClampNeg) (xs (x3 + 5).toNatClampNeg) _ h) List.perm_append_comm (fun u => List.perm_append_comm) (cwV 5 C.2.2.2.2.1 gL_law_X6_copy rfl rfl rfl (by decide +kernel) ⟨Nat.le_of_ble_eq_true rfl, Nat.le_of_ble_eq_true rfl⟩) 0 6 (wX6_g ..) rfl rfl rfl rfl (Nat.le_of_ble_eq_true rfl) rfl rfl ⟨by show cells ≤ 600000; omega, by show slots ≤ 7302250; omega⟩ dL_law_285 (fun rr v h => ?_)
  refine aw_perm (w1 := (wX5 cy o ad oa aa or_ ar op ap u ++ wX6 cy o6 ad6 v)) (List.Perm.refl _) ?_
  refine aw_icmp_eq (tgt := 1077) C dL_law_288 (by decide) (fun _ => ?_) (fun q => absurd h.1 q)
  refine aw_widen (cells2 := cells + 10) (slots2 := slots + 700) (by omega) (by omega) ?_
  exact hnext _ _ h.2
end CASE2
def stepOK_3 (Rel : TS → St → Prop) : Prop := ∀ (T : TS) (M : St) (a1 : Int32), Rel T M → pX5_drop T a1 (fun r u => pX6_drop M a1 (fun rr v => r = rr ∧ Rel u v))
section CASE3
variable {p : Program} {l : Launch} {e : Env} {s : State} {m : MethodId} {below : List Frame} {meth : Method} {c : Code} {D : va_G} {A : Nat → Prop} {cy : Nat → ClassId} {b L : Nat} {xs : Nat → Int32} {cells slots : Nat}
theorem law_case_3 (C : ctB p s m #[Value.ref b] c cL_law 4 RL wsL_law) (K : ctK s D A s.heap cy) (hX : va_X b L xs s s.heap) (hbl : b < s.heap.size) (hbA : ¬ A b) {o : Nat} {ad : Nat → Nat} {oa : Nat} {aa : Nat → Nat} {or_ : Nat} {ar : Nat → Nat} {op : Nat} {ap : Nat → Nat} {o6 : Nat} {ad6 : Nat → Nat} {x3 : Int32} (hv1 : vp_in (x3 + 1) L) (hv2 : vp_in (x3 + 2) L) (hv3 : vp_in (x3 + 3) L) (hv4 : vp_in (x3 + 4) L) (hv5 : vp_in (x3 + 5) L) (hc : cells + 10 ≤ 600000) (hs : slots + 700 ≤ 7302250) {Rel : TS → St → Prop} (hstep : stepOK_3 Rel) {T : TS} {M : St} (hRel : Rel T M) (hnext : ∀ T2 M2, Rel T2 M2 → atG p l e room_1 s m #[Value.ref b] below meth c (cells + 10) (slots + 700) (lw_Z below #[Value.ref b] s) 4 (iW D A s.heap (wX5 cy o ad oa aa or_ ar op ap T2 ++ wX6 cy o6 ad6 M2)) [(0, .ref b), (1, .ref o), (2, .ref o6), (3, .int x3)] [] 1077) : atG p l e room_1 s m #[Value.ref b] below meth c cells slots (lw_Z below #[Value.ref b] s) 4 (iW D A s.heap (wX5 cy o ad oa aa or_ ar op ap T ++ wX6 cy o6 ad6 M)) [(0, .ref b), (1, .ref o), (2, .ref o6), (3, .int x3)] [] 293 := by
  have h := hstep T M (xs (x3 + 1).toNatClampNeg) hRel
  refine aw_aload_n C dL_law_293 1 rfl ?_
  refine aw_aload_n C dL_law_294 0 rfl ?_
  refine aw_iload_n C dL_law_295 3 rfl ?_
  refine aw_iconst (v := 1) C dL_law_296 (by decide) ?_
  refine aw_iadd C dL_law_297 ?_
  refine aw_sld C hX hbl hbA dL_law_298 hv1 ?_
  refine aw_callFI (cells2 := cells) (slots2 := slots) (Wx := fun u => (wX5 cy o ad oa aa or_ ar op ap u ++ wX6 cy o6 ad6 M)) (wr := wX6 cy o6 ad6 M) (As := [.int (xs (x3 + 1).toNatClampNeg)]) (rest := []) C K (mtX5_drop l D cy o ad oa aa or_ ar op ap T (xs (x3 + 1).toNatClampNeg) _ h) (List.Perm.refl _) (fun u => List.Perm.refl _) (cwV 1 C.2.2.2.2.1 gL_law_X5_drop rfl rfl rfl (by decide +kernel) ⟨Nat.le_of_ble_eq_true rfl, Nat.le_of_ble_eq_true rfl⟩) 0 5 (g5 ..) rfl rfl rfl rfl (Nat.le_of_ble_eq_true rfl) rfl rfl ⟨by show cells ≤ 600000; omega, by show slots ≤ 7302250; omega⟩ dL_law_299 (fun r u h => ?_)
  refine aw_perm (w1 := (wX5 cy o ad oa aa or_ ar op ap u ++ wX6 cy o6 ad6 M)) (List.Perm.refl _) ?_
  refine aw_aload_n C dL_law_302 2 rfl ?_
  refine aw_aload_n C dL_law_303 0 rfl ?_
  refine aw_iload_n C dL_law_304 3 rfl ?_
  refine aw_iconst (v := 1) C dL_law_305 (by decide) ?_
  refine aw_iadd C dL_law_306 ?_
  refine aw_sld C hX hbl hbA dL_law_307 hv1 ?_
  refine aw_callFI (cells2 := cells) (slots2 := slots) (Wx := fun w9 => (wX5 cy o ad oa aa or_ ar op ap u ++ wX6 cy o6 ad6 w9)) (wr := wX5 cy o ad oa aa or_ ar op ap u) (As := [.int (xs (x3 + 1).toNatClampNeg)]) (rest := [.int r]) C K (mtX6_drop l D cy o6 ad6 M (xs (x3 + 1).toNatClampNeg) _ h) List.perm_append_comm (fun u => List.perm_append_comm) (cwV 1 C.2.2.2.2.1 gL_law_X6_drop rfl rfl rfl (by decide +kernel) ⟨Nat.le_of_ble_eq_true rfl, Nat.le_of_ble_eq_true rfl⟩) 0 6 (wX6_g ..) rfl rfl rfl rfl (Nat.le_of_ble_eq_true rfl) rfl rfl ⟨by show cells ≤ 600000; omega, by show slots ≤ 7302250; omega⟩ dL_law_308 (fun rr v h => ?_)
  refine aw_perm (w1 := (wX5 cy o ad oa aa or_ ar op ap u ++ wX6 cy o6 ad6 v)) (List.Perm.refl _) ?_
  refine aw_icmp_eq (tgt := 1077) C dL_law_311 (by decide) (fun _ => ?_) (fun q => absurd h.1 q)
  refine aw_widen (cells2 := cells + 10) (slots2 := slots + 700) (by omega) (by omega) ?_
  exact hnext _ _ h.2
end CASE3
def stepOK_4 (Rel : TS → St → Prop) : Prop := ∀ (T : TS) (M : St) (a1 a2 a3 a4 : Int32), Rel T M → pX5_net T a1 a2 a3 a4 (fun r u => pX6_net M a1 a2 a3 a4 (fun rr v => r = rr ∧ Rel u v))
section CASE4
variable {p : Program} {l : Launch} {e : Env} {s : State} {m : MethodId} {below : List Frame} {meth : Method} {c : Code} {D : va_G} {A : Nat → Prop} {cy : Nat → ClassId} {b L : Nat} {xs : Nat → Int32} {cells slots : Nat}
theorem law_case_4 (C : ctB p s m #[Value.ref b] c cL_law 4 RL wsL_law) (K : ctK s D A s.heap cy) (hX : va_X b L xs s s.heap) (hbl : b < s.heap.size) (hbA : ¬ A b) {o : Nat} {ad : Nat → Nat} {oa : Nat} {aa : Nat → Nat} {or_ : Nat} {ar : Nat → Nat} {op : Nat} {ap : Nat → Nat} {o6 : Nat} {ad6 : Nat → Nat} {x3 : Int32} (hv1 : vp_in (x3 + 1) L) (hv2 : vp_in (x3 + 2) L) (hv3 : vp_in (x3 + 3) L) (hv4 : vp_in (x3 + 4) L) (hv5 : vp_in (x3 + 5) L) (hc : cells + 10 ≤ 600000) (hs : slots + 700 ≤ 7302250) {Rel : TS → St → Prop} (hstep : stepOK_4 Rel) {T : TS} {M : St} (hRel : Rel T M) (hnext : ∀ T2 M2, Rel T2 M2 → atG p l e room_1 s m #[Value.ref b] below meth c (cells + 10) (slots + 700) (lw_Z below #[Value.ref b] s) 4 (iW D A s.heap (wX5 cy o ad oa aa or_ ar op ap T2 ++ wX6 cy o6 ad6 M2)) [(0, .ref b), (1, .ref o), (2, .ref o6), (3, .int x3)] [] 1077) : atG p l e room_1 s m #[Value.ref b] below meth c cells slots (lw_Z below #[Value.ref b] s) 4 (iW D A s.heap (wX5 cy o ad oa aa or_ ar op ap T ++ wX6 cy o6 ad6 M)) [(0, .ref b), (1, .ref o), (2, .ref o6), (3, .int x3)] [] 316 := by
  have h := hstep T M (xs (x3 + 1).toNatClampNeg) (xs (x3 + 2).toNatClampNeg) (xs (x3 + 3).toNatClampNeg) (xs (x3 + 4).toNatClampNeg) hRel
  refine aw_aload_n C dL_law_316 1 rfl ?_
  refine aw_aload_n C dL_law_317 0 rfl ?_
  refine aw_iload_n C dL_law_318 3 rfl ?_
  refine aw_iconst (v := 1) C dL_law_319 (by decide) ?_
  refine aw_iadd C dL_law_320 ?_
  refine aw_sld C hX hbl hbA dL_law_321 hv1 ?_
  refine aw_aload_n C dL_law_322 0 rfl ?_
  refine aw_iload_n C dL_law_323 3 rfl ?_
  refine aw_iconst (v := 2) C dL_law_324 (by decide) ?_
  refine aw_iadd C dL_law_325 ?_
  refine aw_sld C hX hbl hbA dL_law_326 hv2 ?_
  refine aw_aload_n C dL_law_327 0 rfl ?_
  refine aw_iload_n C dL_law_328 3 rfl ?_
  refine aw_iconst (v := 3) C dL_law_329 (by decide) ?_
  refine aw_iadd C dL_law_330 ?_
  refine aw_sld C hX hbl hbA dL_law_331 hv3 ?_
  refine aw_aload_n C dL_law_332 0 rfl ?_
  refine aw_iload_n C dL_law_333 3 rfl ?_
  refine aw_iconst (v := 4) C dL_law_334 (by decide) ?_
  refine aw_iadd C dL_law_335 ?_
  refine aw_sld C hX hbl hbA dL_law_336 hv4 ?_
  refine aw_callFI (cells2 := cells + 10) (slots2 := slots + 665) (Wx := fun u => (wX5 cy o ad oa aa or_ ar op ap u ++ wX6 cy o6 ad6 M)) (wr := wX6 cy o6 ad6 M) (As := [.int (xs (x3 + 1).toNatClampNeg), .int (xs (x3 + 2).toNatClampNeg), .int (xs (x3 + 3).toNatClampNeg), .int (xs (x3 + 4).toNatClampNeg)]) (rest := []) C K (mtX5_net l D cy o ad oa aa or_ ar op ap T (xs (x3 + 1).toNatClampNeg) (xs (x3 + 2).toNatClampNeg) (xs (x3 + 3).toNatClampNeg) (xs (x3 + 4).toNatClampNeg) _ h) (List.Perm.refl _) (fun u => List.Perm.refl _) (cwV 4 C.2.2.2.2.1 gL_law_X5_net rfl rfl rfl (by decide +kernel) ⟨Nat.le_of_ble_eq_true rfl, Nat.le_of_ble_eq_true rfl⟩) 0 5 (g5 ..) rfl rfl rfl rfl (Nat.le_of_ble_eq_true rfl) rfl rfl ⟨by show cells + 10 ≤ 600000; omega, by show slots + 665 ≤ 7302250; omega⟩ dL_law_337 (fun r u h => ?_)
  refine aw_perm (w1 := (wX5 cy o ad oa aa or_ ar op ap u ++ wX6 cy o6 ad6 M)) (List.Perm.refl _) ?_
  refine aw_aload_n C dL_law_340 2 rfl ?_
  refine aw_aload_n C dL_law_341 0 rfl ?_
  refine aw_iload_n C dL_law_342 3 rfl ?_
  refine aw_iconst (v := 1) C dL_law_343 (by decide) ?_
  refine aw_iadd C dL_law_344 ?_
  refine aw_sld C hX hbl hbA dL_law_345 hv1 ?_
  refine aw_aload_n C dL_law_346 0 rfl ?_
  refine aw_iload_n C dL_law_347 3 rfl ?_
  refine aw_iconst (v := 2) C dL_law_348 (by decide) ?_
  refine aw_iadd C dL_law_349 ?_
  refine aw_sld C hX hbl hbA dL_law_350 hv2 ?_
  refine aw_aload_n C dL_law_351 0 rfl ?_
  refine aw_iload_n C dL_law_352 3 rfl ?_
  refine aw_iconst (v := 3) C dL_law_353 (by decide) ?_
  refine aw_iadd C dL_law_354 ?_
  refine aw_sld C hX hbl hbA dL_law_355 hv3 ?_
  refine aw_aload_n C dL_law_356 0 rfl ?_
  refine aw_iload_n C dL_law_357 3 rfl ?_
  refine aw_iconst (v := 4) C dL_law_358 (by decide) ?_
  refine aw_iadd C dL_law_359 ?_
  refine aw_sld C hX hbl hbA dL_law_360 hv4 ?_
  refine aw_callFI (cells2 := cells + 10) (slots2 := slots + 665) (Wx := fun w9 => (wX5 cy o ad oa aa or_ ar op ap u ++ wX6 cy o6 ad6 w9)) (wr := wX5 cy o ad oa aa or_ ar op ap u) (As := [.int (xs (x3 + 1).toNatClampNeg), .int (xs (x3 + 2).toNatClampNeg), .int (xs (x3 + 3).toNatClampNeg), .int (xs (x3 + 4).toNatClampNeg)]) (rest := [.int r]) C K (mtX6_net l D cy o6 ad6 M (xs (x3 + 1).toNatClampNeg) (xs (x3 + 2).toNatClampNeg) (xs (x3 + 3).toNatClampNeg) (xs (x3 + 4).toNatClampNeg) _ h) List.perm_append_comm (fun u => List.perm_append_comm) (cwV 4 C.2.2.2.2.1 gL_law_X6_net rfl rfl rfl (by decide +kernel) ⟨Nat.le_of_ble_eq_true rfl, Nat.le_of_ble_eq_true rfl⟩) 0 6 (wX6_g ..) rfl rfl rfl rfl (Nat.le_of_ble_eq_true rfl) rfl rfl ⟨by show cells + 10 ≤ 600000; omega, by show slots + 665 ≤ 7302250; omega⟩ dL_law_361 (fun rr v h => ?_)
  refine aw_perm (w1 := (wX5 cy o ad oa aa or_ ar op ap u ++ wX6 cy o6 ad6 v)) (List.Perm.refl _) ?_
  refine aw_icmp_eq (tgt := 1077) C dL_law_364 (by decide) (fun _ => ?_) (fun q => absurd h.1 q)
  refine aw_widen (cells2 := cells + 10) (slots2 := slots + 700) (by omega) (by omega) ?_
  exact hnext _ _ h.2
end CASE4
def stepOK_5 (Rel : TS → St → Prop) : Prop := ∀ (T : TS) (M : St) (a1 : Int32), Rel T M → pX5_clear T a1 (fun r u => pX6_clear M a1 (fun rr v => r = rr ∧ Rel u v))
section CASE5
variable {p : Program} {l : Launch} {e : Env} {s : State} {m : MethodId} {below : List Frame} {meth : Method} {c : Code} {D : va_G} {A : Nat → Prop} {cy : Nat → ClassId} {b L : Nat} {xs : Nat → Int32} {cells slots : Nat}
theorem law_case_5 (C : ctB p s m #[Value.ref b] c cL_law 4 RL wsL_law) (K : ctK s D A s.heap cy) (hX : va_X b L xs s s.heap) (hbl : b < s.heap.size) (hbA : ¬ A b) {o : Nat} {ad : Nat → Nat} {oa : Nat} {aa : Nat → Nat} {or_ : Nat} {ar : Nat → Nat} {op : Nat} {ap : Nat → Nat} {o6 : Nat} {ad6 : Nat → Nat} {x3 : Int32} (hv1 : vp_in (x3 + 1) L) (hv2 : vp_in (x3 + 2) L) (hv3 : vp_in (x3 + 3) L) (hv4 : vp_in (x3 + 4) L) (hv5 : vp_in (x3 + 5) L) (hc : cells + 10 ≤ 600000) (hs : slots + 700 ≤ 7302250) {Rel : TS → St → Prop} (hstep : stepOK_5 Rel) {T : TS} {M : St} (hRel : Rel T M) (hnext : ∀ T2 M2, Rel T2 M2 → atG p l e room_1 s m #[Value.ref b] below meth c (cells + 10) (slots + 700) (lw_Z below #[Value.ref b] s) 4 (iW D A s.heap (wX5 cy o ad oa aa or_ ar op ap T2 ++ wX6 cy o6 ad6 M2)) [(0, .ref b), (1, .ref o), (2, .ref o6), (3, .int x3)] [] 1077) : atG p l e room_1 s m #[Value.ref b] below meth c cells slots (lw_Z below #[Value.ref b] s) 4 (iW D A s.heap (wX5 cy o ad oa aa or_ ar op ap T ++ wX6 cy o6 ad6 M)) [(0, .ref b), (1, .ref o), (2, .ref o6), (3, .int x3)] [] 369 := by
  have h := hstep T M (xs (x3 + 1).toNatClampNeg) hRel
  refine aw_aload_n C dL_law_369 1 rfl ?_
  refine aw_aload_n C dL_law_370 0 rfl ?_
  refine aw_iload_n C dL_law_371 3 rfl ?_
  refine aw_iconst (v := 1) C dL_law_372 (by decide) ?_
  refine aw_iadd C dL_law_373 ?_
  refine aw_sld C hX hbl hbA dL_law_374 hv1 ?_
  refine aw_callFI (cells2 := cells) (slots2 := slots) (Wx := fun u => (wX5 cy o ad oa aa or_ ar op ap u ++ wX6 cy o6 ad6 M)) (wr := wX6 cy o6 ad6 M) (As := [.int (xs (x3 + 1).toNatClampNeg)]) (rest := []) C K (mtX5_clear l D cy o ad oa aa or_ ar op ap T (xs (x3 + 1).toNatClampNeg) _ h) (List.Perm.refl _) (fun u => List.Perm.refl _) (cwV 1 C.2.2.2.2.1 gL_law_X5_clear rfl rfl rfl (by decide +kernel) ⟨Nat.le_of_ble_eq_true rfl, Nat.le_of_ble_eq_true rfl⟩) 0 5 (g5 ..) rfl rfl rfl rfl (Nat.le_of_ble_eq_true rfl) rfl rfl ⟨by show cells ≤ 600000; omega, by show slots ≤ 7302250; omega⟩ dL_law_375 (fun r u h => ?_)
  refine aw_perm (w1 := (wX5 cy o ad oa aa or_ ar op ap u ++ wX6 cy o6 ad6 M)) (List.Perm.refl _) ?_
  refine aw_aload_n C dL_law_378 2 rfl ?_
  refine aw_aload_n C dL_law_379 0 rfl ?_
  refine aw_iload_n C dL_law_380 3 rfl ?_
  refine aw_iconst (v := 1) C dL_law_381 (by decide) ?_
  refine aw_iadd C dL_law_382 ?_
  refine aw_sld C hX hbl hbA dL_law_383 hv1 ?_
  refine aw_callFI (cells2 := cells) (slots2 := slots) (Wx := fun w9 => (wX5 cy o ad oa aa or_ ar op ap u ++ wX6 cy o6 ad6 w9)) (wr := wX5 cy o ad oa aa or_ ar op ap u) (As := [.int (xs (x3 + 1).toNatClampNeg)]) (rest := [.int r]) C K (mtX6_clear l D cy o6 ad6 M (xs (x3 + 1).toNatClampNeg) _ h) List.perm_append_comm (fun u => List.perm_append_comm) (cwV 1 C.2.2.2.2.1 gL_law_X6_clear rfl rfl rfl (by decide +kernel) ⟨Nat.le_of_ble_eq_true rfl, Nat.le_of_ble_eq_true rfl⟩) 0 6 (wX6_g ..) rfl rfl rfl rfl (Nat.le_of_ble_eq_true rfl) rfl rfl ⟨by show cells ≤ 600000; omega, by show slots ≤ 7302250; omega⟩ dL_law_384 (fun rr v h => ?_)
  refine aw_perm (w1 := (wX5 cy o ad oa aa or_ ar op ap u ++ wX6 cy o6 ad6 v)) (List.Perm.refl _) ?_
  refine aw_icmp_eq (tgt := 1077) C dL_law_387 (by decide) (fun _ => ?_) (fun q => absurd h.1 q)
  refine aw_widen (cells2 := cells + 10) (slots2 := slots + 700) (by omega) (by omega) ?_
  exact hnext _ _ h.2
end CASE5
def stepOK_6 (Rel : TS → St → Prop) : Prop := ∀ (T : TS) (M : St) (a1 : Int32), Rel T M → pX5_kind T a1 (fun r u => pX6_kind M a1 (fun rr v => r = rr ∧ Rel u v))
section CASE6
variable {p : Program} {l : Launch} {e : Env} {s : State} {m : MethodId} {below : List Frame} {meth : Method} {c : Code} {D : va_G} {A : Nat → Prop} {cy : Nat → ClassId} {b L : Nat} {xs : Nat → Int32} {cells slots : Nat}
theorem law_case_6 (C : ctB p s m #[Value.ref b] c cL_law 4 RL wsL_law) (K : ctK s D A s.heap cy) (hX : va_X b L xs s s.heap) (hbl : b < s.heap.size) (hbA : ¬ A b) {o : Nat} {ad : Nat → Nat} {oa : Nat} {aa : Nat → Nat} {or_ : Nat} {ar : Nat → Nat} {op : Nat} {ap : Nat → Nat} {o6 : Nat} {ad6 : Nat → Nat} {x3 : Int32} (hv1 : vp_in (x3 + 1) L) (hv2 : vp_in (x3 + 2) L) (hv3 : vp_in (x3 + 3) L) (hv4 : vp_in (x3 + 4) L) (hv5 : vp_in (x3 + 5) L) (hc : cells + 10 ≤ 600000) (hs : slots + 700 ≤ 7302250) {Rel : TS → St → Prop} (hstep : stepOK_6 Rel) {T : TS} {M : St} (hRel : Rel T M) (hnext : ∀ T2 M2, Rel T2 M2 → atG p l e room_1 s m #[Value.ref b] below meth c (cells + 10) (slots + 700) (lw_Z below #[Value.ref b] s) 4 (iW D A s.heap (wX5 cy o ad oa aa or_ ar op ap T2 ++ wX6 cy o6 ad6 M2)) [(0, .ref b), (1, .ref o), (2, .ref o6), (3, .int x3)] [] 1077) : atG p l e room_1 s m #[Value.ref b] below meth c cells slots (lw_Z below #[Value.ref b] s) 4 (iW D A s.heap (wX5 cy o ad oa aa or_ ar op ap T ++ wX6 cy o6 ad6 M)) [(0, .ref b), (1, .ref o), (2, .ref o6), (3, .int x3)] [] 392 := by
  have h := hstep T M (xs (x3 + 1).toNatClampNeg) hRel
  refine aw_aload_n C dL_law_392 1 rfl ?_
  refine aw_aload_n C dL_law_393 0 rfl ?_
  refine aw_iload_n C dL_law_394 3 rfl ?_
  refine aw_iconst (v := 1) C dL_law_395 (by decide) ?_
  refine aw_iadd C dL_law_396 ?_
  refine aw_sld C hX hbl hbA dL_law_397 hv1 ?_
  refine aw_callFI (cells2 := cells) (slots2 := slots) (Wx := fun u => (wX5 cy o ad oa aa or_ ar op ap u ++ wX6 cy o6 ad6 M)) (wr := wX6 cy o6 ad6 M) (As := [.int (xs (x3 + 1).toNatClampNeg)]) (rest := []) C K (mtX5_kind l D cy o ad oa aa or_ ar op ap T (xs (x3 + 1).toNatClampNeg) _ h) (List.Perm.refl _) (fun u => List.Perm.refl _) (cwV 1 C.2.2.2.2.1 gL_law_X5_kind rfl rfl rfl (by decide +kernel) ⟨Nat.le_of_ble_eq_true rfl, Nat.le_of_ble_eq_true rfl⟩) 0 5 (g5 ..) rfl rfl rfl rfl (Nat.le_of_ble_eq_true rfl) rfl rfl ⟨by show cells ≤ 600000; omega, by show slots ≤ 7302250; omega⟩ dL_law_398 (fun r u h => ?_)
  refine aw_perm (w1 := (wX5 cy o ad oa aa or_ ar op ap u ++ wX6 cy o6 ad6 M)) (List.Perm.refl _) ?_
  refine aw_aload_n C dL_law_401 2 rfl ?_
  refine aw_aload_n C dL_law_402 0 rfl ?_
  refine aw_iload_n C dL_law_403 3 rfl ?_
  refine aw_iconst (v := 1) C dL_law_404 (by decide) ?_
  refine aw_iadd C dL_law_405 ?_
  refine aw_sld C hX hbl hbA dL_law_406 hv1 ?_
  refine aw_callFI (cells2 := cells) (slots2 := slots) (Wx := fun w9 => (wX5 cy o ad oa aa or_ ar op ap u ++ wX6 cy o6 ad6 w9)) (wr := wX5 cy o ad oa aa or_ ar op ap u) (As := [.int (xs (x3 + 1).toNatClampNeg)]) (rest := [.int r]) C K (mtX6_kind l D cy o6 ad6 M (xs (x3 + 1).toNatClampNeg) _ h) List.perm_append_comm (fun u => List.perm_append_comm) (cwV 1 C.2.2.2.2.1 gL_law_X6_kind rfl rfl rfl (by decide +kernel) ⟨Nat.le_of_ble_eq_true rfl, Nat.le_of_ble_eq_true rfl⟩) 0 6 (wX6_g ..) rfl rfl rfl rfl (Nat.le_of_ble_eq_true rfl) rfl rfl ⟨by show cells ≤ 600000; omega, by show slots ≤ 7302250; omega⟩ dL_law_407 (fun rr v h => ?_)
  refine aw_perm (w1 := (wX5 cy o ad oa aa or_ ar op ap u ++ wX6 cy o6 ad6 v)) (List.Perm.refl _) ?_
  refine aw_icmp_eq (tgt := 1077) C dL_law_410 (by decide) (fun _ => ?_) (fun q => absurd h.1 q)
  refine aw_widen (cells2 := cells + 10) (slots2 := slots + 700) (by omega) (by omega) ?_
  exact hnext _ _ h.2
end CASE6
def stepOK_7 (Rel : TS → St → Prop) : Prop := ∀ (T : TS) (M : St) (a1 a2 : Int32), Rel T M → pX5_is T a1 a2 (fun r => pX6_is M a1 a2 (fun rr v => r = rr ∧ Rel T v))
section CASE7
variable {p : Program} {l : Launch} {e : Env} {s : State} {m : MethodId} {below : List Frame} {meth : Method} {c : Code} {D : va_G} {A : Nat → Prop} {cy : Nat → ClassId} {b L : Nat} {xs : Nat → Int32} {cells slots : Nat}
theorem law_case_7 (C : ctB p s m #[Value.ref b] c cL_law 4 RL wsL_law) (K : ctK s D A s.heap cy) (hX : va_X b L xs s s.heap) (hbl : b < s.heap.size) (hbA : ¬ A b) {o : Nat} {ad : Nat → Nat} {oa : Nat} {aa : Nat → Nat} {or_ : Nat} {ar : Nat → Nat} {op : Nat} {ap : Nat → Nat} {o6 : Nat} {ad6 : Nat → Nat} {x3 : Int32} (hv1 : vp_in (x3 + 1) L) (hv2 : vp_in (x3 + 2) L) (hv3 : vp_in (x3 + 3) L) (hv4 : vp_in (x3 + 4) L) (hv5 : vp_in (x3 + 5) L) (hc : cells + 10 ≤ 600000) (hs : slots + 700 ≤ 7302250) {Rel : TS → St → Prop} (hstep : stepOK_7 Rel) {T : TS} {M : St} (hRel : Rel T M) (hnext : ∀ T2 M2, Rel T2 M2 → atG p l e room_1 s m #[Value.ref b] below meth c (cells + 10) (slots + 700) (lw_Z below #[Value.ref b] s) 4 (iW D A s.heap (wX5 cy o ad oa aa or_ ar op ap T2 ++ wX6 cy o6 ad6 M2)) [(0, .ref b), (1, .ref o), (2, .ref o6), (3, .int x3)] [] 1077) : atG p l e room_1 s m #[Value.ref b] below meth c cells slots (lw_Z below #[Value.ref b] s) 4 (iW D A s.heap (wX5 cy o ad oa aa or_ ar op ap T ++ wX6 cy o6 ad6 M)) [(0, .ref b), (1, .ref o), (2, .ref o6), (3, .int x3)] [] 415 := by
  have h := hstep T M (xs (x3 + 1).toNatClampNeg) (xs (x3 + 2).toNatClampNeg) hRel
  refine aw_aload_n C dL_law_415 1 rfl ?_
  refine aw_aload_n C dL_law_416 0 rfl ?_
  refine aw_iload_n C dL_law_417 3 rfl ?_
  refine aw_iconst (v := 1) C dL_law_418 (by decide) ?_
  refine aw_iadd C dL_law_419 ?_
  refine aw_sld C hX hbl hbA dL_law_420 hv1 ?_
  refine aw_aload_n C dL_law_421 0 rfl ?_
  refine aw_iload_n C dL_law_422 3 rfl ?_
  refine aw_iconst (v := 2) C dL_law_423 (by decide) ?_
  refine aw_iadd C dL_law_424 ?_
  refine aw_sld C hX hbl hbA dL_law_425 hv2 ?_
  refine aw_callFI (cells2 := cells) (slots2 := slots) (Wx := fun u => (wX5 cy o ad oa aa or_ ar op ap u ++ wX6 cy o6 ad6 M)) (wr := wX6 cy o6 ad6 M) (As := [.int (xs (x3 + 1).toNatClampNeg), .int (xs (x3 + 2).toNatClampNeg)]) (rest := []) C K (mtX5_is l D cy o ad oa aa or_ ar op ap T (xs (x3 + 1).toNatClampNeg) (xs (x3 + 2).toNatClampNeg) _ h) (List.Perm.refl _) (fun u => List.Perm.refl _) (cwV 2 C.2.2.2.2.1 gL_law_X5_is rfl rfl rfl (by decide +kernel) ⟨Nat.le_of_ble_eq_true rfl, Nat.le_of_ble_eq_true rfl⟩) 0 5 (g5 ..) rfl rfl rfl rfl (Nat.le_of_ble_eq_true rfl) rfl rfl ⟨by show cells ≤ 600000; omega, by show slots ≤ 7302250; omega⟩ dL_law_426 (fun r u h => ?_)
  obtain ⟨h, hu⟩ := h
  refine aw_perm (w1 := (wX5 cy o ad oa aa or_ ar op ap T ++ wX6 cy o6 ad6 M)) (by rw [hu] <;> exact List.Perm.refl _) ?_
  refine aw_aload_n C dL_law_429 2 rfl ?_
  refine aw_aload_n C dL_law_430 0 rfl ?_
  refine aw_iload_n C dL_law_431 3 rfl ?_
  refine aw_iconst (v := 1) C dL_law_432 (by decide) ?_
  refine aw_iadd C dL_law_433 ?_
  refine aw_sld C hX hbl hbA dL_law_434 hv1 ?_
  refine aw_aload_n C dL_law_435 0 rfl ?_
  refine aw_iload_n C dL_law_436 3 rfl ?_
  refine aw_iconst (v := 2) C dL_law_437 (by decide) ?_
  refine aw_iadd C dL_law_438 ?_
  refine aw_sld C hX hbl hbA dL_law_439 hv2 ?_
  refine aw_callFI (cells2 := cells) (slots2 := slots) (Wx := fun w9 => (wX5 cy o ad oa aa or_ ar op ap T ++ wX6 cy o6 ad6 w9)) (wr := wX5 cy o ad oa aa or_ ar op ap T) (As := [.int (xs (x3 + 1).toNatClampNeg), .int (xs (x3 + 2).toNatClampNeg)]) (rest := [.int r]) C K (mtX6_is l D cy o6 ad6 M (xs (x3 + 1).toNatClampNeg) (xs (x3 + 2).toNatClampNeg) _ h) List.perm_append_comm (fun u => List.perm_append_comm) (cwV 2 C.2.2.2.2.1 gL_law_X6_is rfl rfl rfl (by decide +kernel) ⟨Nat.le_of_ble_eq_true rfl, Nat.le_of_ble_eq_true rfl⟩) 0 6 (wX6_g ..) rfl rfl rfl rfl (Nat.le_of_ble_eq_true rfl) rfl rfl ⟨by show cells ≤ 600000; omega, by show slots ≤ 7302250; omega⟩ dL_law_440 (fun rr v h => ?_)
  refine aw_perm (w1 := (wX5 cy o ad oa aa or_ ar op ap T ++ wX6 cy o6 ad6 v)) (List.Perm.refl _) ?_
  refine aw_icmp_eq (tgt := 1077) C dL_law_443 (by decide) (fun _ => ?_) (fun q => absurd h.1 q)
  refine aw_widen (cells2 := cells + 10) (slots2 := slots + 700) (by omega) (by omega) ?_
  exact hnext _ _ h.2
end CASE7
def stepOK_8 (Rel : TS → St → Prop) : Prop := ∀ (T : TS) (M : St) (a1 a2 : Int32), Rel T M → pX5_as T a1 a2 (fun r u => pX6_as M a1 a2 (fun rr v => r = rr ∧ Rel u v))
section CASE8
variable {p : Program} {l : Launch} {e : Env} {s : State} {m : MethodId} {below : List Frame} {meth : Method} {c : Code} {D : va_G} {A : Nat → Prop} {cy : Nat → ClassId} {b L : Nat} {xs : Nat → Int32} {cells slots : Nat}
theorem law_case_8 (C : ctB p s m #[Value.ref b] c cL_law 4 RL wsL_law) (K : ctK s D A s.heap cy) (hX : va_X b L xs s s.heap) (hbl : b < s.heap.size) (hbA : ¬ A b) {o : Nat} {ad : Nat → Nat} {oa : Nat} {aa : Nat → Nat} {or_ : Nat} {ar : Nat → Nat} {op : Nat} {ap : Nat → Nat} {o6 : Nat} {ad6 : Nat → Nat} {x3 : Int32} (hv1 : vp_in (x3 + 1) L) (hv2 : vp_in (x3 + 2) L) (hv3 : vp_in (x3 + 3) L) (hv4 : vp_in (x3 + 4) L) (hv5 : vp_in (x3 + 5) L) (hc : cells + 10 ≤ 600000) (hs : slots + 700 ≤ 7302250) {Rel : TS → St → Prop} (hstep : stepOK_8 Rel) {T : TS} {M : St} (hRel : Rel T M) (hnext : ∀ T2 M2, Rel T2 M2 → atG p l e room_1 s m #[Value.ref b] below meth c (cells + 10) (slots + 700) (lw_Z below #[Value.ref b] s) 4 (iW D A s.heap (wX5 cy o ad oa aa or_ ar op ap T2 ++ wX6 cy o6 ad6 M2)) [(0, .ref b), (1, .ref o), (2, .ref o6), (3, .int x3)] [] 1077) : atG p l e room_1 s m #[Value.ref b] below meth c cells slots (lw_Z below #[Value.ref b] s) 4 (iW D A s.heap (wX5 cy o ad oa aa or_ ar op ap T ++ wX6 cy o6 ad6 M)) [(0, .ref b), (1, .ref o), (2, .ref o6), (3, .int x3)] [] 448 := by
  have h := hstep T M (xs (x3 + 1).toNatClampNeg) (xs (x3 + 2).toNatClampNeg) hRel
  refine aw_aload_n C dL_law_448 1 rfl ?_
  refine aw_aload_n C dL_law_449 0 rfl ?_
  refine aw_iload_n C dL_law_450 3 rfl ?_
  refine aw_iconst (v := 1) C dL_law_451 (by decide) ?_
  refine aw_iadd C dL_law_452 ?_
  refine aw_sld C hX hbl hbA dL_law_453 hv1 ?_
  refine aw_aload_n C dL_law_454 0 rfl ?_
  refine aw_iload_n C dL_law_455 3 rfl ?_
  refine aw_iconst (v := 2) C dL_law_456 (by decide) ?_
  refine aw_iadd C dL_law_457 ?_
  refine aw_sld C hX hbl hbA dL_law_458 hv2 ?_
  refine aw_callFI (cells2 := cells) (slots2 := slots) (Wx := fun u => (wX5 cy o ad oa aa or_ ar op ap u ++ wX6 cy o6 ad6 M)) (wr := wX6 cy o6 ad6 M) (As := [.int (xs (x3 + 1).toNatClampNeg), .int (xs (x3 + 2).toNatClampNeg)]) (rest := []) C K (mtX5_as l D cy o ad oa aa or_ ar op ap T (xs (x3 + 1).toNatClampNeg) (xs (x3 + 2).toNatClampNeg) _ h) (List.Perm.refl _) (fun u => List.Perm.refl _) (cwV 2 C.2.2.2.2.1 gL_law_X5_as rfl rfl rfl (by decide +kernel) ⟨Nat.le_of_ble_eq_true rfl, Nat.le_of_ble_eq_true rfl⟩) 0 5 (g5 ..) rfl rfl rfl rfl (Nat.le_of_ble_eq_true rfl) rfl rfl ⟨by show cells ≤ 600000; omega, by show slots ≤ 7302250; omega⟩ dL_law_459 (fun r u h => ?_)
  refine aw_perm (w1 := (wX5 cy o ad oa aa or_ ar op ap u ++ wX6 cy o6 ad6 M)) (List.Perm.refl _) ?_
  refine aw_aload_n C dL_law_462 2 rfl ?_
  refine aw_aload_n C dL_law_463 0 rfl ?_
  refine aw_iload_n C dL_law_464 3 rfl ?_
  refine aw_iconst (v := 1) C dL_law_465 (by decide) ?_
  refine aw_iadd C dL_law_466 ?_
  refine aw_sld C hX hbl hbA dL_law_467 hv1 ?_
  refine aw_aload_n C dL_law_468 0 rfl ?_
  refine aw_iload_n C dL_law_469 3 rfl ?_
  refine aw_iconst (v := 2) C dL_law_470 (by decide) ?_
  refine aw_iadd C dL_law_471 ?_
  refine aw_sld C hX hbl hbA dL_law_472 hv2 ?_
  refine aw_callFI (cells2 := cells) (slots2 := slots) (Wx := fun w9 => (wX5 cy o ad oa aa or_ ar op ap u ++ wX6 cy o6 ad6 w9)) (wr := wX5 cy o ad oa aa or_ ar op ap u) (As := [.int (xs (x3 + 1).toNatClampNeg), .int (xs (x3 + 2).toNatClampNeg)]) (rest := [.int r]) C K (mtX6_as l D cy o6 ad6 M (xs (x3 + 1).toNatClampNeg) (xs (x3 + 2).toNatClampNeg) _ h) List.perm_append_comm (fun u => List.perm_append_comm) (cwV 2 C.2.2.2.2.1 gL_law_X6_as rfl rfl rfl (by decide +kernel) ⟨Nat.le_of_ble_eq_true rfl, Nat.le_of_ble_eq_true rfl⟩) 0 6 (wX6_g ..) rfl rfl rfl rfl (Nat.le_of_ble_eq_true rfl) rfl rfl ⟨by show cells ≤ 600000; omega, by show slots ≤ 7302250; omega⟩ dL_law_473 (fun rr v h => ?_)
  refine aw_perm (w1 := (wX5 cy o ad oa aa or_ ar op ap u ++ wX6 cy o6 ad6 v)) (List.Perm.refl _) ?_
  refine aw_icmp_eq (tgt := 1077) C dL_law_476 (by decide) (fun _ => ?_) (fun q => absurd h.1 q)
  refine aw_widen (cells2 := cells + 10) (slots2 := slots + 700) (by omega) (by omega) ?_
  exact hnext _ _ h.2
end CASE8
def stepOK_9 (Rel : TS → St → Prop) : Prop := ∀ (T : TS) (M : St) (a1 a2 : Int32), Rel T M → pX5_ask T a1 a2 (fun r u => pX6_ask M a1 a2 (fun rr v => r = rr ∧ Rel u v))
section CASE9
variable {p : Program} {l : Launch} {e : Env} {s : State} {m : MethodId} {below : List Frame} {meth : Method} {c : Code} {D : va_G} {A : Nat → Prop} {cy : Nat → ClassId} {b L : Nat} {xs : Nat → Int32} {cells slots : Nat}
theorem law_case_9 (C : ctB p s m #[Value.ref b] c cL_law 4 RL wsL_law) (K : ctK s D A s.heap cy) (hX : va_X b L xs s s.heap) (hbl : b < s.heap.size) (hbA : ¬ A b) {o : Nat} {ad : Nat → Nat} {oa : Nat} {aa : Nat → Nat} {or_ : Nat} {ar : Nat → Nat} {op : Nat} {ap : Nat → Nat} {o6 : Nat} {ad6 : Nat → Nat} {x3 : Int32} (hv1 : vp_in (x3 + 1) L) (hv2 : vp_in (x3 + 2) L) (hv3 : vp_in (x3 + 3) L) (hv4 : vp_in (x3 + 4) L) (hv5 : vp_in (x3 + 5) L) (hc : cells + 10 ≤ 600000) (hs : slots + 700 ≤ 7302250) {Rel : TS → St → Prop} (hstep : stepOK_9 Rel) {T : TS} {M : St} (hRel : Rel T M) (hnext : ∀ T2 M2, Rel T2 M2 → atG p l e room_1 s m #[Value.ref b] below meth c (cells + 10) (slots + 700) (lw_Z below #[Value.ref b] s) 4 (iW D A s.heap (wX5 cy o ad oa aa or_ ar op ap T2 ++ wX6 cy o6 ad6 M2)) [(0, .ref b), (1, .ref o), (2, .ref o6), (3, .int x3)] [] 1077) : atG p l e room_1 s m #[Value.ref b] below meth c cells slots (lw_Z below #[Value.ref b] s) 4 (iW D A s.heap (wX5 cy o ad oa aa or_ ar op ap T ++ wX6 cy o6 ad6 M)) [(0, .ref b), (1, .ref o), (2, .ref o6), (3, .int x3)] [] 481 := by
  have h := hstep T M (xs (x3 + 1).toNatClampNeg) (xs (x3 + 2).toNatClampNeg) hRel
  refine aw_aload_n C dL_law_481 1 rfl ?_
  refine aw_aload_n C dL_law_482 0 rfl ?_
  refine aw_iload_n C dL_law_483 3 rfl ?_
  refine aw_iconst (v := 1) C dL_law_484 (by decide) ?_
  refine aw_iadd C dL_law_485 ?_
  refine aw_sld C hX hbl hbA dL_law_486 hv1 ?_
  refine aw_aload_n C dL_law_487 0 rfl ?_
  refine aw_iload_n C dL_law_488 3 rfl ?_
  refine aw_iconst (v := 2) C dL_law_489 (by decide) ?_
  refine aw_iadd C dL_law_490 ?_
  refine aw_sld C hX hbl hbA dL_law_491 hv2 ?_
  refine aw_callFI (cells2 := cells) (slots2 := slots) (Wx := fun u => (wX5 cy o ad oa aa or_ ar op ap u ++ wX6 cy o6 ad6 M)) (wr := wX6 cy o6 ad6 M) (As := [.int (xs (x3 + 1).toNatClampNeg), .int (xs (x3 + 2).toNatClampNeg)]) (rest := []) C K (mtX5_ask l D cy o ad oa aa or_ ar op ap T (xs (x3 + 1).toNatClampNeg) (xs (x3 + 2).toNatClampNeg) _ h) (List.Perm.refl _) (fun u => List.Perm.refl _) (cwV 2 C.2.2.2.2.1 gL_law_X5_ask rfl rfl rfl (by decide +kernel) ⟨Nat.le_of_ble_eq_true rfl, Nat.le_of_ble_eq_true rfl⟩) 0 5 (g5 ..) rfl rfl rfl rfl (Nat.le_of_ble_eq_true rfl) rfl rfl ⟨by show cells ≤ 600000; omega, by show slots ≤ 7302250; omega⟩ dL_law_492 (fun r u h => ?_)
  refine aw_perm (w1 := (wX5 cy o ad oa aa or_ ar op ap u ++ wX6 cy o6 ad6 M)) (List.Perm.refl _) ?_
  refine aw_aload_n C dL_law_495 2 rfl ?_
  refine aw_aload_n C dL_law_496 0 rfl ?_
  refine aw_iload_n C dL_law_497 3 rfl ?_
  refine aw_iconst (v := 1) C dL_law_498 (by decide) ?_
  refine aw_iadd C dL_law_499 ?_
  refine aw_sld C hX hbl hbA dL_law_500 hv1 ?_
  refine aw_aload_n C dL_law_501 0 rfl ?_
  refine aw_iload_n C dL_law_502 3 rfl ?_
  refine aw_iconst (v := 2) C dL_law_503 (by decide) ?_
  refine aw_iadd C dL_law_504 ?_
  refine aw_sld C hX hbl hbA dL_law_505 hv2 ?_
  refine aw_callFI (cells2 := cells) (slots2 := slots) (Wx := fun w9 => (wX5 cy o ad oa aa or_ ar op ap u ++ wX6 cy o6 ad6 w9)) (wr := wX5 cy o ad oa aa or_ ar op ap u) (As := [.int (xs (x3 + 1).toNatClampNeg), .int (xs (x3 + 2).toNatClampNeg)]) (rest := [.int r]) C K (mtX6_ask l D cy o6 ad6 M (xs (x3 + 1).toNatClampNeg) (xs (x3 + 2).toNatClampNeg) _ h) List.perm_append_comm (fun u => List.perm_append_comm) (cwV 2 C.2.2.2.2.1 gL_law_X6_ask rfl rfl rfl (by decide +kernel) ⟨Nat.le_of_ble_eq_true rfl, Nat.le_of_ble_eq_true rfl⟩) 0 6 (wX6_g ..) rfl rfl rfl rfl (Nat.le_of_ble_eq_true rfl) rfl rfl ⟨by show cells ≤ 600000; omega, by show slots ≤ 7302250; omega⟩ dL_law_506 (fun rr v h => ?_)
  refine aw_perm (w1 := (wX5 cy o ad oa aa or_ ar op ap u ++ wX6 cy o6 ad6 v)) (List.Perm.refl _) ?_
  refine aw_icmp_eq (tgt := 1077) C dL_law_509 (by decide) (fun _ => ?_) (fun q => absurd h.1 q)
  refine aw_widen (cells2 := cells + 10) (slots2 := slots + 700) (by omega) (by omega) ?_
  exact hnext _ _ h.2
end CASE9
def stepOK_10 (Rel : TS → St → Prop) : Prop := ∀ (T : TS) (M : St) (a1 : Int32), Rel T M → pX5_trace T a1 (fun r => pX6_trace M a1 (fun rr v => r = rr ∧ Rel T v))
section CASE10
variable {p : Program} {l : Launch} {e : Env} {s : State} {m : MethodId} {below : List Frame} {meth : Method} {c : Code} {D : va_G} {A : Nat → Prop} {cy : Nat → ClassId} {b L : Nat} {xs : Nat → Int32} {cells slots : Nat}
theorem law_case_10 (C : ctB p s m #[Value.ref b] c cL_law 4 RL wsL_law) (K : ctK s D A s.heap cy) (hX : va_X b L xs s s.heap) (hbl : b < s.heap.size) (hbA : ¬ A b) {o : Nat} {ad : Nat → Nat} {oa : Nat} {aa : Nat → Nat} {or_ : Nat} {ar : Nat → Nat} {op : Nat} {ap : Nat → Nat} {o6 : Nat} {ad6 : Nat → Nat} {x3 : Int32} (hv1 : vp_in (x3 + 1) L) (hv2 : vp_in (x3 + 2) L) (hv3 : vp_in (x3 + 3) L) (hv4 : vp_in (x3 + 4) L) (hv5 : vp_in (x3 + 5) L) (hc : cells + 10 ≤ 600000) (hs : slots + 700 ≤ 7302250) {Rel : TS → St → Prop} (hstep : stepOK_10 Rel) {T : TS} {M : St} (hRel : Rel T M) (hnext : ∀ T2 M2, Rel T2 M2 → atG p l e room_1 s m #[Value.ref b] below meth c (cells + 10) (slots + 700) (lw_Z below #[Value.ref b] s) 4 (iW D A s.heap (wX5 cy o ad oa aa or_ ar op ap T2 ++ wX6 cy o6 ad6 M2)) [(0, .ref b), (1, .ref o), (2, .ref o6), (3, .int x3)] [] 1077) : atG p l e room_1 s m #[Value.ref b] below meth c cells slots (lw_Z below #[Value.ref b] s) 4 (iW D A s.heap (wX5 cy o ad oa aa or_ ar op ap T ++ wX6 cy o6 ad6 M)) [(0, .ref b), (1, .ref o), (2, .ref o6), (3, .int x3)] [] 514 := by
  have h := hstep T M (xs (x3 + 1).toNatClampNeg) hRel
  refine aw_aload_n C dL_law_514 1 rfl ?_
  refine aw_aload_n C dL_law_515 0 rfl ?_
  refine aw_iload_n C dL_law_516 3 rfl ?_
  refine aw_iconst (v := 1) C dL_law_517 (by decide) ?_
  refine aw_iadd C dL_law_518 ?_
  refine aw_sld C hX hbl hbA dL_law_519 hv1 ?_
  refine aw_callFI (cells2 := cells) (slots2 := slots) (Wx := fun u => (wX5 cy o ad oa aa or_ ar op ap u ++ wX6 cy o6 ad6 M)) (wr := wX6 cy o6 ad6 M) (As := [.int (xs (x3 + 1).toNatClampNeg)]) (rest := []) C K (mtX5_trace l D cy o ad oa aa or_ ar op ap T (xs (x3 + 1).toNatClampNeg) _ h) (List.Perm.refl _) (fun u => List.Perm.refl _) (cwV 1 C.2.2.2.2.1 gL_law_X5_trace rfl rfl rfl (by decide +kernel) ⟨Nat.le_of_ble_eq_true rfl, Nat.le_of_ble_eq_true rfl⟩) 0 5 (g5 ..) rfl rfl rfl rfl (Nat.le_of_ble_eq_true rfl) rfl rfl ⟨by show cells ≤ 600000; omega, by show slots ≤ 7302250; omega⟩ dL_law_520 (fun r u h => ?_)
  obtain ⟨h, hu⟩ := h
  refine aw_perm (w1 := (wX5 cy o ad oa aa or_ ar op ap T ++ wX6 cy o6 ad6 M)) (by rw [hu] <;> exact List.Perm.refl _) ?_
  refine aw_aload_n C dL_law_523 2 rfl ?_
  refine aw_aload_n C dL_law_524 0 rfl ?_
  refine aw_iload_n C dL_law_525 3 rfl ?_
  refine aw_iconst (v := 1) C dL_law_526 (by decide) ?_
  refine aw_iadd C dL_law_527 ?_
  refine aw_sld C hX hbl hbA dL_law_528 hv1 ?_
  refine aw_callFI (cells2 := cells) (slots2 := slots) (Wx := fun w9 => (wX5 cy o ad oa aa or_ ar op ap T ++ wX6 cy o6 ad6 w9)) (wr := wX5 cy o ad oa aa or_ ar op ap T) (As := [.int (xs (x3 + 1).toNatClampNeg)]) (rest := [.int r]) C K (mtX6_trace l D cy o6 ad6 M (xs (x3 + 1).toNatClampNeg) _ h) List.perm_append_comm (fun u => List.perm_append_comm) (cwV 1 C.2.2.2.2.1 gL_law_X6_trace rfl rfl rfl (by decide +kernel) ⟨Nat.le_of_ble_eq_true rfl, Nat.le_of_ble_eq_true rfl⟩) 0 6 (wX6_g ..) rfl rfl rfl rfl (Nat.le_of_ble_eq_true rfl) rfl rfl ⟨by show cells ≤ 600000; omega, by show slots ≤ 7302250; omega⟩ dL_law_529 (fun rr v h => ?_)
  refine aw_perm (w1 := (wX5 cy o ad oa aa or_ ar op ap T ++ wX6 cy o6 ad6 v)) (List.Perm.refl _) ?_
  refine aw_icmp_eq (tgt := 1077) C dL_law_532 (by decide) (fun _ => ?_) (fun q => absurd h.1 q)
  refine aw_widen (cells2 := cells + 10) (slots2 := slots + 700) (by omega) (by omega) ?_
  exact hnext _ _ h.2
end CASE10
def stepOK_11 (Rel : TS → St → Prop) : Prop := ∀ (T : TS) (M : St) (a1 a2 a3 a4 : Int32), Rel T M → pX5_call T a1 a2 a3 a4 (fun r u => pX6_call M a1 a2 a3 a4 (fun rr v => r = rr ∧ Rel u v))
section CASE11
variable {p : Program} {l : Launch} {e : Env} {s : State} {m : MethodId} {below : List Frame} {meth : Method} {c : Code} {D : va_G} {A : Nat → Prop} {cy : Nat → ClassId} {b L : Nat} {xs : Nat → Int32} {cells slots : Nat}
theorem law_case_11 (C : ctB p s m #[Value.ref b] c cL_law 4 RL wsL_law) (K : ctK s D A s.heap cy) (hX : va_X b L xs s s.heap) (hbl : b < s.heap.size) (hbA : ¬ A b) {o : Nat} {ad : Nat → Nat} {oa : Nat} {aa : Nat → Nat} {or_ : Nat} {ar : Nat → Nat} {op : Nat} {ap : Nat → Nat} {o6 : Nat} {ad6 : Nat → Nat} {x3 : Int32} (hv1 : vp_in (x3 + 1) L) (hv2 : vp_in (x3 + 2) L) (hv3 : vp_in (x3 + 3) L) (hv4 : vp_in (x3 + 4) L) (hv5 : vp_in (x3 + 5) L) (hc : cells + 10 ≤ 600000) (hs : slots + 700 ≤ 7302250) {Rel : TS → St → Prop} (hstep : stepOK_11 Rel) {T : TS} {M : St} (hRel : Rel T M) (hnext : ∀ T2 M2, Rel T2 M2 → atG p l e room_1 s m #[Value.ref b] below meth c (cells + 10) (slots + 700) (lw_Z below #[Value.ref b] s) 4 (iW D A s.heap (wX5 cy o ad oa aa or_ ar op ap T2 ++ wX6 cy o6 ad6 M2)) [(0, .ref b), (1, .ref o), (2, .ref o6), (3, .int x3)] [] 1077) : atG p l e room_1 s m #[Value.ref b] below meth c cells slots (lw_Z below #[Value.ref b] s) 4 (iW D A s.heap (wX5 cy o ad oa aa or_ ar op ap T ++ wX6 cy o6 ad6 M)) [(0, .ref b), (1, .ref o), (2, .ref o6), (3, .int x3)] [] 537 := by
  have h := hstep T M (xs (x3 + 1).toNatClampNeg) (xs (x3 + 2).toNatClampNeg) (xs (x3 + 3).toNatClampNeg) (xs (x3 + 4).toNatClampNeg) hRel
  refine aw_aload_n C dL_law_537 1 rfl ?_
  refine aw_aload_n C dL_law_538 0 rfl ?_
  refine aw_iload_n C dL_law_539 3 rfl ?_
  refine aw_iconst (v := 1) C dL_law_540 (by decide) ?_
  refine aw_iadd C dL_law_541 ?_
  refine aw_sld C hX hbl hbA dL_law_542 hv1 ?_
  refine aw_aload_n C dL_law_543 0 rfl ?_
  refine aw_iload_n C dL_law_544 3 rfl ?_
  refine aw_iconst (v := 2) C dL_law_545 (by decide) ?_
  refine aw_iadd C dL_law_546 ?_
  refine aw_sld C hX hbl hbA dL_law_547 hv2 ?_
  refine aw_aload_n C dL_law_548 0 rfl ?_
  refine aw_iload_n C dL_law_549 3 rfl ?_
  refine aw_iconst (v := 3) C dL_law_550 (by decide) ?_
  refine aw_iadd C dL_law_551 ?_
  refine aw_sld C hX hbl hbA dL_law_552 hv3 ?_
  refine aw_aload_n C dL_law_553 0 rfl ?_
  refine aw_iload_n C dL_law_554 3 rfl ?_
  refine aw_iconst (v := 4) C dL_law_555 (by decide) ?_
  refine aw_iadd C dL_law_556 ?_
  refine aw_sld C hX hbl hbA dL_law_557 hv4 ?_
  refine aw_callFI (cells2 := cells) (slots2 := slots) (Wx := fun u => (wX5 cy o ad oa aa or_ ar op ap u ++ wX6 cy o6 ad6 M)) (wr := wX6 cy o6 ad6 M) (As := [.int (xs (x3 + 1).toNatClampNeg), .int (xs (x3 + 2).toNatClampNeg), .int (xs (x3 + 3).toNatClampNeg), .int (xs (x3 + 4).toNatClampNeg)]) (rest := []) C K (mtX5_call l D cy o ad oa aa or_ ar op ap T (xs (x3 + 1).toNatClampNeg) (xs (x3 + 2).toNatClampNeg) (xs (x3 + 3).toNatClampNeg) (xs (x3 + 4).toNatClampNeg) _ h) (List.Perm.refl _) (fun u => List.Perm.refl _) (cwV 4 C.2.2.2.2.1 gL_law_X5_call rfl rfl rfl (by decide +kernel) ⟨Nat.le_of_ble_eq_true rfl, Nat.le_of_ble_eq_true rfl⟩) 0 5 (g5 ..) rfl rfl rfl rfl (Nat.le_of_ble_eq_true rfl) rfl rfl ⟨by show cells ≤ 600000; omega, by show slots ≤ 7302250; omega⟩ dL_law_558 (fun r u h => ?_)
  refine aw_perm (w1 := (wX5 cy o ad oa aa or_ ar op ap u ++ wX6 cy o6 ad6 M)) (List.Perm.refl _) ?_
  refine aw_aload_n C dL_law_561 2 rfl ?_
  refine aw_aload_n C dL_law_562 0 rfl ?_
  refine aw_iload_n C dL_law_563 3 rfl ?_
  refine aw_iconst (v := 1) C dL_law_564 (by decide) ?_
  refine aw_iadd C dL_law_565 ?_
  refine aw_sld C hX hbl hbA dL_law_566 hv1 ?_
  refine aw_aload_n C dL_law_567 0 rfl ?_
  refine aw_iload_n C dL_law_568 3 rfl ?_
  refine aw_iconst (v := 2) C dL_law_569 (by decide) ?_
  refine aw_iadd C dL_law_570 ?_
  refine aw_sld C hX hbl hbA dL_law_571 hv2 ?_
  refine aw_aload_n C dL_law_572 0 rfl ?_
  refine aw_iload_n C dL_law_573 3 rfl ?_
  refine aw_iconst (v := 3) C dL_law_574 (by decide) ?_
  refine aw_iadd C dL_law_575 ?_
  refine aw_sld C hX hbl hbA dL_law_576 hv3 ?_
  refine aw_aload_n C dL_law_577 0 rfl ?_
  refine aw_iload_n C dL_law_578 3 rfl ?_
  refine aw_iconst (v := 4) C dL_law_579 (by decide) ?_
  refine aw_iadd C dL_law_580 ?_
  refine aw_sld C hX hbl hbA dL_law_581 hv4 ?_
  refine aw_callFI (cells2 := cells) (slots2 := slots) (Wx := fun w9 => (wX5 cy o ad oa aa or_ ar op ap u ++ wX6 cy o6 ad6 w9)) (wr := wX5 cy o ad oa aa or_ ar op ap u) (As := [.int (xs (x3 + 1).toNatClampNeg), .int (xs (x3 + 2).toNatClampNeg), .int (xs (x3 + 3).toNatClampNeg), .int (xs (x3 + 4).toNatClampNeg)]) (rest := [.int r]) C K (mtX6_call l D cy o6 ad6 M (xs (x3 + 1).toNatClampNeg) (xs (x3 + 2).toNatClampNeg) (xs (x3 + 3).toNatClampNeg) (xs (x3 + 4).toNatClampNeg) _ h) List.perm_append_comm (fun u => List.perm_append_comm) (cwV 4 C.2.2.2.2.1 gL_law_X6_call rfl rfl rfl (by decide +kernel) ⟨Nat.le_of_ble_eq_true rfl, Nat.le_of_ble_eq_true rfl⟩) 0 6 (wX6_g ..) rfl rfl rfl rfl (Nat.le_of_ble_eq_true rfl) rfl rfl ⟨by show cells ≤ 600000; omega, by show slots ≤ 7302250; omega⟩ dL_law_582 (fun rr v h => ?_)
  refine aw_perm (w1 := (wX5 cy o ad oa aa or_ ar op ap u ++ wX6 cy o6 ad6 v)) (List.Perm.refl _) ?_
  refine aw_icmp_eq (tgt := 1077) C dL_law_585 (by decide) (fun _ => ?_) (fun q => absurd h.1 q)
  refine aw_widen (cells2 := cells + 10) (slots2 := slots + 700) (by omega) (by omega) ?_
  exact hnext _ _ h.2
end CASE11
def stepOK_12 (Rel : TS → St → Prop) : Prop := ∀ (T : TS) (M : St) (a1 a2 : Int32), Rel T M → pX5_end T a1 a2 (fun r u => pX6_end M a1 a2 (fun rr v => r = rr ∧ Rel u v))
section CASE12
variable {p : Program} {l : Launch} {e : Env} {s : State} {m : MethodId} {below : List Frame} {meth : Method} {c : Code} {D : va_G} {A : Nat → Prop} {cy : Nat → ClassId} {b L : Nat} {xs : Nat → Int32} {cells slots : Nat}
theorem law_case_12 (C : ctB p s m #[Value.ref b] c cL_law 4 RL wsL_law) (K : ctK s D A s.heap cy) (hX : va_X b L xs s s.heap) (hbl : b < s.heap.size) (hbA : ¬ A b) {o : Nat} {ad : Nat → Nat} {oa : Nat} {aa : Nat → Nat} {or_ : Nat} {ar : Nat → Nat} {op : Nat} {ap : Nat → Nat} {o6 : Nat} {ad6 : Nat → Nat} {x3 : Int32} (hv1 : vp_in (x3 + 1) L) (hv2 : vp_in (x3 + 2) L) (hv3 : vp_in (x3 + 3) L) (hv4 : vp_in (x3 + 4) L) (hv5 : vp_in (x3 + 5) L) (hc : cells + 10 ≤ 600000) (hs : slots + 700 ≤ 7302250) {Rel : TS → St → Prop} (hstep : stepOK_12 Rel) {T : TS} {M : St} (hRel : Rel T M) (hnext : ∀ T2 M2, Rel T2 M2 → atG p l e room_1 s m #[Value.ref b] below meth c (cells + 10) (slots + 700) (lw_Z below #[Value.ref b] s) 4 (iW D A s.heap (wX5 cy o ad oa aa or_ ar op ap T2 ++ wX6 cy o6 ad6 M2)) [(0, .ref b), (1, .ref o), (2, .ref o6), (3, .int x3)] [] 1077) : atG p l e room_1 s m #[Value.ref b] below meth c cells slots (lw_Z below #[Value.ref b] s) 4 (iW D A s.heap (wX5 cy o ad oa aa or_ ar op ap T ++ wX6 cy o6 ad6 M)) [(0, .ref b), (1, .ref o), (2, .ref o6), (3, .int x3)] [] 590 := by
  have h := hstep T M (xs (x3 + 1).toNatClampNeg) (xs (x3 + 2).toNatClampNeg) hRel
  refine aw_aload_n C dL_law_590 1 rfl ?_
  refine aw_aload_n C dL_law_591 0 rfl ?_
  refine aw_iload_n C dL_law_592 3 rfl ?_
  refine aw_iconst (v := 1) C dL_law_593 (by decide) ?_
  refine aw_iadd C dL_law_594 ?_
  refine aw_sld C hX hbl hbA dL_law_595 hv1 ?_
  refine aw_aload_n C dL_law_596 0 rfl ?_
  refine aw_iload_n C dL_law_597 3 rfl ?_
  refine aw_iconst (v := 2) C dL_law_598 (by decide) ?_
  refine aw_iadd C dL_law_599 ?_
  refine aw_sld C hX hbl hbA dL_law_600 hv2 ?_
  refine aw_callFI (cells2 := cells) (slots2 := slots) (Wx := fun u => (wX5 cy o ad oa aa or_ ar op ap u ++ wX6 cy o6 ad6 M)) (wr := wX6 cy o6 ad6 M) (As := [.int (xs (x3 + 1).toNatClampNeg), .int (xs (x3 + 2).toNatClampNeg)]) (rest := []) C K (mtX5_end l D cy o ad oa aa or_ ar op ap T (xs (x3 + 1).toNatClampNeg) (xs (x3 + 2).toNatClampNeg) _ h) (List.Perm.refl _) (fun u => List.Perm.refl _) (cwV 2 C.2.2.2.2.1 gL_law_X5_end rfl rfl rfl (by decide +kernel) ⟨Nat.le_of_ble_eq_true rfl, Nat.le_of_ble_eq_true rfl⟩) 0 5 (g5 ..) rfl rfl rfl rfl (Nat.le_of_ble_eq_true rfl) rfl rfl ⟨by show cells ≤ 600000; omega, by show slots ≤ 7302250; omega⟩ dL_law_601 (fun r u h => ?_)
  refine aw_perm (w1 := (wX5 cy o ad oa aa or_ ar op ap u ++ wX6 cy o6 ad6 M)) (List.Perm.refl _) ?_
  refine aw_aload_n C dL_law_604 2 rfl ?_
  refine aw_aload_n C dL_law_605 0 rfl ?_
  refine aw_iload_n C dL_law_606 3 rfl ?_
  refine aw_iconst (v := 1) C dL_law_607 (by decide) ?_
  refine aw_iadd C dL_law_608 ?_
  refine aw_sld C hX hbl hbA dL_law_609 hv1 ?_
  refine aw_aload_n C dL_law_610 0 rfl ?_
  refine aw_iload_n C dL_law_611 3 rfl ?_
  refine aw_iconst (v := 2) C dL_law_612 (by decide) ?_
  refine aw_iadd C dL_law_613 ?_
  refine aw_sld C hX hbl hbA dL_law_614 hv2 ?_
  refine aw_callFI (cells2 := cells) (slots2 := slots) (Wx := fun w9 => (wX5 cy o ad oa aa or_ ar op ap u ++ wX6 cy o6 ad6 w9)) (wr := wX5 cy o ad oa aa or_ ar op ap u) (As := [.int (xs (x3 + 1).toNatClampNeg), .int (xs (x3 + 2).toNatClampNeg)]) (rest := [.int r]) C K (mtX6_end l D cy o6 ad6 M (xs (x3 + 1).toNatClampNeg) (xs (x3 + 2).toNatClampNeg) _ h) List.perm_append_comm (fun u => List.perm_append_comm) (cwV 2 C.2.2.2.2.1 gL_law_X6_end rfl rfl rfl (by decide +kernel) ⟨Nat.le_of_ble_eq_true rfl, Nat.le_of_ble_eq_true rfl⟩) 0 6 (wX6_g ..) rfl rfl rfl rfl (Nat.le_of_ble_eq_true rfl) rfl rfl ⟨by show cells ≤ 600000; omega, by show slots ≤ 7302250; omega⟩ dL_law_615 (fun rr v h => ?_)
  refine aw_perm (w1 := (wX5 cy o ad oa aa or_ ar op ap u ++ wX6 cy o6 ad6 v)) (List.Perm.refl _) ?_
  refine aw_icmp_eq (tgt := 1077) C dL_law_618 (by decide) (fun _ => ?_) (fun q => absurd h.1 q)
  refine aw_widen (cells2 := cells + 10) (slots2 := slots + 700) (by omega) (by omega) ?_
  exact hnext _ _ h.2
end CASE12
def stepOK_13 (Rel : TS → St → Prop) : Prop := ∀ (T : TS) (M : St) (a1 a2 a3 : Int32), Rel T M → pX5_line T a1 a2 a3 (fun r u => pX6_line M a1 a2 a3 (fun rr v => r = rr ∧ Rel u v))
section CASE13
variable {p : Program} {l : Launch} {e : Env} {s : State} {m : MethodId} {below : List Frame} {meth : Method} {c : Code} {D : va_G} {A : Nat → Prop} {cy : Nat → ClassId} {b L : Nat} {xs : Nat → Int32} {cells slots : Nat}
theorem law_case_13 (C : ctB p s m #[Value.ref b] c cL_law 4 RL wsL_law) (K : ctK s D A s.heap cy) (hX : va_X b L xs s s.heap) (hbl : b < s.heap.size) (hbA : ¬ A b) {o : Nat} {ad : Nat → Nat} {oa : Nat} {aa : Nat → Nat} {or_ : Nat} {ar : Nat → Nat} {op : Nat} {ap : Nat → Nat} {o6 : Nat} {ad6 : Nat → Nat} {x3 : Int32} (hv1 : vp_in (x3 + 1) L) (hv2 : vp_in (x3 + 2) L) (hv3 : vp_in (x3 + 3) L) (hv4 : vp_in (x3 + 4) L) (hv5 : vp_in (x3 + 5) L) (hc : cells + 10 ≤ 600000) (hs : slots + 700 ≤ 7302250) {Rel : TS → St → Prop} (hstep : stepOK_13 Rel) {T : TS} {M : St} (hRel : Rel T M) (hnext : ∀ T2 M2, Rel T2 M2 → atG p l e room_1 s m #[Value.ref b] below meth c (cells + 10) (slots + 700) (lw_Z below #[Value.ref b] s) 4 (iW D A s.heap (wX5 cy o ad oa aa or_ ar op ap T2 ++ wX6 cy o6 ad6 M2)) [(0, .ref b), (1, .ref o), (2, .ref o6), (3, .int x3)] [] 1077) : atG p l e room_1 s m #[Value.ref b] below meth c cells slots (lw_Z below #[Value.ref b] s) 4 (iW D A s.heap (wX5 cy o ad oa aa or_ ar op ap T ++ wX6 cy o6 ad6 M)) [(0, .ref b), (1, .ref o), (2, .ref o6), (3, .int x3)] [] 623 := by
  have h := hstep T M (xs (x3 + 1).toNatClampNeg) (xs (x3 + 2).toNatClampNeg) (xs (x3 + 3).toNatClampNeg) hRel
  refine aw_aload_n C dL_law_623 1 rfl ?_
  refine aw_aload_n C dL_law_624 0 rfl ?_
  refine aw_iload_n C dL_law_625 3 rfl ?_
  refine aw_iconst (v := 1) C dL_law_626 (by decide) ?_
  refine aw_iadd C dL_law_627 ?_
  refine aw_sld C hX hbl hbA dL_law_628 hv1 ?_
  refine aw_aload_n C dL_law_629 0 rfl ?_
  refine aw_iload_n C dL_law_630 3 rfl ?_
  refine aw_iconst (v := 2) C dL_law_631 (by decide) ?_
  refine aw_iadd C dL_law_632 ?_
  refine aw_sld C hX hbl hbA dL_law_633 hv2 ?_
  refine aw_aload_n C dL_law_634 0 rfl ?_
  refine aw_iload_n C dL_law_635 3 rfl ?_
  refine aw_iconst (v := 3) C dL_law_636 (by decide) ?_
  refine aw_iadd C dL_law_637 ?_
  refine aw_sld C hX hbl hbA dL_law_638 hv3 ?_
  refine aw_callFI (cells2 := cells) (slots2 := slots) (Wx := fun u => (wX5 cy o ad oa aa or_ ar op ap u ++ wX6 cy o6 ad6 M)) (wr := wX6 cy o6 ad6 M) (As := [.int (xs (x3 + 1).toNatClampNeg), .int (xs (x3 + 2).toNatClampNeg), .int (xs (x3 + 3).toNatClampNeg)]) (rest := []) C K (mtX5_line l D cy o ad oa aa or_ ar op ap T (xs (x3 + 1).toNatClampNeg) (xs (x3 + 2).toNatClampNeg) (xs (x3 + 3).toNatClampNeg) _ h) (List.Perm.refl _) (fun u => List.Perm.refl _) (cwV 3 C.2.2.2.2.1 gL_law_X5_line rfl rfl rfl (by decide +kernel) ⟨Nat.le_of_ble_eq_true rfl, Nat.le_of_ble_eq_true rfl⟩) 0 5 (g5 ..) rfl rfl rfl rfl (Nat.le_of_ble_eq_true rfl) rfl rfl ⟨by show cells ≤ 600000; omega, by show slots ≤ 7302250; omega⟩ dL_law_639 (fun r u h => ?_)
  refine aw_perm (w1 := (wX5 cy o ad oa aa or_ ar op ap u ++ wX6 cy o6 ad6 M)) (List.Perm.refl _) ?_
  refine aw_aload_n C dL_law_642 2 rfl ?_
  refine aw_aload_n C dL_law_643 0 rfl ?_
  refine aw_iload_n C dL_law_644 3 rfl ?_
  refine aw_iconst (v := 1) C dL_law_645 (by decide) ?_
  refine aw_iadd C dL_law_646 ?_
  refine aw_sld C hX hbl hbA dL_law_647 hv1 ?_
  refine aw_aload_n C dL_law_648 0 rfl ?_
  refine aw_iload_n C dL_law_649 3 rfl ?_
  refine aw_iconst (v := 2) C dL_law_650 (by decide) ?_
  refine aw_iadd C dL_law_651 ?_
  refine aw_sld C hX hbl hbA dL_law_652 hv2 ?_
  refine aw_aload_n C dL_law_653 0 rfl ?_
  refine aw_iload_n C dL_law_654 3 rfl ?_
  refine aw_iconst (v := 3) C dL_law_655 (by decide) ?_
  refine aw_iadd C dL_law_656 ?_
  refine aw_sld C hX hbl hbA dL_law_657 hv3 ?_
  refine aw_callFI (cells2 := cells) (slots2 := slots) (Wx := fun w9 => (wX5 cy o ad oa aa or_ ar op ap u ++ wX6 cy o6 ad6 w9)) (wr := wX5 cy o ad oa aa or_ ar op ap u) (As := [.int (xs (x3 + 1).toNatClampNeg), .int (xs (x3 + 2).toNatClampNeg), .int (xs (x3 + 3).toNatClampNeg)]) (rest := [.int r]) C K (mtX6_line l D cy o6 ad6 M (xs (x3 + 1).toNatClampNeg) (xs (x3 + 2).toNatClampNeg) (xs (x3 + 3).toNatClampNeg) _ h) List.perm_append_comm (fun u => List.perm_append_comm) (cwV 3 C.2.2.2.2.1 gL_law_X6_line rfl rfl rfl (by decide +kernel) ⟨Nat.le_of_ble_eq_true rfl, Nat.le_of_ble_eq_true rfl⟩) 0 6 (wX6_g ..) rfl rfl rfl rfl (Nat.le_of_ble_eq_true rfl) rfl rfl ⟨by show cells ≤ 600000; omega, by show slots ≤ 7302250; omega⟩ dL_law_658 (fun rr v h => ?_)
  refine aw_perm (w1 := (wX5 cy o ad oa aa or_ ar op ap u ++ wX6 cy o6 ad6 v)) (List.Perm.refl _) ?_
  refine aw_icmp_eq (tgt := 1077) C dL_law_661 (by decide) (fun _ => ?_) (fun q => absurd h.1 q)
  refine aw_widen (cells2 := cells + 10) (slots2 := slots + 700) (by omega) (by omega) ?_
  exact hnext _ _ h.2
end CASE13
def stepOK_14 (Rel : TS → St → Prop) : Prop := ∀ (T : TS) (M : St) (a1 a2 a3 a4 : Int32), Rel T M → pX5_free T a1 a2 a3 a4 (fun r u => pX6_free M a1 a2 a3 a4 (fun rr v => r = rr ∧ Rel u v))
section CASE14
variable {p : Program} {l : Launch} {e : Env} {s : State} {m : MethodId} {below : List Frame} {meth : Method} {c : Code} {D : va_G} {A : Nat → Prop} {cy : Nat → ClassId} {b L : Nat} {xs : Nat → Int32} {cells slots : Nat}
theorem law_case_14 (C : ctB p s m #[Value.ref b] c cL_law 4 RL wsL_law) (K : ctK s D A s.heap cy) (hX : va_X b L xs s s.heap) (hbl : b < s.heap.size) (hbA : ¬ A b) {o : Nat} {ad : Nat → Nat} {oa : Nat} {aa : Nat → Nat} {or_ : Nat} {ar : Nat → Nat} {op : Nat} {ap : Nat → Nat} {o6 : Nat} {ad6 : Nat → Nat} {x3 : Int32} (hv1 : vp_in (x3 + 1) L) (hv2 : vp_in (x3 + 2) L) (hv3 : vp_in (x3 + 3) L) (hv4 : vp_in (x3 + 4) L) (hv5 : vp_in (x3 + 5) L) (hc : cells + 10 ≤ 600000) (hs : slots + 700 ≤ 7302250) {Rel : TS → St → Prop} (hstep : stepOK_14 Rel) {T : TS} {M : St} (hRel : Rel T M) (hnext : ∀ T2 M2, Rel T2 M2 → atG p l e room_1 s m #[Value.ref b] below meth c (cells + 10) (slots + 700) (lw_Z below #[Value.ref b] s) 4 (iW D A s.heap (wX5 cy o ad oa aa or_ ar op ap T2 ++ wX6 cy o6 ad6 M2)) [(0, .ref b), (1, .ref o), (2, .ref o6), (3, .int x3)] [] 1077) : atG p l e room_1 s m #[Value.ref b] below meth c cells slots (lw_Z below #[Value.ref b] s) 4 (iW D A s.heap (wX5 cy o ad oa aa or_ ar op ap T ++ wX6 cy o6 ad6 M)) [(0, .ref b), (1, .ref o), (2, .ref o6), (3, .int x3)] [] 666 := by
  have h := hstep T M (xs (x3 + 1).toNatClampNeg) (xs (x3 + 2).toNatClampNeg) (xs (x3 + 3).toNatClampNeg) (xs (x3 + 4).toNatClampNeg) hRel
  refine aw_aload_n C dL_law_666 1 rfl ?_
  refine aw_aload_n C dL_law_667 0 rfl ?_
  refine aw_iload_n C dL_law_668 3 rfl ?_
  refine aw_iconst (v := 1) C dL_law_669 (by decide) ?_
  refine aw_iadd C dL_law_670 ?_
  refine aw_sld C hX hbl hbA dL_law_671 hv1 ?_
  refine aw_aload_n C dL_law_672 0 rfl ?_
  refine aw_iload_n C dL_law_673 3 rfl ?_
  refine aw_iconst (v := 2) C dL_law_674 (by decide) ?_
  refine aw_iadd C dL_law_675 ?_
  refine aw_sld C hX hbl hbA dL_law_676 hv2 ?_
  refine aw_aload_n C dL_law_677 0 rfl ?_
  refine aw_iload_n C dL_law_678 3 rfl ?_
  refine aw_iconst (v := 3) C dL_law_679 (by decide) ?_
  refine aw_iadd C dL_law_680 ?_
  refine aw_sld C hX hbl hbA dL_law_681 hv3 ?_
  refine aw_aload_n C dL_law_682 0 rfl ?_
  refine aw_iload_n C dL_law_683 3 rfl ?_
  refine aw_iconst (v := 4) C dL_law_684 (by decide) ?_
  refine aw_iadd C dL_law_685 ?_
  refine aw_sld C hX hbl hbA dL_law_686 hv4 ?_
  refine aw_callFI (cells2 := cells) (slots2 := slots) (Wx := fun u => (wX5 cy o ad oa aa or_ ar op ap u ++ wX6 cy o6 ad6 M)) (wr := wX6 cy o6 ad6 M) (As := [.int (xs (x3 + 1).toNatClampNeg), .int (xs (x3 + 2).toNatClampNeg), .int (xs (x3 + 3).toNatClampNeg), .int (xs (x3 + 4).toNatClampNeg)]) (rest := []) C K (mtX5_free l D cy o ad oa aa or_ ar op ap T (xs (x3 + 1).toNatClampNeg) (xs (x3 + 2).toNatClampNeg) (xs (x3 + 3).toNatClampNeg) (xs (x3 + 4).toNatClampNeg) _ h) (List.Perm.refl _) (fun u => List.Perm.refl _) (cwV 4 C.2.2.2.2.1 gL_law_X5_free rfl rfl rfl (by decide +kernel) ⟨Nat.le_of_ble_eq_true rfl, Nat.le_of_ble_eq_true rfl⟩) 0 5 (g5 ..) rfl rfl rfl rfl (Nat.le_of_ble_eq_true rfl) rfl rfl ⟨by show cells ≤ 600000; omega, by show slots ≤ 7302250; omega⟩ dL_law_687 (fun r u h => ?_)
  refine aw_perm (w1 := (wX5 cy o ad oa aa or_ ar op ap u ++ wX6 cy o6 ad6 M)) (List.Perm.refl _) ?_
  refine aw_aload_n C dL_law_690 2 rfl ?_
  refine aw_aload_n C dL_law_691 0 rfl ?_
  refine aw_iload_n C dL_law_692 3 rfl ?_
  refine aw_iconst (v := 1) C dL_law_693 (by decide) ?_
  refine aw_iadd C dL_law_694 ?_
  refine aw_sld C hX hbl hbA dL_law_695 hv1 ?_
  refine aw_aload_n C dL_law_696 0 rfl ?_
  refine aw_iload_n C dL_law_697 3 rfl ?_
  refine aw_iconst (v := 2) C dL_law_698 (by decide) ?_
  refine aw_iadd C dL_law_699 ?_
  refine aw_sld C hX hbl hbA dL_law_700 hv2 ?_
  refine aw_aload_n C dL_law_701 0 rfl ?_
  refine aw_iload_n C dL_law_702 3 rfl ?_
  refine aw_iconst (v := 3) C dL_law_703 (by decide) ?_
  refine aw_iadd C dL_law_704 ?_
  refine aw_sld C hX hbl hbA dL_law_705 hv3 ?_
  refine aw_aload_n C dL_law_706 0 rfl ?_
  refine aw_iload_n C dL_law_707 3 rfl ?_
  refine aw_iconst (v := 4) C dL_law_708 (by decide) ?_
  refine aw_iadd C dL_law_709 ?_
  refine aw_sld C hX hbl hbA dL_law_710 hv4 ?_
  refine aw_callFI (cells2 := cells) (slots2 := slots) (Wx := fun w9 => (wX5 cy o ad oa aa or_ ar op ap u ++ wX6 cy o6 ad6 w9)) (wr := wX5 cy o ad oa aa or_ ar op ap u) (As := [.int (xs (x3 + 1).toNatClampNeg), .int (xs (x3 + 2).toNatClampNeg), .int (xs (x3 + 3).toNatClampNeg), .int (xs (x3 + 4).toNatClampNeg)]) (rest := [.int r]) C K (mtX6_free l D cy o6 ad6 M (xs (x3 + 1).toNatClampNeg) (xs (x3 + 2).toNatClampNeg) (xs (x3 + 3).toNatClampNeg) (xs (x3 + 4).toNatClampNeg) _ h) List.perm_append_comm (fun u => List.perm_append_comm) (cwV 4 C.2.2.2.2.1 gL_law_X6_free rfl rfl rfl (by decide +kernel) ⟨Nat.le_of_ble_eq_true rfl, Nat.le_of_ble_eq_true rfl⟩) 0 6 (wX6_g ..) rfl rfl rfl rfl (Nat.le_of_ble_eq_true rfl) rfl rfl ⟨by show cells ≤ 600000; omega, by show slots ≤ 7302250; omega⟩ dL_law_711 (fun rr v h => ?_)
  refine aw_perm (w1 := (wX5 cy o ad oa aa or_ ar op ap u ++ wX6 cy o6 ad6 v)) (List.Perm.refl _) ?_
  refine aw_icmp_eq (tgt := 1077) C dL_law_714 (by decide) (fun _ => ?_) (fun q => absurd h.1 q)
  refine aw_widen (cells2 := cells + 10) (slots2 := slots + 700) (by omega) (by omega) ?_
  exact hnext _ _ h.2
end CASE14
def stepOK_15 (Rel : TS → St → Prop) : Prop := ∀ (T : TS) (M : St) (a1 a2 : Int32), Rel T M → pX5_die T a1 a2 (fun r u => pX6_die M a1 a2 (fun rr v => r = rr ∧ Rel u v))
section CASE15
variable {p : Program} {l : Launch} {e : Env} {s : State} {m : MethodId} {below : List Frame} {meth : Method} {c : Code} {D : va_G} {A : Nat → Prop} {cy : Nat → ClassId} {b L : Nat} {xs : Nat → Int32} {cells slots : Nat}
theorem law_case_15 (C : ctB p s m #[Value.ref b] c cL_law 4 RL wsL_law) (K : ctK s D A s.heap cy) (hX : va_X b L xs s s.heap) (hbl : b < s.heap.size) (hbA : ¬ A b) {o : Nat} {ad : Nat → Nat} {oa : Nat} {aa : Nat → Nat} {or_ : Nat} {ar : Nat → Nat} {op : Nat} {ap : Nat → Nat} {o6 : Nat} {ad6 : Nat → Nat} {x3 : Int32} (hv1 : vp_in (x3 + 1) L) (hv2 : vp_in (x3 + 2) L) (hv3 : vp_in (x3 + 3) L) (hv4 : vp_in (x3 + 4) L) (hv5 : vp_in (x3 + 5) L) (hc : cells + 10 ≤ 600000) (hs : slots + 700 ≤ 7302250) {Rel : TS → St → Prop} (hstep : stepOK_15 Rel) {T : TS} {M : St} (hRel : Rel T M) (hnext : ∀ T2 M2, Rel T2 M2 → atG p l e room_1 s m #[Value.ref b] below meth c (cells + 10) (slots + 700) (lw_Z below #[Value.ref b] s) 4 (iW D A s.heap (wX5 cy o ad oa aa or_ ar op ap T2 ++ wX6 cy o6 ad6 M2)) [(0, .ref b), (1, .ref o), (2, .ref o6), (3, .int x3)] [] 1077) : atG p l e room_1 s m #[Value.ref b] below meth c cells slots (lw_Z below #[Value.ref b] s) 4 (iW D A s.heap (wX5 cy o ad oa aa or_ ar op ap T ++ wX6 cy o6 ad6 M)) [(0, .ref b), (1, .ref o), (2, .ref o6), (3, .int x3)] [] 719 := by
  have h := hstep T M (xs (x3 + 1).toNatClampNeg) (xs (x3 + 2).toNatClampNeg) hRel
  refine aw_aload_n C dL_law_719 1 rfl ?_
  refine aw_aload_n C dL_law_720 0 rfl ?_
  refine aw_iload_n C dL_law_721 3 rfl ?_
  refine aw_iconst (v := 1) C dL_law_722 (by decide) ?_
  refine aw_iadd C dL_law_723 ?_
  refine aw_sld C hX hbl hbA dL_law_724 hv1 ?_
  refine aw_aload_n C dL_law_725 0 rfl ?_
  refine aw_iload_n C dL_law_726 3 rfl ?_
  refine aw_iconst (v := 2) C dL_law_727 (by decide) ?_
  refine aw_iadd C dL_law_728 ?_
  refine aw_sld C hX hbl hbA dL_law_729 hv2 ?_
  refine aw_callFI (cells2 := cells) (slots2 := slots) (Wx := fun u => (wX5 cy o ad oa aa or_ ar op ap u ++ wX6 cy o6 ad6 M)) (wr := wX6 cy o6 ad6 M) (As := [.int (xs (x3 + 1).toNatClampNeg), .int (xs (x3 + 2).toNatClampNeg)]) (rest := []) C K (mtX5_die l D cy o ad oa aa or_ ar op ap T (xs (x3 + 1).toNatClampNeg) (xs (x3 + 2).toNatClampNeg) _ h) (List.Perm.refl _) (fun u => List.Perm.refl _) (cwV 2 C.2.2.2.2.1 gL_law_X5_die rfl rfl rfl (by decide +kernel) ⟨Nat.le_of_ble_eq_true rfl, Nat.le_of_ble_eq_true rfl⟩) 0 5 (g5 ..) rfl rfl rfl rfl (Nat.le_of_ble_eq_true rfl) rfl rfl ⟨by show cells ≤ 600000; omega, by show slots ≤ 7302250; omega⟩ dL_law_730 (fun r u h => ?_)
  refine aw_perm (w1 := (wX5 cy o ad oa aa or_ ar op ap u ++ wX6 cy o6 ad6 M)) (List.Perm.refl _) ?_
  refine aw_aload_n C dL_law_733 2 rfl ?_
  refine aw_aload_n C dL_law_734 0 rfl ?_
  refine aw_iload_n C dL_law_735 3 rfl ?_
  refine aw_iconst (v := 1) C dL_law_736 (by decide) ?_
  refine aw_iadd C dL_law_737 ?_
  refine aw_sld C hX hbl hbA dL_law_738 hv1 ?_
  refine aw_aload_n C dL_law_739 0 rfl ?_
  refine aw_iload_n C dL_law_740 3 rfl ?_
  refine aw_iconst (v := 2) C dL_law_741 (by decide) ?_
  refine aw_iadd C dL_law_742 ?_
  refine aw_sld C hX hbl hbA dL_law_743 hv2 ?_
  refine aw_callFI (cells2 := cells) (slots2 := slots) (Wx := fun w9 => (wX5 cy o ad oa aa or_ ar op ap u ++ wX6 cy o6 ad6 w9)) (wr := wX5 cy o ad oa aa or_ ar op ap u) (As := [.int (xs (x3 + 1).toNatClampNeg), .int (xs (x3 + 2).toNatClampNeg)]) (rest := [.int r]) C K (mtX6_die l D cy o6 ad6 M (xs (x3 + 1).toNatClampNeg) (xs (x3 + 2).toNatClampNeg) _ h) List.perm_append_comm (fun u => List.perm_append_comm) (cwV 2 C.2.2.2.2.1 gL_law_X6_die rfl rfl rfl (by decide +kernel) ⟨Nat.le_of_ble_eq_true rfl, Nat.le_of_ble_eq_true rfl⟩) 0 6 (wX6_g ..) rfl rfl rfl rfl (Nat.le_of_ble_eq_true rfl) rfl rfl ⟨by show cells ≤ 600000; omega, by show slots ≤ 7302250; omega⟩ dL_law_744 (fun rr v h => ?_)
  refine aw_perm (w1 := (wX5 cy o ad oa aa or_ ar op ap u ++ wX6 cy o6 ad6 v)) (List.Perm.refl _) ?_
  refine aw_icmp_eq (tgt := 1077) C dL_law_747 (by decide) (fun _ => ?_) (fun q => absurd h.1 q)
  refine aw_widen (cells2 := cells + 10) (slots2 := slots + 700) (by omega) (by omega) ?_
  exact hnext _ _ h.2
end CASE15
def stepOK_16 (Rel : TS → St → Prop) : Prop := ∀ (T : TS) (M : St) (a1 a2 : Int32), Rel T M → pX5_mend T a1 a2 (fun r u => pX6_mend M a1 a2 (fun rr v => r = rr ∧ Rel u v))
section CASE16
variable {p : Program} {l : Launch} {e : Env} {s : State} {m : MethodId} {below : List Frame} {meth : Method} {c : Code} {D : va_G} {A : Nat → Prop} {cy : Nat → ClassId} {b L : Nat} {xs : Nat → Int32} {cells slots : Nat}
theorem law_case_16 (C : ctB p s m #[Value.ref b] c cL_law 4 RL wsL_law) (K : ctK s D A s.heap cy) (hX : va_X b L xs s s.heap) (hbl : b < s.heap.size) (hbA : ¬ A b) {o : Nat} {ad : Nat → Nat} {oa : Nat} {aa : Nat → Nat} {or_ : Nat} {ar : Nat → Nat} {op : Nat} {ap : Nat → Nat} {o6 : Nat} {ad6 : Nat → Nat} {x3 : Int32} (hv1 : vp_in (x3 + 1) L) (hv2 : vp_in (x3 + 2) L) (hv3 : vp_in (x3 + 3) L) (hv4 : vp_in (x3 + 4) L) (hv5 : vp_in (x3 + 5) L) (hc : cells + 10 ≤ 600000) (hs : slots + 700 ≤ 7302250) {Rel : TS → St → Prop} (hstep : stepOK_16 Rel) {T : TS} {M : St} (hRel : Rel T M) (hnext : ∀ T2 M2, Rel T2 M2 → atG p l e room_1 s m #[Value.ref b] below meth c (cells + 10) (slots + 700) (lw_Z below #[Value.ref b] s) 4 (iW D A s.heap (wX5 cy o ad oa aa or_ ar op ap T2 ++ wX6 cy o6 ad6 M2)) [(0, .ref b), (1, .ref o), (2, .ref o6), (3, .int x3)] [] 1077) : atG p l e room_1 s m #[Value.ref b] below meth c cells slots (lw_Z below #[Value.ref b] s) 4 (iW D A s.heap (wX5 cy o ad oa aa or_ ar op ap T ++ wX6 cy o6 ad6 M)) [(0, .ref b), (1, .ref o), (2, .ref o6), (3, .int x3)] [] 752 := by
  have h := hstep T M (xs (x3 + 1).toNatClampNeg) (xs (x3 + 2).toNatClampNeg) hRel
  refine aw_aload_n C dL_law_752 1 rfl ?_
  refine aw_aload_n C dL_law_753 0 rfl ?_
  refine aw_iload_n C dL_law_754 3 rfl ?_
  refine aw_iconst (v := 1) C dL_law_755 (by decide) ?_
  refine aw_iadd C dL_law_756 ?_
  refine aw_sld C hX hbl hbA dL_law_757 hv1 ?_
  refine aw_aload_n C dL_law_758 0 rfl ?_
  refine aw_iload_n C dL_law_759 3 rfl ?_
  refine aw_iconst (v := 2) C dL_law_760 (by decide) ?_
  refine aw_iadd C dL_law_761 ?_
  refine aw_sld C hX hbl hbA dL_law_762 hv2 ?_
  refine aw_callFI (cells2 := cells) (slots2 := slots) (Wx := fun u => (wX5 cy o ad oa aa or_ ar op ap u ++ wX6 cy o6 ad6 M)) (wr := wX6 cy o6 ad6 M) (As := [.int (xs (x3 + 1).toNatClampNeg), .int (xs (x3 + 2).toNatClampNeg)]) (rest := []) C K (mtX5_mend l D cy o ad oa aa or_ ar op ap T (xs (x3 + 1).toNatClampNeg) (xs (x3 + 2).toNatClampNeg) _ h) (List.Perm.refl _) (fun u => List.Perm.refl _) (cwV 2 C.2.2.2.2.1 gL_law_X5_mend rfl rfl rfl (by decide +kernel) ⟨Nat.le_of_ble_eq_true rfl, Nat.le_of_ble_eq_true rfl⟩) 0 5 (g5 ..) rfl rfl rfl rfl (Nat.le_of_ble_eq_true rfl) rfl rfl ⟨by show cells ≤ 600000; omega, by show slots ≤ 7302250; omega⟩ dL_law_763 (fun r u h => ?_)
  refine aw_perm (w1 := (wX5 cy o ad oa aa or_ ar op ap u ++ wX6 cy o6 ad6 M)) (List.Perm.refl _) ?_
  refine aw_aload_n C dL_law_766 2 rfl ?_
  refine aw_aload_n C dL_law_767 0 rfl ?_
  refine aw_iload_n C dL_law_768 3 rfl ?_
  refine aw_iconst (v := 1) C dL_law_769 (by decide) ?_
  refine aw_iadd C dL_law_770 ?_
  refine aw_sld C hX hbl hbA dL_law_771 hv1 ?_
  refine aw_aload_n C dL_law_772 0 rfl ?_
  refine aw_iload_n C dL_law_773 3 rfl ?_
  refine aw_iconst (v := 2) C dL_law_774 (by decide) ?_
  refine aw_iadd C dL_law_775 ?_
  refine aw_sld C hX hbl hbA dL_law_776 hv2 ?_
  refine aw_callFI (cells2 := cells) (slots2 := slots) (Wx := fun w9 => (wX5 cy o ad oa aa or_ ar op ap u ++ wX6 cy o6 ad6 w9)) (wr := wX5 cy o ad oa aa or_ ar op ap u) (As := [.int (xs (x3 + 1).toNatClampNeg), .int (xs (x3 + 2).toNatClampNeg)]) (rest := [.int r]) C K (mtX6_mend l D cy o6 ad6 M (xs (x3 + 1).toNatClampNeg) (xs (x3 + 2).toNatClampNeg) _ h) List.perm_append_comm (fun u => List.perm_append_comm) (cwV 2 C.2.2.2.2.1 gL_law_X6_mend rfl rfl rfl (by decide +kernel) ⟨Nat.le_of_ble_eq_true rfl, Nat.le_of_ble_eq_true rfl⟩) 0 6 (wX6_g ..) rfl rfl rfl rfl (Nat.le_of_ble_eq_true rfl) rfl rfl ⟨by show cells ≤ 600000; omega, by show slots ≤ 7302250; omega⟩ dL_law_777 (fun rr v h => ?_)
  refine aw_perm (w1 := (wX5 cy o ad oa aa or_ ar op ap u ++ wX6 cy o6 ad6 v)) (List.Perm.refl _) ?_
  refine aw_icmp_eq (tgt := 1077) C dL_law_780 (by decide) (fun _ => ?_) (fun q => absurd h.1 q)
  refine aw_widen (cells2 := cells + 10) (slots2 := slots + 700) (by omega) (by omega) ?_
  exact hnext _ _ h.2
end CASE16
def stepOK_17 (Rel : TS → St → Prop) : Prop := ∀ (T : TS) (M : St) (a1 a2 a3 a4 a5 : Int32), Rel T M → pX5_bit T a1 a2 a3 a4 a5 (fun r u => pX6_bit M a1 a2 a3 a4 a5 (fun rr v => r = rr ∧ Rel u v))
section CASE17
variable {p : Program} {l : Launch} {e : Env} {s : State} {m : MethodId} {below : List Frame} {meth : Method} {c : Code} {D : va_G} {A : Nat → Prop} {cy : Nat → ClassId} {b L : Nat} {xs : Nat → Int32} {cells slots : Nat}
theorem law_case_17 (C : ctB p s m #[Value.ref b] c cL_law 4 RL wsL_law) (K : ctK s D A s.heap cy) (hX : va_X b L xs s s.heap) (hbl : b < s.heap.size) (hbA : ¬ A b) {o : Nat} {ad : Nat → Nat} {oa : Nat} {aa : Nat → Nat} {or_ : Nat} {ar : Nat → Nat} {op : Nat} {ap : Nat → Nat} {o6 : Nat} {ad6 : Nat → Nat} {x3 : Int32} (hv1 : vp_in (x3 + 1) L) (hv2 : vp_in (x3 + 2) L) (hv3 : vp_in (x3 + 3) L) (hv4 : vp_in (x3 + 4) L) (hv5 : vp_in (x3 + 5) L) (hc : cells + 10 ≤ 600000) (hs : slots + 700 ≤ 7302250) {Rel : TS → St → Prop} (hstep : stepOK_17 Rel) {T : TS} {M : St} (hRel : Rel T M) (hnext : ∀ T2 M2, Rel T2 M2 → atG p l e room_1 s m #[Value.ref b] below meth c (cells + 10) (slots + 700) (lw_Z below #[Value.ref b] s) 4 (iW D A s.heap (wX5 cy o ad oa aa or_ ar op ap T2 ++ wX6 cy o6 ad6 M2)) [(0, .ref b), (1, .ref o), (2, .ref o6), (3, .int x3)] [] 1077) : atG p l e room_1 s m #[Value.ref b] below meth c cells slots (lw_Z below #[Value.ref b] s) 4 (iW D A s.heap (wX5 cy o ad oa aa or_ ar op ap T ++ wX6 cy o6 ad6 M)) [(0, .ref b), (1, .ref o), (2, .ref o6), (3, .int x3)] [] 785 := by
  have h := hstep T M (xs (x3 + 1).toNatClampNeg) (xs (x3 + 2).toNatClampNeg) (xs (x3 + 3).toNatClampNeg) (xs (x3 + 4).toNatClampNeg) (xs (x3 + 5).toNatClampNeg) hRel
  refine aw_aload_n C dL_law_785 1 rfl ?_
  refine aw_aload_n C dL_law_786 0 rfl ?_
  refine aw_iload_n C dL_law_787 3 rfl ?_
  refine aw_iconst (v := 1) C dL_law_788 (by decide) ?_
  refine aw_iadd C dL_law_789 ?_
  refine aw_sld C hX hbl hbA dL_law_790 hv1 ?_
  refine aw_aload_n C dL_law_791 0 rfl ?_
  refine aw_iload_n C dL_law_792 3 rfl ?_
  refine aw_iconst (v := 2) C dL_law_793 (by decide) ?_
  refine aw_iadd C dL_law_794 ?_
  refine aw_sld C hX hbl hbA dL_law_795 hv2 ?_
  refine aw_aload_n C dL_law_796 0 rfl ?_
  refine aw_iload_n C dL_law_797 3 rfl ?_
  refine aw_iconst (v := 3) C dL_law_798 (by decide) ?_
  refine aw_iadd C dL_law_799 ?_
  refine aw_sld C hX hbl hbA dL_law_800 hv3 ?_
  refine aw_aload_n C dL_law_801 0 rfl ?_
  refine aw_iload_n C dL_law_802 3 rfl ?_
  refine aw_iconst (v := 4) C dL_law_803 (by decide) ?_
  refine aw_iadd C dL_law_804 ?_
  refine aw_sld C hX hbl hbA dL_law_805 hv4 ?_
  refine aw_aload_n C dL_law_806 0 rfl ?_
  refine aw_iload_n C dL_law_807 3 rfl ?_
  refine aw_iconst (v := 5) C dL_law_808 (by decide) ?_
  refine aw_iadd C dL_law_809 ?_
  refine aw_sld C hX hbl hbA dL_law_810 hv5 ?_
  refine aw_callFI (cells2 := cells) (slots2 := slots) (Wx := fun u => (wX5 cy o ad oa aa or_ ar op ap u ++ wX6 cy o6 ad6 M)) (wr := wX6 cy o6 ad6 M) (As := [.int (xs (x3 + 1).toNatClampNeg), .int (xs (x3 + 2).toNatClampNeg), .int (xs (x3 + 3).toNatClampNeg), .int (xs (x3 + 4).toNatClampNeg), .int (xs (x3 + 5).toNatClampNeg)]) (rest := []) C K (mtX5_bit l D cy o ad oa aa or_ ar op ap T (xs (x3 + 1).toNatClampNeg) (xs (x3 + 2).toNatClampNeg) (xs (x3 + 3).toNatClampNeg) (xs (x3 + 4).toNatClampNeg) (xs (x3 + 5).toNatClampNeg) _ h) (List.Perm.refl _) (fun u => List.Perm.refl _) (cwV 5 C.2.2.2.2.1 gL_law_X5_bit rfl rfl rfl (by decide +kernel) ⟨Nat.le_of_ble_eq_true rfl, Nat.le_of_ble_eq_true rfl⟩) 0 5 (g5 ..) rfl rfl rfl rfl (Nat.le_of_ble_eq_true rfl) rfl rfl ⟨by show cells ≤ 600000; omega, by show slots ≤ 7302250; omega⟩ dL_law_811 (fun r u h => ?_)
  refine aw_perm (w1 := (wX5 cy o ad oa aa or_ ar op ap u ++ wX6 cy o6 ad6 M)) (List.Perm.refl _) ?_
  refine aw_aload_n C dL_law_814 2 rfl ?_
  refine aw_aload_n C dL_law_815 0 rfl ?_
  refine aw_iload_n C dL_law_816 3 rfl ?_
  refine aw_iconst (v := 1) C dL_law_817 (by decide) ?_
  refine aw_iadd C dL_law_818 ?_
  refine aw_sld C hX hbl hbA dL_law_819 hv1 ?_
  refine aw_aload_n C dL_law_820 0 rfl ?_
  refine aw_iload_n C dL_law_821 3 rfl ?_
  refine aw_iconst (v := 2) C dL_law_822 (by decide) ?_
  refine aw_iadd C dL_law_823 ?_
  refine aw_sld C hX hbl hbA dL_law_824 hv2 ?_
  refine aw_aload_n C dL_law_825 0 rfl ?_
  refine aw_iload_n C dL_law_826 3 rfl ?_
  refine aw_iconst (v := 3) C dL_law_827 (by decide) ?_
  refine aw_iadd C dL_law_828 ?_
  refine aw_sld C hX hbl hbA dL_law_829 hv3 ?_
  refine aw_aload_n C dL_law_830 0 rfl ?_
  refine aw_iload_n C dL_law_831 3 rfl ?_
  refine aw_iconst (v := 4) C dL_law_832 (by decide) ?_
  refine aw_iadd C dL_law_833 ?_
  refine aw_sld C hX hbl hbA dL_law_834 hv4 ?_
  refine aw_aload_n C dL_law_835 0 rfl ?_
  refine aw_iload_n C dL_law_836 3 rfl ?_
  refine aw_iconst (v := 5) C dL_law_837 (by decide) ?_
  refine aw_iadd C dL_law_838 ?_
  refine aw_sld C hX hbl hbA dL_law_839 hv5 ?_
  refine aw_callFI (cells2 := cells) (slots2 := slots) (Wx := fun w9 => (wX5 cy o ad oa aa or_ ar op ap u ++ wX6 cy o6 ad6 w9)) (wr := wX5 cy o ad oa aa or_ ar op ap u) (As := [.int (xs (x3 + 1).toNatClampNeg), .int (xs (x3 + 2).toNatClampNeg), .int (xs (x3 + 3).toNatClampNeg), .int (xs (x3 + 4).toNatClampNeg), .int (xs (x3 + 5).toNatClampNeg)]) (rest := [.int r]) C K (mtX6_bit l D cy o6 ad6 M (xs (x3 + 1).toNatClampNeg) (xs (x3 + 2).toNatClampNeg) (xs (x3 + 3).toNatClampNeg) (xs (x3 + 4).toNatClampNeg) (xs (x3 + 5).toNatClampNeg) _ h) List.perm_append_comm (fun u => List.perm_append_comm) (cwV 5 C.2.2.2.2.1 gL_law_X6_bit rfl rfl rfl (by decide +kernel) ⟨Nat.le_of_ble_eq_true rfl, Nat.le_of_ble_eq_true rfl⟩) 0 6 (wX6_g ..) rfl rfl rfl rfl (Nat.le_of_ble_eq_true rfl) rfl rfl ⟨by show cells ≤ 600000; omega, by show slots ≤ 7302250; omega⟩ dL_law_840 (fun rr v h => ?_)
  refine aw_perm (w1 := (wX5 cy o ad oa aa or_ ar op ap u ++ wX6 cy o6 ad6 v)) (List.Perm.refl _) ?_
  refine aw_icmp_eq (tgt := 1077) C dL_law_843 (by decide) (fun _ => ?_) (fun q => absurd h.1 q)
  refine aw_widen (cells2 := cells + 10) (slots2 := slots + 700) (by omega) (by omega) ?_
  exact hnext _ _ h.2
end CASE17
def stepOK_18 (Rel : TS → St → Prop) : Prop := ∀ (T : TS) (M : St) (a1 a2 a3 a4 : Int32), Rel T M → pX5_goes T a1 a2 a3 a4 (fun r u => pX6_goes M a1 a2 a3 a4 (fun rr v => r = rr ∧ Rel u v))
section CASE18
variable {p : Program} {l : Launch} {e : Env} {s : State} {m : MethodId} {below : List Frame} {meth : Method} {c : Code} {D : va_G} {A : Nat → Prop} {cy : Nat → ClassId} {b L : Nat} {xs : Nat → Int32} {cells slots : Nat}
theorem law_case_18 (C : ctB p s m #[Value.ref b] c cL_law 4 RL wsL_law) (K : ctK s D A s.heap cy) (hX : va_X b L xs s s.heap) (hbl : b < s.heap.size) (hbA : ¬ A b) {o : Nat} {ad : Nat → Nat} {oa : Nat} {aa : Nat → Nat} {or_ : Nat} {ar : Nat → Nat} {op : Nat} {ap : Nat → Nat} {o6 : Nat} {ad6 : Nat → Nat} {x3 : Int32} (hv1 : vp_in (x3 + 1) L) (hv2 : vp_in (x3 + 2) L) (hv3 : vp_in (x3 + 3) L) (hv4 : vp_in (x3 + 4) L) (hv5 : vp_in (x3 + 5) L) (hc : cells + 10 ≤ 600000) (hs : slots + 700 ≤ 7302250) {Rel : TS → St → Prop} (hstep : stepOK_18 Rel) {T : TS} {M : St} (hRel : Rel T M) (hnext : ∀ T2 M2, Rel T2 M2 → atG p l e room_1 s m #[Value.ref b] below meth c (cells + 10) (slots + 700) (lw_Z below #[Value.ref b] s) 4 (iW D A s.heap (wX5 cy o ad oa aa or_ ar op ap T2 ++ wX6 cy o6 ad6 M2)) [(0, .ref b), (1, .ref o), (2, .ref o6), (3, .int x3)] [] 1077) : atG p l e room_1 s m #[Value.ref b] below meth c cells slots (lw_Z below #[Value.ref b] s) 4 (iW D A s.heap (wX5 cy o ad oa aa or_ ar op ap T ++ wX6 cy o6 ad6 M)) [(0, .ref b), (1, .ref o), (2, .ref o6), (3, .int x3)] [] 848 := by
  have h := hstep T M (xs (x3 + 1).toNatClampNeg) (xs (x3 + 2).toNatClampNeg) (xs (x3 + 3).toNatClampNeg) (xs (x3 + 4).toNatClampNeg) hRel
  refine aw_aload_n C dL_law_848 1 rfl ?_
  refine aw_aload_n C dL_law_849 0 rfl ?_
  refine aw_iload_n C dL_law_850 3 rfl ?_
  refine aw_iconst (v := 1) C dL_law_851 (by decide) ?_
  refine aw_iadd C dL_law_852 ?_
  refine aw_sld C hX hbl hbA dL_law_853 hv1 ?_
  refine aw_aload_n C dL_law_854 0 rfl ?_
  refine aw_iload_n C dL_law_855 3 rfl ?_
  refine aw_iconst (v := 2) C dL_law_856 (by decide) ?_
  refine aw_iadd C dL_law_857 ?_
  refine aw_sld C hX hbl hbA dL_law_858 hv2 ?_
  refine aw_aload_n C dL_law_859 0 rfl ?_
  refine aw_iload_n C dL_law_860 3 rfl ?_
  refine aw_iconst (v := 3) C dL_law_861 (by decide) ?_
  refine aw_iadd C dL_law_862 ?_
  refine aw_sld C hX hbl hbA dL_law_863 hv3 ?_
  refine aw_aload_n C dL_law_864 0 rfl ?_
  refine aw_iload_n C dL_law_865 3 rfl ?_
  refine aw_iconst (v := 4) C dL_law_866 (by decide) ?_
  refine aw_iadd C dL_law_867 ?_
  refine aw_sld C hX hbl hbA dL_law_868 hv4 ?_
  refine aw_callFI (cells2 := cells) (slots2 := slots) (Wx := fun u => (wX5 cy o ad oa aa or_ ar op ap u ++ wX6 cy o6 ad6 M)) (wr := wX6 cy o6 ad6 M) (As := [.int (xs (x3 + 1).toNatClampNeg), .int (xs (x3 + 2).toNatClampNeg), .int (xs (x3 + 3).toNatClampNeg), .int (xs (x3 + 4).toNatClampNeg)]) (rest := []) C K (mtX5_goes l D cy o ad oa aa or_ ar op ap T (xs (x3 + 1).toNatClampNeg) (xs (x3 + 2).toNatClampNeg) (xs (x3 + 3).toNatClampNeg) (xs (x3 + 4).toNatClampNeg) _ h) (List.Perm.refl _) (fun u => List.Perm.refl _) (cwV 4 C.2.2.2.2.1 gL_law_X5_goes rfl rfl rfl (by decide +kernel) ⟨Nat.le_of_ble_eq_true rfl, Nat.le_of_ble_eq_true rfl⟩) 0 5 (g5 ..) rfl rfl rfl rfl (Nat.le_of_ble_eq_true rfl) rfl rfl ⟨by show cells ≤ 600000; omega, by show slots ≤ 7302250; omega⟩ dL_law_869 (fun r u h => ?_)
  refine aw_perm (w1 := (wX5 cy o ad oa aa or_ ar op ap u ++ wX6 cy o6 ad6 M)) (List.Perm.refl _) ?_
  refine aw_aload_n C dL_law_872 2 rfl ?_
  refine aw_aload_n C dL_law_873 0 rfl ?_
  refine aw_iload_n C dL_law_874 3 rfl ?_
  refine aw_iconst (v := 1) C dL_law_875 (by decide) ?_
  refine aw_iadd C dL_law_876 ?_
  refine aw_sld C hX hbl hbA dL_law_877 hv1 ?_
  refine aw_aload_n C dL_law_878 0 rfl ?_
  refine aw_iload_n C dL_law_879 3 rfl ?_
  refine aw_iconst (v := 2) C dL_law_880 (by decide) ?_
  refine aw_iadd C dL_law_881 ?_
  refine aw_sld C hX hbl hbA dL_law_882 hv2 ?_
  refine aw_aload_n C dL_law_883 0 rfl ?_
  refine aw_iload_n C dL_law_884 3 rfl ?_
  refine aw_iconst (v := 3) C dL_law_885 (by decide) ?_
  refine aw_iadd C dL_law_886 ?_
  refine aw_sld C hX hbl hbA dL_law_887 hv3 ?_
  refine aw_aload_n C dL_law_888 0 rfl ?_
  refine aw_iload_n C dL_law_889 3 rfl ?_
  refine aw_iconst (v := 4) C dL_law_890 (by decide) ?_
  refine aw_iadd C dL_law_891 ?_
  refine aw_sld C hX hbl hbA dL_law_892 hv4 ?_
  refine aw_callFI (cells2 := cells) (slots2 := slots) (Wx := fun w9 => (wX5 cy o ad oa aa or_ ar op ap u ++ wX6 cy o6 ad6 w9)) (wr := wX5 cy o ad oa aa or_ ar op ap u) (As := [.int (xs (x3 + 1).toNatClampNeg), .int (xs (x3 + 2).toNatClampNeg), .int (xs (x3 + 3).toNatClampNeg), .int (xs (x3 + 4).toNatClampNeg)]) (rest := [.int r]) C K (mtX6_goes l D cy o6 ad6 M (xs (x3 + 1).toNatClampNeg) (xs (x3 + 2).toNatClampNeg) (xs (x3 + 3).toNatClampNeg) (xs (x3 + 4).toNatClampNeg) _ h) List.perm_append_comm (fun u => List.perm_append_comm) (cwV 4 C.2.2.2.2.1 gL_law_X6_goes rfl rfl rfl (by decide +kernel) ⟨Nat.le_of_ble_eq_true rfl, Nat.le_of_ble_eq_true rfl⟩) 0 6 (wX6_g ..) rfl rfl rfl rfl (Nat.le_of_ble_eq_true rfl) rfl rfl ⟨by show cells ≤ 600000; omega, by show slots ≤ 7302250; omega⟩ dL_law_893 (fun rr v h => ?_)
  refine aw_perm (w1 := (wX5 cy o ad oa aa or_ ar op ap u ++ wX6 cy o6 ad6 v)) (List.Perm.refl _) ?_
  refine aw_icmp_eq (tgt := 1077) C dL_law_896 (by decide) (fun _ => ?_) (fun q => absurd h.1 q)
  refine aw_widen (cells2 := cells + 10) (slots2 := slots + 700) (by omega) (by omega) ?_
  exact hnext _ _ h.2
end CASE18
def stepOK_19 (Rel : TS → St → Prop) : Prop := ∀ (T : TS) (M : St) (a1 a2 a3 a4 a5 : Int32), Rel T M → pX5_demand T a1 a2 a3 a4 a5 (fun r u => pX6_demand M a1 a2 a3 a4 a5 (fun rr v => r = rr ∧ Rel u v))
section CASE19
variable {p : Program} {l : Launch} {e : Env} {s : State} {m : MethodId} {below : List Frame} {meth : Method} {c : Code} {D : va_G} {A : Nat → Prop} {cy : Nat → ClassId} {b L : Nat} {xs : Nat → Int32} {cells slots : Nat}
theorem law_case_19 (C : ctB p s m #[Value.ref b] c cL_law 4 RL wsL_law) (K : ctK s D A s.heap cy) (hX : va_X b L xs s s.heap) (hbl : b < s.heap.size) (hbA : ¬ A b) {o : Nat} {ad : Nat → Nat} {oa : Nat} {aa : Nat → Nat} {or_ : Nat} {ar : Nat → Nat} {op : Nat} {ap : Nat → Nat} {o6 : Nat} {ad6 : Nat → Nat} {x3 : Int32} (hv1 : vp_in (x3 + 1) L) (hv2 : vp_in (x3 + 2) L) (hv3 : vp_in (x3 + 3) L) (hv4 : vp_in (x3 + 4) L) (hv5 : vp_in (x3 + 5) L) (hc : cells + 10 ≤ 600000) (hs : slots + 700 ≤ 7302250) {Rel : TS → St → Prop} (hstep : stepOK_19 Rel) {T : TS} {M : St} (hRel : Rel T M) (hnext : ∀ T2 M2, Rel T2 M2 → atG p l e room_1 s m #[Value.ref b] below meth c (cells + 10) (slots + 700) (lw_Z below #[Value.ref b] s) 4 (iW D A s.heap (wX5 cy o ad oa aa or_ ar op ap T2 ++ wX6 cy o6 ad6 M2)) [(0, .ref b), (1, .ref o), (2, .ref o6), (3, .int x3)] [] 1077) : atG p l e room_1 s m #[Value.ref b] below meth c cells slots (lw_Z below #[Value.ref b] s) 4 (iW D A s.heap (wX5 cy o ad oa aa or_ ar op ap T ++ wX6 cy o6 ad6 M)) [(0, .ref b), (1, .ref o), (2, .ref o6), (3, .int x3)] [] 901 := by
  have h := hstep T M (xs (x3 + 1).toNatClampNeg) (xs (x3 + 2).toNatClampNeg) (xs (x3 + 3).toNatClampNeg) (xs (x3 + 4).toNatClampNeg) (xs (x3 + 5).toNatClampNeg) hRel
  refine aw_aload_n C dL_law_901 1 rfl ?_
  refine aw_aload_n C dL_law_902 0 rfl ?_
  refine aw_iload_n C dL_law_903 3 rfl ?_
  refine aw_iconst (v := 1) C dL_law_904 (by decide) ?_
  refine aw_iadd C dL_law_905 ?_
  refine aw_sld C hX hbl hbA dL_law_906 hv1 ?_
  refine aw_aload_n C dL_law_907 0 rfl ?_
  refine aw_iload_n C dL_law_908 3 rfl ?_
  refine aw_iconst (v := 2) C dL_law_909 (by decide) ?_
  refine aw_iadd C dL_law_910 ?_
  refine aw_sld C hX hbl hbA dL_law_911 hv2 ?_
  refine aw_aload_n C dL_law_912 0 rfl ?_
  refine aw_iload_n C dL_law_913 3 rfl ?_
  refine aw_iconst (v := 3) C dL_law_914 (by decide) ?_
  refine aw_iadd C dL_law_915 ?_
  refine aw_sld C hX hbl hbA dL_law_916 hv3 ?_
  refine aw_aload_n C dL_law_917 0 rfl ?_
  refine aw_iload_n C dL_law_918 3 rfl ?_
  refine aw_iconst (v := 4) C dL_law_919 (by decide) ?_
  refine aw_iadd C dL_law_920 ?_
  refine aw_sld C hX hbl hbA dL_law_921 hv4 ?_
  refine aw_aload_n C dL_law_922 0 rfl ?_
  refine aw_iload_n C dL_law_923 3 rfl ?_
  refine aw_iconst (v := 5) C dL_law_924 (by decide) ?_
  refine aw_iadd C dL_law_925 ?_
  refine aw_sld C hX hbl hbA dL_law_926 hv5 ?_
  refine aw_callFI (cells2 := cells) (slots2 := slots) (Wx := fun u => (wX5 cy o ad oa aa or_ ar op ap u ++ wX6 cy o6 ad6 M)) (wr := wX6 cy o6 ad6 M) (As := [.int (xs (x3 + 1).toNatClampNeg), .int (xs (x3 + 2).toNatClampNeg), .int (xs (x3 + 3).toNatClampNeg), .int (xs (x3 + 4).toNatClampNeg), .int (xs (x3 + 5).toNatClampNeg)]) (rest := []) C K (mtX5_demand l D cy o ad oa aa or_ ar op ap T (xs (x3 + 1).toNatClampNeg) (xs (x3 + 2).toNatClampNeg) (xs (x3 + 3).toNatClampNeg) (xs (x3 + 4).toNatClampNeg) (xs (x3 + 5).toNatClampNeg) _ h) (List.Perm.refl _) (fun u => List.Perm.refl _) (cwV 5 C.2.2.2.2.1 gL_law_X5_demand rfl rfl rfl (by decide +kernel) ⟨Nat.le_of_ble_eq_true rfl, Nat.le_of_ble_eq_true rfl⟩) 0 5 (g5 ..) rfl rfl rfl rfl (Nat.le_of_ble_eq_true rfl) rfl rfl ⟨by show cells ≤ 600000; omega, by show slots ≤ 7302250; omega⟩ dL_law_927 (fun r u h => ?_)
  refine aw_perm (w1 := (wX5 cy o ad oa aa or_ ar op ap u ++ wX6 cy o6 ad6 M)) (List.Perm.refl _) ?_
  refine aw_aload_n C dL_law_930 2 rfl ?_
  refine aw_aload_n C dL_law_931 0 rfl ?_
  refine aw_iload_n C dL_law_932 3 rfl ?_
  refine aw_iconst (v := 1) C dL_law_933 (by decide) ?_
  refine aw_iadd C dL_law_934 ?_
  refine aw_sld C hX hbl hbA dL_law_935 hv1 ?_
  refine aw_aload_n C dL_law_936 0 rfl ?_
  refine aw_iload_n C dL_law_937 3 rfl ?_
  refine aw_iconst (v := 2) C dL_law_938 (by decide) ?_
  refine aw_iadd C dL_law_939 ?_
  refine aw_sld C hX hbl hbA dL_law_940 hv2 ?_
  refine aw_aload_n C dL_law_941 0 rfl ?_
  refine aw_iload_n C dL_law_942 3 rfl ?_
  refine aw_iconst (v := 3) C dL_law_943 (by decide) ?_
  refine aw_iadd C dL_law_944 ?_
  refine aw_sld C hX hbl hbA dL_law_945 hv3 ?_
  refine aw_aload_n C dL_law_946 0 rfl ?_
  refine aw_iload_n C dL_law_947 3 rfl ?_
  refine aw_iconst (v := 4) C dL_law_948 (by decide) ?_
  refine aw_iadd C dL_law_949 ?_
  refine aw_sld C hX hbl hbA dL_law_950 hv4 ?_
  refine aw_aload_n C dL_law_951 0 rfl ?_
  refine aw_iload_n C dL_law_952 3 rfl ?_
  refine aw_iconst (v := 5) C dL_law_953 (by decide) ?_
  refine aw_iadd C dL_law_954 ?_
  refine aw_sld C hX hbl hbA dL_law_955 hv5 ?_
  refine aw_callFI (cells2 := cells) (slots2 := slots) (Wx := fun w9 => (wX5 cy o ad oa aa or_ ar op ap u ++ wX6 cy o6 ad6 w9)) (wr := wX5 cy o ad oa aa or_ ar op ap u) (As := [.int (xs (x3 + 1).toNatClampNeg), .int (xs (x3 + 2).toNatClampNeg), .int (xs (x3 + 3).toNatClampNeg), .int (xs (x3 + 4).toNatClampNeg), .int (xs (x3 + 5).toNatClampNeg)]) (rest := [.int r]) C K (mtX6_demand l D cy o6 ad6 M (xs (x3 + 1).toNatClampNeg) (xs (x3 + 2).toNatClampNeg) (xs (x3 + 3).toNatClampNeg) (xs (x3 + 4).toNatClampNeg) (xs (x3 + 5).toNatClampNeg) _ h) List.perm_append_comm (fun u => List.perm_append_comm) (cwV 5 C.2.2.2.2.1 gL_law_X6_demand rfl rfl rfl (by decide +kernel) ⟨Nat.le_of_ble_eq_true rfl, Nat.le_of_ble_eq_true rfl⟩) 0 6 (wX6_g ..) rfl rfl rfl rfl (Nat.le_of_ble_eq_true rfl) rfl rfl ⟨by show cells ≤ 600000; omega, by show slots ≤ 7302250; omega⟩ dL_law_956 (fun rr v h => ?_)
  refine aw_perm (w1 := (wX5 cy o ad oa aa or_ ar op ap u ++ wX6 cy o6 ad6 v)) (List.Perm.refl _) ?_
  refine aw_icmp_eq (tgt := 1077) C dL_law_959 (by decide) (fun _ => ?_) (fun q => absurd h.1 q)
  refine aw_widen (cells2 := cells + 10) (slots2 := slots + 700) (by omega) (by omega) ?_
  exact hnext _ _ h.2
end CASE19
def stepOK_20 (Rel : TS → St → Prop) : Prop := ∀ (T : TS) (M : St) (a1 a2 a3 : Int32), Rel T M → pX5_cross T a1 a2 a3 (fun r => pX6_cross M a1 a2 a3 (fun rr v => r = rr ∧ Rel T v))
section CASE20
variable {p : Program} {l : Launch} {e : Env} {s : State} {m : MethodId} {below : List Frame} {meth : Method} {c : Code} {D : va_G} {A : Nat → Prop} {cy : Nat → ClassId} {b L : Nat} {xs : Nat → Int32} {cells slots : Nat}
theorem law_case_20 (C : ctB p s m #[Value.ref b] c cL_law 4 RL wsL_law) (K : ctK s D A s.heap cy) (hX : va_X b L xs s s.heap) (hbl : b < s.heap.size) (hbA : ¬ A b) {o : Nat} {ad : Nat → Nat} {oa : Nat} {aa : Nat → Nat} {or_ : Nat} {ar : Nat → Nat} {op : Nat} {ap : Nat → Nat} {o6 : Nat} {ad6 : Nat → Nat} {x3 : Int32} (hv1 : vp_in (x3 + 1) L) (hv2 : vp_in (x3 + 2) L) (hv3 : vp_in (x3 + 3) L) (hv4 : vp_in (x3 + 4) L) (hv5 : vp_in (x3 + 5) L) (hc : cells + 10 ≤ 600000) (hs : slots + 700 ≤ 7302250) {Rel : TS → St → Prop} (hstep : stepOK_20 Rel) {T : TS} {M : St} (hRel : Rel T M) (hnext : ∀ T2 M2, Rel T2 M2 → atG p l e room_1 s m #[Value.ref b] below meth c (cells + 10) (slots + 700) (lw_Z below #[Value.ref b] s) 4 (iW D A s.heap (wX5 cy o ad oa aa or_ ar op ap T2 ++ wX6 cy o6 ad6 M2)) [(0, .ref b), (1, .ref o), (2, .ref o6), (3, .int x3)] [] 1077) : atG p l e room_1 s m #[Value.ref b] below meth c cells slots (lw_Z below #[Value.ref b] s) 4 (iW D A s.heap (wX5 cy o ad oa aa or_ ar op ap T ++ wX6 cy o6 ad6 M)) [(0, .ref b), (1, .ref o), (2, .ref o6), (3, .int x3)] [] 964 := by
  have h := hstep T M (xs (x3 + 1).toNatClampNeg) (xs (x3 + 2).toNatClampNeg) (xs (x3 + 3).toNatClampNeg) hRel
  refine aw_aload_n C dL_law_964 1 rfl ?_
  refine aw_aload_n C dL_law_965 0 rfl ?_
  refine aw_iload_n C dL_law_966 3 rfl ?_
  refine aw_iconst (v := 1) C dL_law_967 (by decide) ?_
  refine aw_iadd C dL_law_968 ?_
  refine aw_sld C hX hbl hbA dL_law_969 hv1 ?_
  refine aw_aload_n C dL_law_970 0 rfl ?_
  refine aw_iload_n C dL_law_971 3 rfl ?_
  refine aw_iconst (v := 2) C dL_law_972 (by decide) ?_
  refine aw_iadd C dL_law_973 ?_
  refine aw_sld C hX hbl hbA dL_law_974 hv2 ?_
  refine aw_aload_n C dL_law_975 0 rfl ?_
  refine aw_iload_n C dL_law_976 3 rfl ?_
  refine aw_iconst (v := 3) C dL_law_977 (by decide) ?_
  refine aw_iadd C dL_law_978 ?_
  refine aw_sld C hX hbl hbA dL_law_979 hv3 ?_
  refine aw_callFI (cells2 := cells) (slots2 := slots) (Wx := fun u => (wX5 cy o ad oa aa or_ ar op ap u ++ wX6 cy o6 ad6 M)) (wr := wX6 cy o6 ad6 M) (As := [.int (xs (x3 + 1).toNatClampNeg), .int (xs (x3 + 2).toNatClampNeg), .int (xs (x3 + 3).toNatClampNeg)]) (rest := []) C K (mtX5_cross l D cy o ad oa aa or_ ar op ap T (xs (x3 + 1).toNatClampNeg) (xs (x3 + 2).toNatClampNeg) (xs (x3 + 3).toNatClampNeg) _ h) (List.Perm.refl _) (fun u => List.Perm.refl _) (cwV 3 C.2.2.2.2.1 gL_law_X5_cross rfl rfl rfl (by decide +kernel) ⟨Nat.le_of_ble_eq_true rfl, Nat.le_of_ble_eq_true rfl⟩) 0 5 (g5 ..) rfl rfl rfl rfl (Nat.le_of_ble_eq_true rfl) rfl rfl ⟨by show cells ≤ 600000; omega, by show slots ≤ 7302250; omega⟩ dL_law_980 (fun r u h => ?_)
  obtain ⟨h, hu⟩ := h
  refine aw_perm (w1 := (wX5 cy o ad oa aa or_ ar op ap T ++ wX6 cy o6 ad6 M)) (by rw [hu] <;> exact List.Perm.refl _) ?_
  refine aw_aload_n C dL_law_983 2 rfl ?_
  refine aw_aload_n C dL_law_984 0 rfl ?_
  refine aw_iload_n C dL_law_985 3 rfl ?_
  refine aw_iconst (v := 1) C dL_law_986 (by decide) ?_
  refine aw_iadd C dL_law_987 ?_
  refine aw_sld C hX hbl hbA dL_law_988 hv1 ?_
  refine aw_aload_n C dL_law_989 0 rfl ?_
  refine aw_iload_n C dL_law_990 3 rfl ?_
  refine aw_iconst (v := 2) C dL_law_991 (by decide) ?_
  refine aw_iadd C dL_law_992 ?_
  refine aw_sld C hX hbl hbA dL_law_993 hv2 ?_
  refine aw_aload_n C dL_law_994 0 rfl ?_
  refine aw_iload_n C dL_law_995 3 rfl ?_
  refine aw_iconst (v := 3) C dL_law_996 (by decide) ?_
  refine aw_iadd C dL_law_997 ?_
  refine aw_sld C hX hbl hbA dL_law_998 hv3 ?_
  refine aw_callFI (cells2 := cells) (slots2 := slots) (Wx := fun w9 => (wX5 cy o ad oa aa or_ ar op ap T ++ wX6 cy o6 ad6 w9)) (wr := wX5 cy o ad oa aa or_ ar op ap T) (As := [.int (xs (x3 + 1).toNatClampNeg), .int (xs (x3 + 2).toNatClampNeg), .int (xs (x3 + 3).toNatClampNeg)]) (rest := [.int r]) C K (mtX6_cross l D cy o6 ad6 M (xs (x3 + 1).toNatClampNeg) (xs (x3 + 2).toNatClampNeg) (xs (x3 + 3).toNatClampNeg) _ h) List.perm_append_comm (fun u => List.perm_append_comm) (cwV 3 C.2.2.2.2.1 gL_law_X6_cross rfl rfl rfl (by decide +kernel) ⟨Nat.le_of_ble_eq_true rfl, Nat.le_of_ble_eq_true rfl⟩) 0 6 (wX6_g ..) rfl rfl rfl rfl (Nat.le_of_ble_eq_true rfl) rfl rfl ⟨by show cells ≤ 600000; omega, by show slots ≤ 7302250; omega⟩ dL_law_999 (fun rr v h => ?_)
  refine aw_perm (w1 := (wX5 cy o ad oa aa or_ ar op ap T ++ wX6 cy o6 ad6 v)) (List.Perm.refl _) ?_
  refine aw_icmp_eq (tgt := 1077) C dL_law_1002 (by decide) (fun _ => ?_) (fun q => absurd h.1 q)
  refine aw_widen (cells2 := cells + 10) (slots2 := slots + 700) (by omega) (by omega) ?_
  exact hnext _ _ h.2
end CASE20
def stepOK_21 (Rel : TS → St → Prop) : Prop := ∀ (T : TS) (M : St) (a1 a2 : Int32), Rel T M → pX5_shut T a1 a2 (fun r => pX6_shut M a1 a2 (fun rr v => r = rr ∧ Rel T v))
section CASE21
variable {p : Program} {l : Launch} {e : Env} {s : State} {m : MethodId} {below : List Frame} {meth : Method} {c : Code} {D : va_G} {A : Nat → Prop} {cy : Nat → ClassId} {b L : Nat} {xs : Nat → Int32} {cells slots : Nat}
theorem law_case_21 (C : ctB p s m #[Value.ref b] c cL_law 4 RL wsL_law) (K : ctK s D A s.heap cy) (hX : va_X b L xs s s.heap) (hbl : b < s.heap.size) (hbA : ¬ A b) {o : Nat} {ad : Nat → Nat} {oa : Nat} {aa : Nat → Nat} {or_ : Nat} {ar : Nat → Nat} {op : Nat} {ap : Nat → Nat} {o6 : Nat} {ad6 : Nat → Nat} {x3 : Int32} (hv1 : vp_in (x3 + 1) L) (hv2 : vp_in (x3 + 2) L) (hv3 : vp_in (x3 + 3) L) (hv4 : vp_in (x3 + 4) L) (hv5 : vp_in (x3 + 5) L) (hc : cells + 10 ≤ 600000) (hs : slots + 700 ≤ 7302250) {Rel : TS → St → Prop} (hstep : stepOK_21 Rel) {T : TS} {M : St} (hRel : Rel T M) (hnext : ∀ T2 M2, Rel T2 M2 → atG p l e room_1 s m #[Value.ref b] below meth c (cells + 10) (slots + 700) (lw_Z below #[Value.ref b] s) 4 (iW D A s.heap (wX5 cy o ad oa aa or_ ar op ap T2 ++ wX6 cy o6 ad6 M2)) [(0, .ref b), (1, .ref o), (2, .ref o6), (3, .int x3)] [] 1077) : atG p l e room_1 s m #[Value.ref b] below meth c cells slots (lw_Z below #[Value.ref b] s) 4 (iW D A s.heap (wX5 cy o ad oa aa or_ ar op ap T ++ wX6 cy o6 ad6 M)) [(0, .ref b), (1, .ref o), (2, .ref o6), (3, .int x3)] [] 1007 := by
  have h := hstep T M (xs (x3 + 1).toNatClampNeg) (xs (x3 + 2).toNatClampNeg) hRel
  refine aw_aload_n C dL_law_1007 1 rfl ?_
  refine aw_aload_n C dL_law_1008 0 rfl ?_
  refine aw_iload_n C dL_law_1009 3 rfl ?_
  refine aw_iconst (v := 1) C dL_law_1010 (by decide) ?_
  refine aw_iadd C dL_law_1011 ?_
  refine aw_sld C hX hbl hbA dL_law_1012 hv1 ?_
  refine aw_aload_n C dL_law_1013 0 rfl ?_
  refine aw_iload_n C dL_law_1014 3 rfl ?_
  refine aw_iconst (v := 2) C dL_law_1015 (by decide) ?_
  refine aw_iadd C dL_law_1016 ?_
  refine aw_sld C hX hbl hbA dL_law_1017 hv2 ?_
  refine aw_callFL (cells2 := cells) (slots2 := slots) (Wx := fun u => (wX5 cy o ad oa aa or_ ar op ap u ++ wX6 cy o6 ad6 M)) (wr := wX6 cy o6 ad6 M) (As := [.int (xs (x3 + 1).toNatClampNeg), .int (xs (x3 + 2).toNatClampNeg)]) (rest := []) C K (mtX5_shut l D cy o ad oa aa or_ ar op ap T (xs (x3 + 1).toNatClampNeg) (xs (x3 + 2).toNatClampNeg) _ h) (List.Perm.refl _) (fun u => List.Perm.refl _) (cwV 2 C.2.2.2.2.1 gL_law_X5_shut rfl rfl rfl (by decide +kernel) ⟨Nat.le_of_ble_eq_true rfl, Nat.le_of_ble_eq_true rfl⟩) 0 5 (g5 ..) rfl rfl rfl rfl (Nat.le_of_ble_eq_true rfl) rfl rfl ⟨by show cells ≤ 600000; omega, by show slots ≤ 7302250; omega⟩ dL_law_1018 (fun r u h => ?_)
  obtain ⟨h, hu⟩ := h
  refine aw_perm (w1 := (wX5 cy o ad oa aa or_ ar op ap T ++ wX6 cy o6 ad6 M)) (by rw [hu] <;> exact List.Perm.refl _) ?_
  refine aw_aload_n C dL_law_1021 2 rfl ?_
  refine aw_aload_n C dL_law_1022 0 rfl ?_
  refine aw_iload_n C dL_law_1023 3 rfl ?_
  refine aw_iconst (v := 1) C dL_law_1024 (by decide) ?_
  refine aw_iadd C dL_law_1025 ?_
  refine aw_sld C hX hbl hbA dL_law_1026 hv1 ?_
  refine aw_aload_n C dL_law_1027 0 rfl ?_
  refine aw_iload_n C dL_law_1028 3 rfl ?_
  refine aw_iconst (v := 2) C dL_law_1029 (by decide) ?_
  refine aw_iadd C dL_law_1030 ?_
  refine aw_sld C hX hbl hbA dL_law_1031 hv2 ?_
  refine aw_callFL (cells2 := cells) (slots2 := slots) (Wx := fun w9 => (wX5 cy o ad oa aa or_ ar op ap T ++ wX6 cy o6 ad6 w9)) (wr := wX5 cy o ad oa aa or_ ar op ap T) (As := [.int (xs (x3 + 1).toNatClampNeg), .int (xs (x3 + 2).toNatClampNeg)]) (rest := [.long r]) C K (mtX6_shut l D cy o6 ad6 M (xs (x3 + 1).toNatClampNeg) (xs (x3 + 2).toNatClampNeg) _ h) List.perm_append_comm (fun u => List.perm_append_comm) (cwV 2 C.2.2.2.2.1 gL_law_X6_shut rfl rfl rfl (by decide +kernel) ⟨Nat.le_of_ble_eq_true rfl, Nat.le_of_ble_eq_true rfl⟩) 0 6 (wX6_g ..) rfl rfl rfl rfl (Nat.le_of_ble_eq_true rfl) rfl rfl ⟨by show cells ≤ 600000; omega, by show slots ≤ 7302250; omega⟩ dL_law_1032 (fun rr v h => ?_)
  refine aw_perm (w1 := (wX5 cy o ad oa aa or_ ar op ap T ++ wX6 cy o6 ad6 v)) (List.Perm.refl _) ?_
  refine aw_lcmp C dL_law_1035 ?_
  rw [h.1, lg_cmp_self]
  refine aw_if_eq (tgt := 1077) C dL_law_1036 (by decide) (fun _ => ?_) (fun q => absurd rfl q)
  refine aw_widen (cells2 := cells + 10) (slots2 := slots + 700) (by omega) (by omega) ?_
  exact hnext _ _ h.2
end CASE21
def stepOK_22 (Rel : TS → St → Prop) : Prop := ∀ (T : TS) (M : St) (a1 : Int32), Rel T M → pX5_count T a1 (fun r => pX6_count M a1 (fun rr v => r = rr ∧ Rel T v))
section CASE22
variable {p : Program} {l : Launch} {e : Env} {s : State} {m : MethodId} {below : List Frame} {meth : Method} {c : Code} {D : va_G} {A : Nat → Prop} {cy : Nat → ClassId} {b L : Nat} {xs : Nat → Int32} {cells slots : Nat}
theorem law_case_22 (C : ctB p s m #[Value.ref b] c cL_law 4 RL wsL_law) (K : ctK s D A s.heap cy) (hX : va_X b L xs s s.heap) (hbl : b < s.heap.size) (hbA : ¬ A b) {o : Nat} {ad : Nat → Nat} {oa : Nat} {aa : Nat → Nat} {or_ : Nat} {ar : Nat → Nat} {op : Nat} {ap : Nat → Nat} {o6 : Nat} {ad6 : Nat → Nat} {x3 : Int32} (hv1 : vp_in (x3 + 1) L) (hv2 : vp_in (x3 + 2) L) (hv3 : vp_in (x3 + 3) L) (hv4 : vp_in (x3 + 4) L) (hv5 : vp_in (x3 + 5) L) (hc : cells + 10 ≤ 600000) (hs : slots + 700 ≤ 7302250) {Rel : TS → St → Prop} (hstep : stepOK_22 Rel) {T : TS} {M : St} (hRel : Rel T M) (hnext : ∀ T2 M2, Rel T2 M2 → atG p l e room_1 s m #[Value.ref b] below meth c (cells + 10) (slots + 700) (lw_Z below #[Value.ref b] s) 4 (iW D A s.heap (wX5 cy o ad oa aa or_ ar op ap T2 ++ wX6 cy o6 ad6 M2)) [(0, .ref b), (1, .ref o), (2, .ref o6), (3, .int x3)] [] 1077) : atG p l e room_1 s m #[Value.ref b] below meth c cells slots (lw_Z below #[Value.ref b] s) 4 (iW D A s.heap (wX5 cy o ad oa aa or_ ar op ap T ++ wX6 cy o6 ad6 M)) [(0, .ref b), (1, .ref o), (2, .ref o6), (3, .int x3)] [] 1041 := by
  have h := hstep T M (xs (x3 + 1).toNatClampNeg) hRel
  refine aw_aload_n C dL_law_1041 1 rfl ?_
  refine aw_aload_n C dL_law_1042 0 rfl ?_
  refine aw_iload_n C dL_law_1043 3 rfl ?_
  refine aw_iconst (v := 1) C dL_law_1044 (by decide) ?_
  refine aw_iadd C dL_law_1045 ?_
  refine aw_sld C hX hbl hbA dL_law_1046 hv1 ?_
  refine aw_callFI (cells2 := cells) (slots2 := slots) (Wx := fun u => (wX5 cy o ad oa aa or_ ar op ap u ++ wX6 cy o6 ad6 M)) (wr := wX6 cy o6 ad6 M) (As := [.int (xs (x3 + 1).toNatClampNeg)]) (rest := []) C K (mtX5_count l D cy o ad oa aa or_ ar op ap T (xs (x3 + 1).toNatClampNeg) _ h) (List.Perm.refl _) (fun u => List.Perm.refl _) (cwV 1 C.2.2.2.2.1 gL_law_X5_count rfl rfl rfl (by decide +kernel) ⟨Nat.le_of_ble_eq_true rfl, Nat.le_of_ble_eq_true rfl⟩) 0 5 (g5 ..) rfl rfl rfl rfl (Nat.le_of_ble_eq_true rfl) rfl rfl ⟨by show cells ≤ 600000; omega, by show slots ≤ 7302250; omega⟩ dL_law_1047 (fun r u h => ?_)
  obtain ⟨h, hu⟩ := h
  refine aw_perm (w1 := (wX5 cy o ad oa aa or_ ar op ap T ++ wX6 cy o6 ad6 M)) (by rw [hu] <;> exact List.Perm.refl _) ?_
  refine aw_aload_n C dL_law_1050 2 rfl ?_
  refine aw_aload_n C dL_law_1051 0 rfl ?_
  refine aw_iload_n C dL_law_1052 3 rfl ?_
  refine aw_iconst (v := 1) C dL_law_1053 (by decide) ?_
  refine aw_iadd C dL_law_1054 ?_
  refine aw_sld C hX hbl hbA dL_law_1055 hv1 ?_
  refine aw_callFI (cells2 := cells) (slots2 := slots) (Wx := fun w9 => (wX5 cy o ad oa aa or_ ar op ap T ++ wX6 cy o6 ad6 w9)) (wr := wX5 cy o ad oa aa or_ ar op ap T) (As := [.int (xs (x3 + 1).toNatClampNeg)]) (rest := [.int r]) C K (mtX6_count l D cy o6 ad6 M (xs (x3 + 1).toNatClampNeg) _ h) List.perm_append_comm (fun u => List.perm_append_comm) (cwV 1 C.2.2.2.2.1 gL_law_X6_count rfl rfl rfl (by decide +kernel) ⟨Nat.le_of_ble_eq_true rfl, Nat.le_of_ble_eq_true rfl⟩) 0 6 (wX6_g ..) rfl rfl rfl rfl (Nat.le_of_ble_eq_true rfl) rfl rfl ⟨by show cells ≤ 600000; omega, by show slots ≤ 7302250; omega⟩ dL_law_1056 (fun rr v h => ?_)
  refine aw_perm (w1 := (wX5 cy o ad oa aa or_ ar op ap T ++ wX6 cy o6 ad6 v)) (List.Perm.refl _) ?_
  refine aw_icmp_eq (tgt := 1077) C dL_law_1059 (by decide) (fun _ => ?_) (fun q => absurd h.1 q)
  refine aw_widen (cells2 := cells + 10) (slots2 := slots + 700) (by omega) (by omega) ?_
  exact hnext _ _ h.2
end CASE22
def stepOK_23 (Rel : TS → St → Prop) : Prop := ∀ (T : TS) (M : St), Rel T M → pX5_status T (fun r => pX6_status M (fun rr v => r = rr ∧ Rel T v))
section CASE23
variable {p : Program} {l : Launch} {e : Env} {s : State} {m : MethodId} {below : List Frame} {meth : Method} {c : Code} {D : va_G} {A : Nat → Prop} {cy : Nat → ClassId} {b L : Nat} {xs : Nat → Int32} {cells slots : Nat}
theorem law_case_23 (C : ctB p s m #[Value.ref b] c cL_law 4 RL wsL_law) (K : ctK s D A s.heap cy) (hX : va_X b L xs s s.heap) (hbl : b < s.heap.size) (hbA : ¬ A b) {o : Nat} {ad : Nat → Nat} {oa : Nat} {aa : Nat → Nat} {or_ : Nat} {ar : Nat → Nat} {op : Nat} {ap : Nat → Nat} {o6 : Nat} {ad6 : Nat → Nat} {x3 : Int32} (hv1 : vp_in (x3 + 1) L) (hv2 : vp_in (x3 + 2) L) (hv3 : vp_in (x3 + 3) L) (hv4 : vp_in (x3 + 4) L) (hv5 : vp_in (x3 + 5) L) (hc : cells + 10 ≤ 600000) (hs : slots + 700 ≤ 7302250) {Rel : TS → St → Prop} (hstep : stepOK_23 Rel) {T : TS} {M : St} (hRel : Rel T M) (hnext : ∀ T2 M2, Rel T2 M2 → atG p l e room_1 s m #[Value.ref b] below meth c (cells + 10) (slots + 700) (lw_Z below #[Value.ref b] s) 4 (iW D A s.heap (wX5 cy o ad oa aa or_ ar op ap T2 ++ wX6 cy o6 ad6 M2)) [(0, .ref b), (1, .ref o), (2, .ref o6), (3, .int x3)] [] 1077) : atG p l e room_1 s m #[Value.ref b] below meth c cells slots (lw_Z below #[Value.ref b] s) 4 (iW D A s.heap (wX5 cy o ad oa aa or_ ar op ap T ++ wX6 cy o6 ad6 M)) [(0, .ref b), (1, .ref o), (2, .ref o6), (3, .int x3)] [] 1064 := by
  have h := hstep T M hRel
  refine aw_aload_n C dL_law_1064 1 rfl ?_
  refine aw_callFI (cells2 := cells) (slots2 := slots) (Wx := fun u => (wX5 cy o ad oa aa or_ ar op ap u ++ wX6 cy o6 ad6 M)) (wr := wX6 cy o6 ad6 M) (As := []) (rest := []) C K (mtX5_status l D cy o ad oa aa or_ ar op ap T _ h) (List.Perm.refl _) (fun u => List.Perm.refl _) (cwV 0 C.2.2.2.2.1 gL_law_X5_status rfl rfl rfl (by decide +kernel) ⟨Nat.le_of_ble_eq_true rfl, Nat.le_of_ble_eq_true rfl⟩) 0 5 (g5 ..) rfl rfl rfl rfl (Nat.le_of_ble_eq_true rfl) rfl rfl ⟨by show cells ≤ 600000; omega, by show slots ≤ 7302250; omega⟩ dL_law_1065 (fun r u h => ?_)
  obtain ⟨h, hu⟩ := h
  refine aw_perm (w1 := (wX5 cy o ad oa aa or_ ar op ap T ++ wX6 cy o6 ad6 M)) (by rw [hu] <;> exact List.Perm.refl _) ?_
  refine aw_aload_n C dL_law_1068 2 rfl ?_
  refine aw_callFI (cells2 := cells) (slots2 := slots) (Wx := fun w9 => (wX5 cy o ad oa aa or_ ar op ap T ++ wX6 cy o6 ad6 w9)) (wr := wX5 cy o ad oa aa or_ ar op ap T) (As := []) (rest := [.int r]) C K (mtX6_status l D cy o6 ad6 M _ h) List.perm_append_comm (fun u => List.perm_append_comm) (cwV 0 C.2.2.2.2.1 gL_law_X6_status rfl rfl rfl (by decide +kernel) ⟨Nat.le_of_ble_eq_true rfl, Nat.le_of_ble_eq_true rfl⟩) 0 6 (wX6_g ..) rfl rfl rfl rfl (Nat.le_of_ble_eq_true rfl) rfl rfl ⟨by show cells ≤ 600000; omega, by show slots ≤ 7302250; omega⟩ dL_law_1069 (fun rr v h => ?_)
  refine aw_perm (w1 := (wX5 cy o ad oa aa or_ ar op ap T ++ wX6 cy o6 ad6 v)) (List.Perm.refl _) ?_
  refine aw_icmp_eq (tgt := 1077) C dL_law_1072 (by decide) (fun _ => ?_) (fun q => absurd h.1 q)
  refine aw_widen (cells2 := cells + 10) (slots2 := slots + 700) (by omega) (by omega) ?_
  exact hnext _ _ h.2
end CASE23
def stepsOK (Rel : TS → St → Prop) : Prop := (pX5_init (fun T => pX6_init (fun M => Rel T M))) ∧ stepOK_0 Rel ∧ stepOK_1 Rel ∧ stepOK_2 Rel ∧ stepOK_3 Rel ∧ stepOK_4 Rel ∧ stepOK_5 Rel ∧ stepOK_6 Rel ∧ stepOK_7 Rel ∧ stepOK_8 Rel ∧ stepOK_9 Rel ∧ stepOK_10 Rel ∧ stepOK_11 Rel ∧ stepOK_12 Rel ∧ stepOK_13 Rel ∧ stepOK_14 Rel ∧ stepOK_15 Rel ∧ stepOK_16 Rel ∧ stepOK_17 Rel ∧ stepOK_18 Rel ∧ stepOK_19 Rel ∧ stepOK_20 Rel ∧ stepOK_21 Rel ∧ stepOK_22 Rel ∧ stepOK_23 Rel
section SW
variable {p : Program} {l : Launch} {e : Env} {s : State} {m : MethodId} {below : List Frame} {meth : Method} {c : Code} {D : va_G} {A : Nat → Prop} {cy : Nat → ClassId} {b L : Nat} {xs : Nat → Int32} {cells slots : Nat}
theorem law_switch (C : ctB p s m #[Value.ref b] c cL_law 4 RL wsL_law) (K : ctK s D A s.heap cy) (hX : va_X b L xs s s.heap) (hbl : b < s.heap.size) (hbA : ¬ A b) {o : Nat} {ad : Nat → Nat} {oa : Nat} {aa : Nat → Nat} {or_ : Nat} {ar : Nat → Nat} {op : Nat} {ap : Nat → Nat} {o6 : Nat} {ad6 : Nat → Nat} {x3 : Int32} (hv0 : vp_in x3 L) (hv1 : vp_in (x3 + 1) L) (hv2 : vp_in (x3 + 2) L) (hv3 : vp_in (x3 + 3) L) (hv4 : vp_in (x3 + 4) L) (hv5 : vp_in (x3 + 5) L) (hc : cells + 10 ≤ 600000) (hs : slots + 700 ≤ 7302250) {Rel : TS → St → Prop} (H : stepsOK Rel) {T : TS} {M : St} (hRel : Rel T M) (hnext : ∀ T2 M2, Rel T2 M2 → atG p l e room_1 s m #[Value.ref b] below meth c (cells + 10) (slots + 700) (lw_Z below #[Value.ref b] s) 4 (iW D A s.heap (wX5 cy o ad oa aa or_ ar op ap T2 ++ wX6 cy o6 ad6 M2)) [(0, .ref b), (1, .ref o), (2, .ref o6), (3, .int x3)] [] 1077) : atG p l e room_1 s m #[Value.ref b] below meth c cells slots (lw_Z below #[Value.ref b] s) 4 (iW D A s.heap (wX5 cy o ad oa aa or_ ar op ap T ++ wX6 cy o6 ad6 M)) [(0, .ref b), (1, .ref o), (2, .ref o6), (3, .int x3)] [] 27 := by
  refine aw_aload_n C dL_law_27 0 rfl ?_
  refine aw_iload_n C dL_law_28 3 rfl ?_
  refine aw_sld C hX hbl hbA dL_law_29 hv0 ?_
  refine aw_bipush (v := 31) C dL_law_30 (by decide) ?_
  refine aw_iand C dL_law_32 ?_
  refine aw_name (fun w ew => ?_)
  by_cases c0 : w = 0
  · refine aw_tabIn (tgt := 144) C dL_law_33 c0 (by decide) (by decide) rfl (by decide) ?_
    exact law_case_0 C K hX hbl hbA hv1 hv2 hv3 hv4 hv5 hc hs (H.2.1) hRel hnext
  by_cases c1 : w = 1
  · refine aw_tabIn (tgt := 187) C dL_law_33 c1 (by decide) (by decide) rfl (by decide) ?_
    exact law_case_1 C K hX hbl hbA hv1 hv2 hv3 hv4 hv5 hc hs (H.2.2.1) hRel hnext
  by_cases c2 : w = 2
  · refine aw_tabIn (tgt := 230) C dL_law_33 c2 (by decide) (by decide) rfl (by decide) ?_
    exact law_case_2 C K hX hbl hbA hv1 hv2 hv3 hv4 hv5 hc hs (H.2.2.2.1) hRel hnext
  by_cases c3 : w = 3
  · refine aw_tabIn (tgt := 293) C dL_law_33 c3 (by decide) (by decide) rfl (by decide) ?_
    exact law_case_3 C K hX hbl hbA hv1 hv2 hv3 hv4 hv5 hc hs (H.2.2.2.2.1) hRel hnext
  by_cases c4 : w = 4
  · refine aw_tabIn (tgt := 316) C dL_law_33 c4 (by decide) (by decide) rfl (by decide) ?_
    exact law_case_4 C K hX hbl hbA hv1 hv2 hv3 hv4 hv5 hc hs (H.2.2.2.2.2.1) hRel hnext
  by_cases c5 : w = 5
  · refine aw_tabIn (tgt := 369) C dL_law_33 c5 (by decide) (by decide) rfl (by decide) ?_
    exact law_case_5 C K hX hbl hbA hv1 hv2 hv3 hv4 hv5 hc hs (H.2.2.2.2.2.2.1) hRel hnext
  by_cases c6 : w = 6
  · refine aw_tabIn (tgt := 392) C dL_law_33 c6 (by decide) (by decide) rfl (by decide) ?_
    exact law_case_6 C K hX hbl hbA hv1 hv2 hv3 hv4 hv5 hc hs (H.2.2.2.2.2.2.2.1) hRel hnext
  by_cases c7 : w = 7
  · refine aw_tabIn (tgt := 415) C dL_law_33 c7 (by decide) (by decide) rfl (by decide) ?_
    exact law_case_7 C K hX hbl hbA hv1 hv2 hv3 hv4 hv5 hc hs (H.2.2.2.2.2.2.2.2.1) hRel hnext
  by_cases c8 : w = 8
  · refine aw_tabIn (tgt := 448) C dL_law_33 c8 (by decide) (by decide) rfl (by decide) ?_
    exact law_case_8 C K hX hbl hbA hv1 hv2 hv3 hv4 hv5 hc hs (H.2.2.2.2.2.2.2.2.2.1) hRel hnext
  by_cases c9 : w = 9
  · refine aw_tabIn (tgt := 481) C dL_law_33 c9 (by decide) (by decide) rfl (by decide) ?_
    exact law_case_9 C K hX hbl hbA hv1 hv2 hv3 hv4 hv5 hc hs (H.2.2.2.2.2.2.2.2.2.2.1) hRel hnext
  by_cases c10 : w = 10
  · refine aw_tabIn (tgt := 514) C dL_law_33 c10 (by decide) (by decide) rfl (by decide) ?_
    exact law_case_10 C K hX hbl hbA hv1 hv2 hv3 hv4 hv5 hc hs (H.2.2.2.2.2.2.2.2.2.2.2.1) hRel hnext
  by_cases c11 : w = 11
  · refine aw_tabIn (tgt := 537) C dL_law_33 c11 (by decide) (by decide) rfl (by decide) ?_
    exact law_case_11 C K hX hbl hbA hv1 hv2 hv3 hv4 hv5 hc hs (H.2.2.2.2.2.2.2.2.2.2.2.2.1) hRel hnext
  by_cases c12 : w = 12
  · refine aw_tabIn (tgt := 590) C dL_law_33 c12 (by decide) (by decide) rfl (by decide) ?_
    exact law_case_12 C K hX hbl hbA hv1 hv2 hv3 hv4 hv5 hc hs (H.2.2.2.2.2.2.2.2.2.2.2.2.2.1) hRel hnext
  by_cases c13 : w = 13
  · refine aw_tabIn (tgt := 623) C dL_law_33 c13 (by decide) (by decide) rfl (by decide) ?_
    exact law_case_13 C K hX hbl hbA hv1 hv2 hv3 hv4 hv5 hc hs (H.2.2.2.2.2.2.2.2.2.2.2.2.2.2.1) hRel hnext
  by_cases c14 : w = 14
  · refine aw_tabIn (tgt := 666) C dL_law_33 c14 (by decide) (by decide) rfl (by decide) ?_
    exact law_case_14 C K hX hbl hbA hv1 hv2 hv3 hv4 hv5 hc hs (H.2.2.2.2.2.2.2.2.2.2.2.2.2.2.2.1) hRel hnext
  by_cases c15 : w = 15
  · refine aw_tabIn (tgt := 719) C dL_law_33 c15 (by decide) (by decide) rfl (by decide) ?_
    exact law_case_15 C K hX hbl hbA hv1 hv2 hv3 hv4 hv5 hc hs (H.2.2.2.2.2.2.2.2.2.2.2.2.2.2.2.2.1) hRel hnext
  by_cases c16 : w = 16
  · refine aw_tabIn (tgt := 752) C dL_law_33 c16 (by decide) (by decide) rfl (by decide) ?_
    exact law_case_16 C K hX hbl hbA hv1 hv2 hv3 hv4 hv5 hc hs (H.2.2.2.2.2.2.2.2.2.2.2.2.2.2.2.2.2.1) hRel hnext
  by_cases c17 : w = 17
  · refine aw_tabIn (tgt := 785) C dL_law_33 c17 (by decide) (by decide) rfl (by decide) ?_
    exact law_case_17 C K hX hbl hbA hv1 hv2 hv3 hv4 hv5 hc hs (H.2.2.2.2.2.2.2.2.2.2.2.2.2.2.2.2.2.2.1) hRel hnext
  by_cases c18 : w = 18
  · refine aw_tabIn (tgt := 848) C dL_law_33 c18 (by decide) (by decide) rfl (by decide) ?_
    exact law_case_18 C K hX hbl hbA hv1 hv2 hv3 hv4 hv5 hc hs (H.2.2.2.2.2.2.2.2.2.2.2.2.2.2.2.2.2.2.2.1) hRel hnext
  by_cases c19 : w = 19
  · refine aw_tabIn (tgt := 901) C dL_law_33 c19 (by decide) (by decide) rfl (by decide) ?_
    exact law_case_19 C K hX hbl hbA hv1 hv2 hv3 hv4 hv5 hc hs (H.2.2.2.2.2.2.2.2.2.2.2.2.2.2.2.2.2.2.2.2.1) hRel hnext
  by_cases c20 : w = 20
  · refine aw_tabIn (tgt := 964) C dL_law_33 c20 (by decide) (by decide) rfl (by decide) ?_
    exact law_case_20 C K hX hbl hbA hv1 hv2 hv3 hv4 hv5 hc hs (H.2.2.2.2.2.2.2.2.2.2.2.2.2.2.2.2.2.2.2.2.2.1) hRel hnext
  by_cases c21 : w = 21
  · refine aw_tabIn (tgt := 1007) C dL_law_33 c21 (by decide) (by decide) rfl (by decide) ?_
    exact law_case_21 C K hX hbl hbA hv1 hv2 hv3 hv4 hv5 hc hs (H.2.2.2.2.2.2.2.2.2.2.2.2.2.2.2.2.2.2.2.2.2.2.1) hRel hnext
  by_cases c22 : w = 22
  · refine aw_tabIn (tgt := 1041) C dL_law_33 c22 (by decide) (by decide) rfl (by decide) ?_
    exact law_case_22 C K hX hbl hbA hv1 hv2 hv3 hv4 hv5 hc hs (H.2.2.2.2.2.2.2.2.2.2.2.2.2.2.2.2.2.2.2.2.2.2.2.1) hRel hnext
  by_cases c23 : w = 23
  · refine aw_tabIn (tgt := 1064) C dL_law_33 c23 (by decide) (by decide) rfl (by decide) ?_
    exact law_case_23 C K hX hbl hbA hv1 hv2 hv3 hv4 hv5 hc hs (H.2.2.2.2.2.2.2.2.2.2.2.2.2.2.2.2.2.2.2.2.2.2.2.2) hRel hnext
  refine aw_tabOut (tgt := 1077) C dL_law_33 (tab_out 0 24 (by decide) (fun j hj => match j, hj with | 0, _ => fun e => c0 (Int32.toInt_inj.mp (e.trans (by decide))) | 1, _ => fun e => c1 (Int32.toInt_inj.mp (e.trans (by decide))) | 2, _ => fun e => c2 (Int32.toInt_inj.mp (e.trans (by decide))) | 3, _ => fun e => c3 (Int32.toInt_inj.mp (e.trans (by decide))) | 4, _ => fun e => c4 (Int32.toInt_inj.mp (e.trans (by decide))) | 5, _ => fun e => c5 (Int32.toInt_inj.mp (e.trans (by decide))) | 6, _ => fun e => c6 (Int32.toInt_inj.mp (e.trans (by decide))) | 7, _ => fun e => c7 (Int32.toInt_inj.mp (e.trans (by decide))) | 8, _ => fun e => c8 (Int32.toInt_inj.mp (e.trans (by decide))) | 9, _ => fun e => c9 (Int32.toInt_inj.mp (e.trans (by decide))) | 10, _ => fun e => c10 (Int32.toInt_inj.mp (e.trans (by decide))) | 11, _ => fun e => c11 (Int32.toInt_inj.mp (e.trans (by decide))) | 12, _ => fun e => c12 (Int32.toInt_inj.mp (e.trans (by decide))) | 13, _ => fun e => c13 (Int32.toInt_inj.mp (e.trans (by decide))) | 14, _ => fun e => c14 (Int32.toInt_inj.mp (e.trans (by decide))) | 15, _ => fun e => c15 (Int32.toInt_inj.mp (e.trans (by decide))) | 16, _ => fun e => c16 (Int32.toInt_inj.mp (e.trans (by decide))) | 17, _ => fun e => c17 (Int32.toInt_inj.mp (e.trans (by decide))) | 18, _ => fun e => c18 (Int32.toInt_inj.mp (e.trans (by decide))) | 19, _ => fun e => c19 (Int32.toInt_inj.mp (e.trans (by decide))) | 20, _ => fun e => c20 (Int32.toInt_inj.mp (e.trans (by decide))) | 21, _ => fun e => c21 (Int32.toInt_inj.mp (e.trans (by decide))) | 22, _ => fun e => c22 (Int32.toInt_inj.mp (e.trans (by decide))) | 23, _ => fun e => c23 (Int32.toInt_inj.mp (e.trans (by decide))) | j + 24, hj => absurd hj (by omega))) (by decide) ?_
  refine aw_widen (cells2 := cells + 10) (slots2 := slots + 700) (by omega) (by omega) ?_
  exact hnext _ _ hRel
end SW
section LOOP
variable {p : Program} {l : Launch} {e : Env} {s : State} {m : MethodId} {below : List Frame} {meth : Method} {c : Code} {D : va_G} {A : Nat → Prop} {cy : Nat → ClassId} {b L : Nat} {xs : Nat → Int32} {cells slots : Nat}
theorem law_loop (hb : c.code = code) (hr : meth.sig.returnType = ret) (hlocks : meth.locks = false) (hL : L ≤ 3072) (C : ctB p s m #[Value.ref b] c cL_law 4 RL wsL_law) (K : ctK s D A s.heap cy) (hX : va_X b L xs s s.heap) (hbl : b < s.heap.size) (hbA : ¬ A b) (hAs : ∀ q : Nat, A q → s.heap.size ≤ q) {o : Nat} {ad : Nat → Nat} {oa : Nat} {aa : Nat → Nat} {or_ : Nat} {ar : Nat → Nat} {op : Nat} {ap : Nat → Nat} {o6 : Nat} {ad6 : Nat → Nat} {Rel : TS → St → Prop} (H : stepsOK Rel) : ∀ (n k : Nat) (T : TS) (M : St), Rel T M → L < 6 * k + 6 * n → 6 * k ≤ L → atG p l e room_1 s m #[Value.ref b] below meth c (100 + 10 * k) (3000 + 700 * k) (lw_Z below #[Value.ref b] s) 4 (iW D A s.heap (wX5 cy o ad oa aa or_ ar op ap T ++ wX6 cy o6 ad6 M)) [(0, .ref b), (1, .ref o), (2, .ref o6), (3, .int (nI (6 * k)))] [] 18 := by
  intro n
  induction n with
  | zero => intro k T M hRel h1 h2; omega
  | succ n ih =>
    intro k T M hRel h1 h2
    refine aw_iload_n C dL_law_18 3 rfl ?_
    refine aw_aload_n C dL_law_19 0 rfl ?_
    refine aw_slen C hX hbl hbA dL_law_20 ?_
    refine aw_bipush (v := 6) C dL_law_21 (by decide) ?_
    refine aw_isub C dL_law_23 ?_
    refine aw_icmp_gt (tgt := 1083) C dL_law_24 (by decide) (fun _ => ?_) (fun q => ?_)
    · refine aw_iconst (v := 1) C dL_law_1083 (by decide) ?_
      intro Hh locs ls hI hl
      refine va_forget (fun q hq => hAs _ (hI.2.2.2.2 q hq)) ?_
      refine W.widen (k := 600000) (n := 7302250) (by omega) (by omega) ?_
      exact lw_ret C.1 hb hr hlocks dL_law_1084
    · rw [li_sub hL (by omega)] at q
      have hlt : 6 * k + 6 ≤ L := by omega
      have hv : ∀ j, j < 6 → vp_in (nI (6 * k) + nI j) L := fun j hj => li_in hL hlt hj
      refine law_switch C K hX hbl hbA (vp_in_nI (by omega) (by omega)) (hv 1 (by omega)) (hv 2 (by omega)) (hv 3 (by omega)) (hv 4 (by omega)) (hv 5 (by omega)) (by omega) (by omega) H hRel (fun T2 M2 hR2 => ?_)
      have e6 : nI (6 * k) + Int32.ofInt 6 = nI (6 * (k + 1)) := by unfold nI; exact (Int32.ofNat_add (6 * k) 6).symm
      refine aw_iinc (v := nI (6 * (k + 1))) (lv' := [(3, .int (nI (6 * (k + 1)))), (0, .ref b), (1, .ref o), (2, .ref o6)]) C dL_law_1077 3 rfl e6 (by decide) rfl ?_
      refine aw_goto (tgt := 18) C dL_law_1080 (by decide) ?_
      refine aw_lv [1, 2, 3, 0] rfl ?_
      rw [show 100 + 10 * k + 10 = 100 + 10 * (k + 1) by omega, show 3000 + 700 * k + 700 = 3000 + 700 * (k + 1) by omega]
      exact ih (k + 1) T2 M2 hR2 (by omega) (by omega)
end LOOP
