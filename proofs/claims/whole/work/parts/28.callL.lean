section FRL
variable {p : Program} {l : Launch} {e : Env} {R : Room} {s0 : State} {m : MethodId} {args : Array Value} {below : List Frame} {meth : Method} {c : Code} {cells slots : Nat} {Z : State → Prop} {nL : Nat} {I : Heap → List Loc → Prop} {lv : List (Nat × Value)} {st : List Value} {pc : Nat}
variable {cc : ByteArray} {own : String} {ws : List Cond} {D : va_G} {A : Nat → Prop} {H0 : Heap} {cy : Nat → ClassId}
variable {y : MethodName} {bytes : ByteArray} {maxL n ix : Nat} {ret : Option FieldType} {wsy : List Cond} {rm : Room} {As rest : List Value}
theorem aw_callFL (C : ctB p s0 m args c cc nL own ws) (K : ctK s0 D A H0 cy) {cells2 slots2 : Nat} {σ : Type} {Wd : σ → va_W} {Wx : σ → va_W} {w0 wc wr : va_W} {Qc : Int64 → σ → Prop} {Cn : String} {b : Nat} (hM : mL l y wsy rm D cy (.ref b :: As) wc Wd Qc) (hp : w0.Perm (wc ++ wr)) (hp1 : ∀ u, (Wx u).Perm (Wd u ++ wr)) (cw : CallW R s0 args own Cn ix y bytes maxL ret wsy rm rm.cells rm.slots n) (q0 ci : Nat) {rc : vw_C} {fs : List Value} (he : wc[q0]? = some (b, .inr (ci, fs))) (hc : vwCl[ci]? = some rc) (hrc : rc.1 = Cn) (hst : st = As.reverse ++ .ref b :: rest) (hn : As.length = n) (hcat : (rest.map fun v => v.category).sum ≤ 8) (hc2 : cells + rm.cells = cells2) (hs2 : slots + rm.slots = slots2) (hR : cells2 ≤ R.cells ∧ slots2 ≤ R.slots) (hdg : decode cc pc = .ok (.invokevirtual ix, 3)) (kk : ∀ (r : Int64) (u : σ), Qc r u → atG p l e R s0 m args below meth c cells2 slots2 Z nL (iW D A H0 (Wx u)) lv (.long r :: rest) (pc + 3)) : atG p l e R s0 m args below meth c cells slots Z nL (iW D A H0 w0) lv st pc := by
  intro H locs ls hI hl
  obtain ⟨hP, hD, hS⟩ := hI
  subst hst
  subst hrc
  subst hc2
  subst hs2
  have hPc := vP_left (vP_perm hp hP)
  have hDc := vD_left (vD_perm hp hD)
  have hF : ∀ q, va_A wc H.size q → A q := fun q hq => hq.elim (fun ⟨k, e, hk⟩ => hDc.2 k _ hk) (fun h => K.2 q (Nat.le_trans hS.1 h))
  refine va_calll (va_runV (As := As) (rest := rest) C.fix (hM H.size) cw ⟨pW.blind, va_recv K.1 hPc hc he, fun U hU hW => ⟨rfl, by rw [hU], by rw [hU]; exact hPc, va_K.moved hW.alike K.1, C.2.2.2.2.2.warm hW, hDc.weaken (fun _ _ _ _ => trivial)⟩⟩ rfl hn hl.1 rfl (lv_room hcat) hdg hR) hS (fun q _ h => hF q h) hF (fun r u t H1 locs1 ht hvm hw hB hz1 hk1 hS1 => ?_)
  obtain ⟨h1, h2⟩ := hB
  rw [ht] at h1
  obtain ⟨h3, h4⟩ := fr_W hP hD hp hk1 hF h1 h2 (hp1 u)
  exact kk r u hw H1 locs1 ls ⟨h3, h4, hS1⟩ hl
theorem lg_cmp_self (x : Int64) : lg_cmp x x = 0 := (lg_cmp_eq x x).mpr rfl
end FRL
