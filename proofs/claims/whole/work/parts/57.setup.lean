/-! the class sets up a call -/
theorem BRep_same {N N2 : NSt} {ln : Nat → Nat} {t : St} (hM : nM N2 = nM N) (hL : nL N2 = nL N) (hR : nR N2 = nR N) (hD : nD N2 = nD N) (hC : ∀ a, (nC N2 a).map Prod.fst = (nC N a).map Prod.fst) (h : BRep N ln t) : BRep N2 ln t := by
  obtain ⟨⟨f0, f1, f2, f3, f13, f14⟩, hg, h4, h5, h7⟩ := h
  have hs : ∀ a, (nC N2 a).isSome = (nC N a).isSome := by
    intro a
    have := hC a
    revert this
    cases nC N2 a <;> cases nC N a <;> intro q
    · rfl
    · cases q
    · cases q
    · rfl
  have ho : ∀ b, (∃ a x, nC N2 a = some (b, x)) ↔ ∃ a x, nC N a = some (b, x) := by
    intro b
    constructor
    · rintro ⟨a, x, q⟩
      have := hC a
      rw [q] at this
      cases e : nC N a with
      | none => rw [e] at this; cases this
      | some z =>
        rw [e] at this
        obtain ⟨z1, z2⟩ := z
        cases this
        exact ⟨a, z2, e⟩
    · rintro ⟨a, x, q⟩
      have := hC a
      rw [q] at this
      cases e : nC N2 a with
      | none => rw [e] at this; cases this
      | some z =>
        rw [e] at this
        obtain ⟨z1, z2⟩ := z
        cases this
        exact ⟨a, z2, e⟩
  unfold BRep
  rw [hM, hL, hR, hD]
  refine ⟨⟨f0, f1, f2, f3, f13, ?_⟩, hg, h4, fun a ha => ?_, fun b hb => ?_⟩
  · rw [f14]
    congr 1
    exact cnt_same _ (fun j _ => (hs j).symm)
  · rw [h5 a ha]
    have := hC a
    revert this
    cases nC N2 a <;> cases nC N a <;> intro q
    · rfl
    · cases q
    · cases q
    · exact congrArg nI (Option.some.inj q).symm
  · rcases h7 b hb with ⟨q1, q2⟩ | ⟨q1, q2⟩
    · exact Or.inl ⟨q1, (ho b).mpr q2⟩
    · refine Or.inr ⟨q1, fun a x q => ?_⟩
      obtain ⟨a2, x2, q3⟩ := (ho b).mp ⟨a, x, q⟩
      exact q2 a2 x2 q3
def LSt (N : NSt) (ln : Nat → Nat) (t : St) (f : Nat → Int32) (C : CMap) (t2 : St) : Prop := BRep N ln t2 ∧ LRep (nL N) (nR N) (nM N) C (sA t2 6) (sA t2 8) (sA t2 9) ∧ sA t2 10 = f ∧ sA t2 11 = sA t 11 ∧ sA t2 12 = sA t 12 ∧ sF t2 15 = sF t 15
section SC
variable {N : NSt} {ln : Nat → Nat} {t : St}
theorem c_swap (hw : NWf N) (hc : CRep N ln t) {x y b : Nat} (hx : x < nM N) (hy : y < nM N) (hb : b < nR N * nL N) (hxy : x ≠ y) (hg : ct N (b / nL N) y = none) {Q : St → Prop} (h : ∀ t2, CRep (swp N x y (b / nL N)) ln t2 → sA t2 11 = sA t 11 → sA t2 12 = sA t 12 → sF t2 15 = sF t 15 → Q t2) : pX1_swapChain ln t (nI x) (nI y) (nI b) Q := by
  have k2 := rn_le hw
  obtain ⟨n1, n2, n3⟩ := chN_spec hw hxy hg
  unfold pX1_swapChain
  refine c_walk hw hc hx hy hb n1 n2 n3 (fun f hf => ?_)
  obtain ⟨hbr, hl⟩ := CRep_iff.mp hc
  have g10 : ln 10 = nR N * nL N := hbr.2.1.2.2.2.2.2.2.1
  have S0 : LSt N ln t f (lvC N x y (b / nL N) 0) (uA t 10 f) := ⟨hbr, hl, rfl, rfl, rfl, rfl⟩
  unfold lX1_swapChain_12
  refine lp_of (I := fun q => ∃ k t2, k ≤ chN N x y (b / nL N) ∧ q = (t2, nI k) ∧ LSt N ln t f (lvC N x y (b / nL N) k) t2) (μ := fun q => chN N x y (b / nL N) - q.2.toNatClampNeg) ?_ _ ⟨0, uA t 10 f, by omega, rfl, S0⟩
  rintro q ⟨k, t2, hk, rfl, hS⟩ K hK
  show bX1_swapChain_12 ln (nI x) (nI y) (nI (chN N x y (b / nL N))) _ _ t2 (nI k)
  unfold bX1_swapChain_12
  by_cases e : k = chN N x y (b / nL N)
  · subst e
    refine ⟨fun _ => ?_, fun q => absurd (nI_le (Nat.le_refl _) (by omega)) q⟩
    unfold lX1_swapChain_39
    refine lp_of (I := fun q => ∃ k t2, k ≤ chN N x y (b / nL N) ∧ q = (t2, nI k) ∧ LSt N ln t f (tkC N x y (b / nL N) k) t2) (μ := fun q => chN N x y (b / nL N) - q.2.toNatClampNeg) ?_ _ ⟨0, t2, by omega, rfl, hS⟩
    rintro q ⟨k, t3, hk3, rfl, hS3⟩ K2 hK2
    show bX1_swapChain_39 ln (nI x) (nI y) (nI (chN N x y (b / nL N))) _ _ t3 (nI k)
    unfold bX1_swapChain_39
    obtain ⟨b3, l3, s10, s11, s12, s15⟩ := hS3
    by_cases e : k = chN N x y (b / nL N)
    · subst e
      refine ⟨fun _ => h t3 (CRep_iff.mpr ⟨BRep_same (N := N) rfl rfl rfl rfl (fun a => swp_fst a) b3, l3⟩) s11 s12 s15, fun q => absurd (nI_le (Nat.le_refl _) (by omega)) q⟩
    · have hkn : k < chN N x y (b / nL N) := by omega
      obtain ⟨c, hck⟩ := n3 k hkn
      obtain ⟨bc, hm⟩ := ch_mid hck
      have kc := (NWf_L hw).1 c bc _ hm
      have e10 : sA t3 10 (nI k).toNatClampNeg = nI c := by
        rw [nI_clamp (by omega), s10]
        exact hf k c hkn hck
      have e5 : sA t3 5 c = nI bc := by
        have := b3.2.2.2.1 c kc.1
        rw [hm] at this
        exact this
      have stp := tkC_s hck
      rw [hm] at stp
      have stp2 : tkC N x y (b / nL N) (k + 1) = va_up (tkC N x y (b / nL N) k) c (some (bc, sw2 x y (if k % 2 = 0 then x else y))) := stp
      have next : ∀ t4, LSt N ln t f (tkC N x y (b / nL N) (k + 1)) t4 → K2 (t4, nI (k + 1)) := by
        intro t4 h4
        refine hK2 _ ⟨k + 1, t4, by omega, rfl, h4⟩ ?_
        show chN N x y (b / nL N) - (nI (k + 1)).toNatClampNeg < chN N x y (b / nL N) - (nI k).toNatClampNeg
        rw [nI_clamp (by omega), nI_clamp (by omega)]
        omega
      have er : nI k - nI k / 2 * 2 = nI (k % 2) := nI_rem (a := k) (b := 2) (by omega) (by omega)
      rw [er, e10, g10, nI_s1]
      refine ⟨fun q => absurd q (nI_ge hkn (by omega)), fun _ => ⟨vp_in_nI (by omega) (by omega), fun q => ?_, fun q => ?_⟩⟩
      · have q0 : k % 2 = 0 := (nI_eq (by omega) (by omega)).mp q
        rw [if_pos q0, show sw2 x y x = y from if_pos rfl] at stp2
        refine c_take hw b3 l3 (tkC_at hw hxy hg hck) e5 kc.1 kc.2.1 hy (fun t8 t9 t6 hl4 => ?_)
        rintro _ rfl
        refine next _ ⟨b3, ?_, s10, s11, s12, s15⟩
        rw [stp2]
        exact hl4
      · have q0 : ¬ k % 2 = 0 := fun q2 => q (by rw [q2]; rfl)
        rw [if_neg q0, show sw2 x y y = x from if_neg (fun q2 => hxy q2.symm)] at stp2
        refine c_take hw b3 l3 (tkC_at hw hxy hg hck) e5 kc.1 kc.2.1 hx (fun t8 t9 t6 hl4 => ?_)
        rintro _ rfl
        refine next _ ⟨b3, ?_, s10, s11, s12, s15⟩
        rw [stp2]
        exact hl4
  · obtain ⟨b2, l2, s10, s11, s12, s15⟩ := hS
    have hkn : k < chN N x y (b / nL N) := by omega
    obtain ⟨c, hck⟩ := n3 k hkn
    obtain ⟨bc, hm⟩ := ch_mid hck
    have kc := (NWf_L hw).1 c bc _ hm
    have e10 : sA t2 10 (nI k).toNatClampNeg = nI c := by
      rw [nI_clamp (by omega), s10]
      exact hf k c hkn hck
    have e5 : sA t2 5 c = nI bc := by
      have := b2.2.2.2.1 c kc.1
      rw [hm] at this
      exact this
    rw [e10, g10, nI_s1]
    refine ⟨fun q => absurd q (nI_ge hkn (by omega)), fun _ => ⟨vp_in_nI (by omega) (by omega), ?_⟩⟩
    refine c_leave hw b2 (lvC_wf hw k) l2 (by rw [lvC_at hw hxy hg hck]; exact hm) e5 (fun t8 t9 t6 hl4 => ?_)
    rintro _ rfl
    refine hK _ ⟨k + 1, _, by omega, rfl, b2, ?_, s10, s11, s12, s15⟩ ?_
    · rw [lvC_s hck]
      exact hl4
    · show chN N x y (b / nL N) - (nI (k + 1)).toNatClampNeg < chN N x y (b / nL N) - (nI k).toNatClampNeg
      rw [nI_clamp (by omega), nI_clamp (by omega)]
      omega
theorem c_tail (hw : NWf N) (hc : CRep N ln t) {a b x : Nat} (ha : a < nR N * nL N) (hb : b < nR N * nL N) (hx : x < nM N) (hC : nC N a = none) (hw2 : NWf (Nc N a (some (b, x)))) (h15 : sF t 15 = nI x) {Q : St → Prop} (h : ∀ t2, CRep (Nc N a (some (b, x))) ln t2 → sA t2 11 = sA t 11 → sA t2 12 = sA t 12 → Q t2) : (vp_in (nI a) (ln 5)) ∧ ∀ s43 : St, s43 = (uA t 5 (upd (sA t 5) (nI a).toNatClampNeg (nI b))) → (vp_in (nI b) (ln 7)) ∧ ∀ s50 : St, s50 = (uA s43 7 (upd (sA s43 7) (nI b).toNatClampNeg (vp_nar .boolean 1))) → ∀ s58 : St, s58 = (uF s50 14 ((sF s50 14) + 1)) → pX1_takeLinks ln s58 (nI a) (sF s58 15) (fun s67 => Q s67) := by
  have k2 := rn_le hw
  obtain ⟨hbr, hl⟩ := CRep_iff.mp hc
  obtain ⟨⟨f0, f1, f2, f3, f13, f14⟩, ⟨g4, g5, g6, g7, gr⟩, h4, h5, h7⟩ := hbr
  rw [g5, g7, nI_clamp (by omega), nI_clamp (by omega), nar_b1]
  refine ⟨vp_in_nI ha (by omega), ?_⟩
  rintro _ rfl
  refine ⟨vp_in_nI hb (by omega), ?_⟩
  rintro _ rfl _ rfl
  have hb2 : BRep (Nc N a (some (b, x))) ln (uF (uA (uA t 5 (upd (sA t 5) a (nI b))) 7 (upd (sA t 7) b 1)) 14 (sF t 14 + 1)) := by
    refine ⟨⟨f0, f1, f2, f3, f13, ?_⟩, ⟨g4, g5, g6, g7, gr⟩, h4, fun a2 k => ?_, fun b2 k => ?_⟩
    · show sF t 14 + 1 = nI (cnt (fun j => (va_up (nC N) a (some (b, x)) j).isSome) (nR N * nL N))
      rw [f14, cnt_up (f := fun j => (nC N j).isSome) (g := fun j => (va_up (nC N) a (some (b, x)) j).isSome) (x := a) (by rw [hC]; rfl) (by rw [show va_up (nC N) a (some (b, x)) a = some (b, x) from if_pos rfl]; rfl) (fun j hj => by rw [va_up_ne _ _ hj]) (nR N * nL N) ha]
      exact nI_s1 _
    · show upd (sA t 5) a (nI b) a2 = match va_up (nC N) a (some (b, x)) a2 with | none => -1000000 | some q => nI q.1
      unfold upd
      by_cases e : a2 = a
      · rw [if_pos e, e, show va_up (nC N) a (some (b, x)) a = some (b, x) from if_pos rfl]
      · rw [if_neg e, va_up_ne _ _ e]
        exact h5 a2 k
    · show (upd (sA t 7) b 1 b2 = 1 ∧ ∃ a2 x2, va_up (nC N) a (some (b, x)) a2 = some (b2, x2)) ∨ (upd (sA t 7) b 1 b2 = 0 ∧ ∀ a2 x2, va_up (nC N) a (some (b, x)) a2 ≠ some (b2, x2))
      by_cases e : b2 = b
      · subst e
        exact Or.inl ⟨upd_same _ _ _, a, x, if_pos rfl⟩
      · rw [upd_other _ _ e]
        rcases h7 b2 k with ⟨q1, a2, x2, q2⟩ | ⟨q1, q2⟩
        · refine Or.inl ⟨q1, a2, x2, ?_⟩
          rw [va_up_ne _ _ (fun q => ?_)]
          · exact q2
          · rw [q, hC] at q2
            cases q2
        · refine Or.inr ⟨q1, fun a2 x2 q => ?_⟩
          rcases up_some q with ⟨_, q3⟩ | ⟨_, q3⟩
          · cases q3
            exact e rfl
          · exact q2 a2 x2 q3
  show pX1_takeLinks ln (uF (uA (uA t 5 (upd (sA t 5) a (nI b))) 7 (upd (sA t 7) b 1)) 14 (sF t 14 + 1)) (nI a) (sF t 15) (fun s67 => Q s67)
  rw [h15]
  refine c_take hw2 hb2 (C := nC N) hl hC (b := b) (upd_same _ _ _) ha hb hx (fun t8 t9 t6 hl2 => ?_)
  refine h _ (CRep_iff.mpr ⟨?_, hl2⟩) rfl rfl
  exact hb2
end SC
def plN (N : NSt) (f g : Nat) : Option (Nat × NSt × Nat) := match frs (fB N f g) (nM N) with | some x => some (0, N, x) | none => match bsN N f g with | none => none | some q => some (q.1, swp N q.2.1 q.2.2 g, q.2.1)
def suN (N : NSt) (a b : Nat) : NSt := match plN N (a / nL N) (b / nL N) with | none => N | some q => Nc q.2.1 a (some (b, q.2.2))
def suR (N : NSt) (a b : Nat) : Option Nat := match plN N (a / nL N) (b / nL N) with | none => none | some q => some q.1
section SU
variable {N : NSt} {f g : Nat}
theorem plN_a {x : Nat} (h : frs (fB N f g) (nM N) = some x) : plN N f g = some (0, N, x) := by
  unfold plN
  rw [h]
theorem plN_b (h : frs (fB N f g) (nM N) = none) (h2 : bsN N f g = none) : plN N f g = none := by
  unfold plN
  rw [h, h2]
theorem plN_c (h : frs (fB N f g) (nM N) = none) {q : Nat × Nat × Nat} (h2 : bsN N f g = some q) : plN N f g = some (q.1, swp N q.2.1 q.2.2 g, q.2.1) := by
  unfold plN
  rw [h, h2]
theorem bs_spec (hw : NWf N) (h : frs (fB N f g) (nM N) = none) {n x y : Nat} (h2 : bsN N f g = some (n, x, y)) : n = chN N x y g ∧ 0 < n ∧ n ≤ nR N * nL N ∧ x < nM N ∧ y < nM N ∧ x ≠ y ∧ nD N x = false ∧ nD N y = false ∧ cf N f x = none ∧ ct N g y = none := by
  have ok := alB_ok (f := f) (g := g) (nM N) (Nat.le_refl _) (n, x, y) h2
  obtain ⟨o1, ox, oy, oF, oT⟩ := ok
  have o1' : n = chN N x y g := o1
  have hx : x < nM N := ox
  have hy : y < nM N := oy
  have hF : fF N f x = true := oF
  have hT : fT N g y = true := oT
  have hne := fB_ne hx h hF hT
  obtain ⟨n1, n2, n3⟩ := chN_spec hw hne (fT_iff.mp hT).2
  refine ⟨o1', ?_, by omega, hx, hy, hne, (fF_iff.mp hF).1, (fT_iff.mp hT).1, (fF_iff.mp hF).2, (fT_iff.mp hT).2⟩
  rw [o1']
  refine Nat.pos_of_ne_zero (fun q => ?_)
  rw [q] at n2
  have n2' : ct N g x = none := n2
  have := frs_none h x hx
  unfold fB at this
  rw [hF, fT_iff.mpr ⟨(fF_iff.mp hF).1, n2'⟩] at this
  cases this
theorem fB_free (hw : NWf N) {x : Nat} (h : frs (fB N f g) (nM N) = some x) : x < nM N ∧ nD N x = false ∧ cf N f x = none ∧ ct N g x = none := by
  obtain ⟨h1, h2⟩ := frs_some h
  unfold fB at h2
  rw [Bool.and_eq_true] at h2
  exact ⟨h1, (fF_iff.mp h2.1).1, (fF_iff.mp h2.1).2, (fT_iff.mp h2.2).2⟩
theorem pl_wf (hw : NWf N) {a b : Nat} (ha : a < nR N * nL N) (hb : b < nR N * nL N) (hC : nC N a = none) (hO : ∀ a2 x2, nC N a2 ≠ some (b, x2)) {n x : Nat} {N2 : NSt} (h : plN N (a / nL N) (b / nL N) = some (n, N2, x)) : NWf N2 ∧ NWf (Nc N2 a (some (b, x))) := by
  cases e : frs (fB N (a / nL N) (b / nL N)) (nM N) with
  | some z =>
    rw [plN_a e] at h
    cases h
    obtain ⟨h1, h2, h3, h4⟩ := fB_free hw e
    exact ⟨hw, Nc_wf hw ha hb h1 h2 hC hO (fun a2 b2 q => cf_none hw h3 a2 b2 q) (fun a2 b2 q => ct_none hw h4 a2 b2 q)⟩
  | none =>
    cases e2 : bsN N (a / nL N) (b / nL N) with
    | none =>
      rw [plN_b e e2] at h
      cases h
    | some q =>
      obtain ⟨q1, q2, q3⟩ := q
      rw [plN_c e e2] at h
      cases h
      obtain ⟨o1, o2, o3, ox, oy, oxy, dx, dy, hf, hg⟩ := bs_spec hw e e2
      have w := swp_wf hw oxy hg ox oy dx dy
      refine ⟨w, Nc_wf w ha hb ox dx (swp_none hC) (fun a2 x2 q => ?_) (fun a2 b2 q => swp_f hw oxy hg hf q) (fun a2 b2 q => swp_g hw oxy hg q)⟩
      obtain ⟨z, hz⟩ := swp_out q
      exact hO a2 z hz
theorem su_wf (hw : NWf N) {a b : Nat} (ha : a < nR N * nL N) (hb : b < nR N * nL N) (hC : nC N a = none) (hO : ∀ a2 x2, nC N a2 ≠ some (b, x2)) : NWf (suN N a b) := by
  unfold suN
  cases e : plN N (a / nL N) (b / nL N) with
  | none => exact hw
  | some q =>
    obtain ⟨n, N2, x⟩ := q
    exact (pl_wf hw ha hb hC hO e).2
end SU
section CS
variable {N : NSt} {ln : Nat → Nat} {t : St}
theorem c_setUp (hw : NWf N) (hc : CRep N ln t) {a b : Nat} (ha : a < nR N * nL N) (hb : b < nR N * nL N) (hC : nC N a = none) (hO : ∀ a2 x2, nC N a2 ≠ some (b, x2)) {how : Int32} {Q : Int32 → St → Prop} (h0 : how = 0 → frs (fB N (a / nL N) (b / nL N)) (nM N) = none → Q (-1000000) t) (h : (how = 0 → ∃ x, frs (fB N (a / nL N) (b / nL N)) (nM N) = some x) → ∀ t2, CRep (suN N a b) ln t2 → sA t2 11 = sA t 11 → sA t2 12 = sA t 12 → Q (enM (suR N a b)) t2) : pX1_setUp ln t (nI a) (nI b) how Q := by
  have k2 := rn_le hw
  unfold pX1_setUp
  refine c_plan hw hc ha hb (fun x hx => ?_) (fun hno h1 => ?_) (fun hno h1 => ?_)
  · refine ⟨fun q => absurd q (by decide), fun _ => ⟨fun _ => ?_, fun q => absurd (by decide) q⟩⟩
    have hp := plN_a hx
    obtain ⟨_, w2⟩ := pl_wf hw ha hb hC hO hp
    obtain ⟨x1, _⟩ := fB_free hw hx
    have hN : suN N a b = Nc N a (some (b, x)) := by unfold suN; rw [hp]
    have hR : suR N a b = some 0 := by unfold suR; rw [hp]
    have hc2 : CRep N ln (uF t 15 (nI x)) := hc
    refine c_tail hw hc2 ha hb x1 hC w2 rfl (fun t2 h2 h11 h12 => ?_)
    have := h (fun _ => ⟨x, hx⟩) t2 (by rw [hN]; exact h2) h11 h12
    rw [hR] at this
    exact this
  · exact ⟨fun _ => h0 h1 hno, fun q => absurd rfl q⟩
  · refine c_moves hw hc ha hb hno (fun t2 hP => ?_)
    obtain ⟨hc2, h15, h11, h12⟩ := hP
    cases e2 : bsN N (a / nL N) (b / nL N) with
    | none =>
      have hp := plN_b hno e2
      have hN : suN N a b = N := by unfold suN; rw [hp]
      have hR : suR N a b = none := by unfold suR; rw [hp]
      refine ⟨fun _ => ?_, fun q => absurd rfl q⟩
      have := h (fun q => absurd q h1) t2 (by rw [hN]; exact hc2) h11 h12
      rw [hR] at this
      exact this
    | some q =>
      obtain ⟨n, x, y⟩ := q
      have hp := plN_c hno e2
      obtain ⟨o1, o2, o3, ox, oy, oxy, dx, dy, hf, hg⟩ := bs_spec hw hno e2
      obtain ⟨w1, w2⟩ := pl_wf hw ha hb hC hO hp
      have hN : suN N a b = Nc (swp N x y (b / nL N)) a (some (b, x)) := by unfold suN; rw [hp]
      have hR : suR N a b = some n := by unfold suR; rw [hp]
      obtain ⟨e15, e16⟩ := h15 _ e2
      have e15' : sF t2 15 = nI x := e15
      have e16' : sF t2 16 = nI y := e16
      refine ⟨fun q => absurd q (nI_none (by omega)), fun _ => ⟨fun q => absurd q (nI_nle o2 (by omega)), fun _ => ?_⟩⟩
      rw [e15', e16']
      refine c_swap hw hc2 ox oy hb oxy hg (fun t3 hc3 s11 s12 s15 => ?_)
      refine c_tail w1 hc3 ha hb ox (swp_none hC) w2 (s15.trans e15') (fun t4 h4 r11 r12 => ?_)
      have := h (fun q => absurd q h1) t4 (by rw [hN]; exact h4) (r11.trans (s11.trans h11)) (r12.trans (s12.trans h12))
      rw [hR] at this
      exact this
end CS
