def enC (o : Option Nat) : Int32 := match o with | none => -1 | some a => nI a
def enM (o : Option Nat) : Int32 := match o with | none => -1000000 | some a => nI a
theorem enC_ne {a : Nat} (h : a < 2 ^ 31) : ¬ nI a = -1 := by
  intro q
  have := congrArg Int32.toInt q
  rw [nI_toInt h, show (-1 : Int32).toInt = -1 by decide] at this
  omega
section WK
variable {N : NSt} {ln : Nat → Nat} {t : St}
theorem row8 (hw : NWf N) (hl : LRep (nL N) (nR N) (nM N) (nC N) (sA t 6) (sA t 8) (sA t 9)) {x f : Nat} (hx : x < nM N) (hf : f < nR N) : sA t 8 (x * nR N + f) = enC (cf N f x) := by
  rcases hl.2.1 x f hx hf with ⟨h1, h2⟩ | ⟨a, b, h1, h2, h3⟩
  · rw [h1]
    cases e : cf N f x with
    | none => rfl
    | some a =>
      obtain ⟨b, k1, k2⟩ := cf_some e
      exact absurd k2 (h2 a b k1)
  · rw [h1, ← h3, cf_eq hw h2]
    rfl
theorem row9 (hw : NWf N) (hl : LRep (nL N) (nR N) (nM N) (nC N) (sA t 6) (sA t 8) (sA t 9)) {x f : Nat} (hx : x < nM N) (hf : f < nR N) : sA t 9 (x * nR N + f) = enC (ct N f x) := by
  rcases hl.2.2 x f hx hf with ⟨h1, h2⟩ | ⟨a, b, h1, h2, h3⟩
  · rw [h1]
    cases e : ct N f x with
    | none => rfl
    | some a =>
      obtain ⟨b, k1, k2⟩ := ct_some e
      exact absurd k2 (h2 a b k1)
  · rw [h1, ← h3, ct_eq hw h2]
    rfl
theorem c_walk (hw : NWf N) (hc : CRep N ln t) {x y b n : Nat} (hx : x < nM N) (hy : y < nM N) (hb : b < nR N * nL N) (hn : n ≤ nR N * nL N) (hn1 : ch N x y (b / nL N) n = none) (hn2 : ∀ k, k < n → ∃ a, ch N x y (b / nL N) k = some a) {Q : Int32 → St → Prop} (h : ∀ f, (∀ k a, k < n → ch N x y (b / nL N) k = some a → f k = nI a) → Q (nI n) (uA t 10 f)) : pX1_walkChain ln t (nI x) (nI y) (nI b) Q := by
  obtain ⟨hbr, hl⟩ := CRep_iff.mp hc
  obtain ⟨⟨f0, f1, f2, f3, f13, f14⟩, ⟨g4, g5, g6, g7, g8, g9, g10, _⟩, h4, h5, h7⟩ := hbr
  have k2 := rn_le hw
  have k3 := hw.1
  have k4 := hw.2.2.1
  have k5 : nM N * nR N ≤ 72 := Nat.mul_le_mul k3.2 k4.2
  unfold pX1_walkChain
  refine c_link hw f1 f2 hb ?_
  have i1 := idx_lt hx (div_sw hb)
  rw [g9, nI_clamp (by omega), row9 hw hl hx (div_sw hb)]
  refine ⟨vp_in_nI i1 (by omega), ?_⟩
  rintro _ rfl
  unfold lX1_walkChain_16
  refine lp_of (I := fun q => ∃ k f, k ≤ n ∧ q = (uA t 10 f, nI k, enC (ch N x y (b / nL N) k)) ∧ ∀ j a, j < k → ch N x y (b / nL N) j = some a → f j = nI a) (μ := fun q => n - q.2.1.toNatClampNeg) ?_ _ ⟨0, sA t 10, by omega, by rw [uA_self]; rfl, fun j a hj => absurd hj (Nat.not_lt_zero j)⟩
  rintro q ⟨k, f, hk, rfl, hf⟩ K hK
  show bX1_walkChain_16 ln (nI x) (nI y) _ _ (uA t 10 f) (nI k) (enC (ch N x y (b / nL N) k))
  unfold bX1_walkChain_16
  cases e : ch N x y (b / nL N) k with
  | none =>
    have : k = n := by
      rcases Nat.lt_or_ge k n with q | q
      · obtain ⟨a, ha⟩ := hn2 k q
        rw [e] at ha
        cases ha
      · omega
    subst this
    exact ⟨fun _ => h f (fun j a hj => hf j a hj), fun q => absurd rfl q⟩
  | some a =>
    have hkn : k < n := by
      rcases Nat.lt_or_ge k n with q | q
      · exact q
      · have : k = n := by omega
        rw [this, hn1] at e
        cases e
    have ha := ch_lt hw e
    refine ⟨fun q => absurd q (enC_ne (by omega)), fun _ => ⟨fun q => ?_, fun _ => ⟨?_, ?_⟩⟩⟩
    · have q' : sF t 3 ≤ nI k := q
      rw [f3] at q'
      exact absurd q' (nI_ge (by omega) (by omega))
    · rw [g10]
      exact vp_in_nI (by omega) (by omega)
    · rintro _ rfl _ rfl
      have next : ∀ v, v = enC (ch N x y (b / nL N) (k + 1)) → K (uA t 10 (upd f k (nI a)), nI (k + 1), v) := by
        rintro _ rfl
        refine hK _ ⟨k + 1, upd f k (nI a), by omega, rfl, fun j a2 hj e2 => ?_⟩ ?_
        · by_cases q : j = k
          · rw [q] at e2 ⊢
            rw [e] at e2
            cases e2
            exact upd_same _ _ _
          · rw [upd_other _ _ q]
            exact hf j a2 (by omega) e2
        · show n - (nI (k + 1)).toNatClampNeg < n - (nI k).toNatClampNeg
          rw [nI_clamp (by omega), nI_clamp (by omega)]
          omega
      have er : nI (k + 1) - nI (k + 1) / 2 * 2 = nI ((k + 1) % 2) := nI_rem (a := k + 1) (b := 2) (by omega) (by omega)
      have es : ch N x y (b / nL N) (k + 1) = if k % 2 = 0 then cf N (a / nL N) y else ct N (bx N a / nL N) x := by
        show (match ch N x y (b / nL N) k with | none => none | some a => if k % 2 = 0 then cf N (a / nL N) y else ct N (bx N a / nL N) x) = _
        rw [e]
      have eu : uA (uA t 10 f) 10 (upd (sA (uA t 10 f) 10) (nI k).toNatClampNeg (enC (some a))) = uA t 10 (upd f k (nI a)) := by
        rw [uA_uA, nI_clamp (by omega)]
        rfl
      rw [nI_s1, er, eu]
      by_cases q : k % 2 = 0
      · rw [show (k + 1) % 2 = 1 by omega]
        refine ⟨fun _ => ?_, fun q2 => absurd rfl q2⟩
        refine c_link hw (by exact f1) (by exact f2) ha ?_
        have i2 := idx_lt hy (div_sw ha)
        rw [g8, nI_clamp (by omega)]
        refine ⟨vp_in_nI i2 (by omega), ?_⟩
        rintro _ rfl
        refine next _ ?_
        rw [es, if_pos q]
        exact row8 hw hl hy (div_sw ha)
      · rw [show (k + 1) % 2 = 0 by omega]
        refine ⟨fun q2 => absurd q2 (by decide), fun _ => ?_⟩
        obtain ⟨ba, hm⟩ := ch_mid e
        have hba := ((NWf_L hw).1 a ba _ hm).2.1
        have e5 : sA t 5 a = nI ba := by
          have := h5 a ha
          rw [hm] at this
          exact this
        rw [g5]
        refine ⟨vp_in_nI ha (by omega), ?_⟩
        show pX1_link ln _ (nI x) (sA t 5 (nI a).toNatClampNeg) _
        rw [nI_clamp (by omega), e5]
        refine c_link hw (by exact f1) (by exact f2) hba ?_
        have i2 := idx_lt hx (div_sw hba)
        rw [g9, nI_clamp (by omega)]
        refine ⟨vp_in_nI i2 (by omega), ?_⟩
        rintro _ rfl
        refine next _ ?_
        rw [es, if_neg q, bx_eq hm]
        exact row9 hw hl hx (div_sw hba)
end WK
