/-! the calls of a net read; a middle one mended -/
section LN
variable {N : NSt} {l : Nat → Nat} {t : St}
theorem c_hasLine (hw : NWf N) (hc : CRep N l t) {x : Int32} {Q : Int32 → Prop} : pX1_hasLine l t x Q ↔ Q (if 0 ≤ x.toInt ∧ x.toInt ≤ ((nR N * nL N : Nat) : Int) - 1 then 1 else 0) := by
  have := rn_le hw
  unfold pX1_hasLine
  rw [within_iff, hc.1.2.2.2.1, tI_pred (by omega), l32_0]
  exact ⟨fun h => h.2, fun h => ⟨nar_bit _, h⟩⟩
theorem c_hasMiddle (hw : NWf N) (hc : CRep N l t) {x : Int32} {Q : Int32 → Prop} : pX1_hasMiddle l t x Q ↔ Q (if 0 ≤ x.toInt ∧ x.toInt ≤ ((nM N : Nat) : Int) - 1 then 1 else 0) := by
  have := hw.1
  unfold pX1_hasMiddle
  rw [within_iff, hc.1.1, tI_pred (by omega), l32_0]
  exact ⟨fun h => h.2, fun h => ⟨nar_bit _, h⟩⟩
theorem m_isLine {p : Nat} (hp : p < 6) (hw : NWf N) {M : St} (hm : MRep N p (sA M 5) (sA M 6) (sA M 7) (sA M 8) (sA M 9) (sA M 10)) {x : Int32} {Q : Int32 → Prop} : pX6_isLine M (nI p) x Q ↔ Q (if 0 ≤ x.toInt ∧ x.toInt ≤ ((nR N * nL N : Nat) : Int) - 1 then 1 else 0) := by
  have := rn_le hw
  unfold pX6_isLine
  rw [in_iff, cl6 hp, hm.1.2.2, hm.1.2.1, nI_mul, Int32.toInt_toInt64, Int32.toInt_toInt64, tI_pred (by omega), l64_0]
  exact ⟨fun h => h.2.2.2, fun h => ⟨in6 hp, in6 hp, nar_bit _, h⟩⟩
end LN
theorem st_13 : stepOK_13 Rel := by
  intro T M a1 a2 a3 h
  obtain ⟨hS, hN, hA, hF⟩ := h
  simp only [pX5_line, pX6_line, pl5_iff, pl6_iff, within_iff, in_iff, forall_eq, Int32.toInt_toInt64, l64_0, l64_1, l32_0, l32_1, pX6_look, pX5_found, pX6_found, pX5_fine]
  by_cases h1 : 0 ≤ a1.toInt ∧ a1.toInt ≤ 5
  · obtain ⟨p, hp, rfl⟩ := nI_rg (n := 6) h1.1 (by omega) (by omega)
    by_cases h2 : 0 ≤ a3.toInt ∧ a3.toInt ≤ 1
    · simp only [if_pos h1, if_pos h2, one_ne, imp_F, not_F, imp_T, true_and, cl6 hp, in6 hp, sA_uF]
      rcases net_at hN hp with ⟨e1, e2⟩ | ⟨o, a, l, t, N, e1, hw, hc, hm⟩
      · simp only [e1, e2, none_n, ob_n, imp_T, and_true, zero_eq, not_T, imp_F]
        exact ⟨fun q => absurd q (by decide), fun _ => ⟨hS, hN, hA, rfl⟩⟩
      · have hM : MRep N p (sA (uF (uF M 0 0) 1 0) 5) (sA (uF (uF M 0 0) 1 0) 6) (sA (uF (uF M 0 0) 1 0) 7) (sA (uF (uF M 0 0) 1 0) 8) (sA (uF (uF M 0 0) 1 0) 9) (sA (uF (uF M 0 0) 1 0) 10) := hm
        have le0 : ((0 : Int32) ≤ 0) ↔ True := by decide
        simp only [e1, some_n, ob_e, imp_F, true_and, hm.1.1, m_ne0 hw, not_F, imp_T, c_hasLine hw hc, m_isLine hp hw hM, le0, not_T, and_true]
        by_cases h3 : 0 ≤ a2.toInt ∧ a2.toInt ≤ ((nR N * nL N : Nat) : Int) - 1
        · have hr := rn_le hw
          obtain ⟨c, hc2, rfl⟩ := nI_rg (n := nR N * nL N) h3.1 (by omega) (by omega)
          simp only [if_pos h3, one_ne, imp_F, not_F, imp_T, true_and, nI_clamp (show c < 2 ^ 31 by omega)]
          have e5 := hc.2.2.2.1 c hc2
          have e6 := hc.2.2.2.2.1 c hc2
          have d5 := hm.2.2.1 c (by omega)
          have ix : ((36 : Int32) * nI p) + nI c = nI (36 * p + c) := by
            rw [show (36 : Int32) = nI 36 from rfl, nI_mul, nI_add]
          have vi : vp_in (nI (36 * p + c)) 216 := vp_in_nI (by omega) (by omega)
          have l5 : l 5 = nR N * nL N := hc.2.1.2.1
          have l6 : l 6 = nR N * nL N := hc.2.1.2.2.1
          have v5 : vp_in (nI c) (l 5) := by rw [l5]; exact vp_in_nI hc2 (by omega)
          have v6 : vp_in (nI c) (l 6) := by rw [l6]; exact vp_in_nI hc2 (by omega)
          simp only [ix, vi, v5, v6, true_and, nI_clamp (show 36 * p + c < 2 ^ 31 by omega), sA_uF, e5, e6, d5]
          have fin : Rel (uX T (uF (tX T) 5 0)) (uF (uF M 0 0) 1 0) := ⟨hS, hN, hA, rfl⟩
          cases hd : nC N c with
          | none => exact ⟨fun _ => ⟨fun _ => ⟨rfl, fin⟩, fun q => absurd rfl q⟩, fun _ => ⟨fun _ => ⟨rfl, fin⟩, fun q => absurd rfl q⟩⟩
          | some z =>
            obtain ⟨b, x⟩ := z
            have hb := (hw.2.2.2.2.1 c b x hd).1
            have d10 := hm.2.2.2 c b x (by omega) hd
            refine ⟨fun q3 => ⟨fun q => absurd q (nI_none (by omega)), fun _ => ⟨fun _ => fin, fun q => absurd q3 q⟩⟩, fun q3 => ⟨fun q => absurd q (nI_none (by omega)), fun _ => ⟨fun q => absurd q q3, fun _ => ⟨d10.symm, fin⟩⟩⟩⟩
        · simp only [if_neg h3, zero_eq, imp_F, not_T, imp_T, and_true, true_and]
          exact ⟨hS, hN, hA, hF⟩
    · simp only [if_pos h1, if_neg h2, one_ne, zero_eq, imp_F, not_F, not_T, imp_T, and_true, true_and]
      exact ⟨hS, hN, hA, hF⟩
  · simp only [if_neg h1, zero_eq, imp_F, not_T, imp_T, and_true, true_and]
    exact ⟨hS, hN, hA, hF⟩
theorem cnt_same {f g : Nat → Bool} : ∀ k, (∀ j, j < k → f j = g j) → cnt f k = cnt g k
  | 0, _ => rfl
  | k + 1, h => by
    unfold cnt
    rw [cnt_same k (fun j hj => h j (by omega)), h k (by omega)]
theorem cnt_up {f g : Nat → Bool} {x : Nat} (hf : f x = false) (hg : g x = true) (ho : ∀ j, j ≠ x → g j = f j) : ∀ k, x < k → cnt g k = cnt f k + 1
  | 0, h => absurd h (Nat.not_lt_zero _)
  | k + 1, h => by
    unfold cnt
    by_cases e : x = k
    · subst e
      rw [hf, hg, cnt_same x (fun j hj => ho j (by omega))]
      rfl
    · rw [cnt_up hf hg ho k (by omega), ho k (by omega)]
      omega
/-- the net with its middle one x dead or not -/
def Nd (N : NSt) (x : Nat) (v : Bool) : NSt := (nM N, nL N, nR N, fun y => if y = x then v else nD N y, nC N)
theorem mend_wf {N : NSt} (hw : NWf N) (x : Nat) : NWf (Nd N x false) := by
  obtain ⟨h1, h2, h3, h4, h5, h6⟩ := hw
  refine ⟨h1, h2, h3, h4, fun a b y hd => ?_, h6⟩
  obtain ⟨k1, k2, k3⟩ := h5 a b y hd
  refine ⟨k1, k2, ?_⟩
  show (if y = x then false else nD N y) = false
  split
  · rfl
  · exact k3
theorem dead_bit {N : NSt} {x : Nat} : ((if nD N x = true then 1 else 0 : Int32) = 0) ↔ nD N x = false := by
  cases nD N x with
  | false => exact ⟨fun _ => rfl, fun _ => rfl⟩
  | true => exact ⟨fun q => absurd q (by decide), fun q => absurd q (by decide)⟩
theorem mend_crep {N : NSt} {l : Nat → Nat} {t : St} {x : Nat} (hx : x < nM N) (hdx : nD N x = true) (hw : NWf N) (hc : CRep N l t) : CRep (Nd N x false) l (uF (uA t 4 (upd (sA t 4) x 0)) 13 (sF t 13 + 1)) := by
  obtain ⟨⟨f0, f1, f2, f3, f13, f14⟩, hl, h4, h5⟩ := hc
  refine ⟨⟨f0, f1, f2, f3, ?_, f14⟩, hl, fun y hy => ?_, h5⟩
  · show sF t 13 + 1 = nI (cnt (fun y => !(if y = x then false else nD N y)) (nM N))
    have := hw.1
    rw [f13, cnt_up (f := fun y => !nD N y) (g := fun y => !(if y = x then false else nD N y)) (x := x) (by rw [hdx]; rfl) (by rw [if_pos rfl]; rfl) (fun j hj => by rw [if_neg hj]) (nM N) hx]
    exact nI_add _ 1
  · show upd (sA t 4) x 0 y = if (if y = x then false else nD N y) = true then 1 else 0
    unfold upd
    by_cases e : y = x
    · rw [if_pos e, if_pos e]; rfl
    · rw [if_neg e, if_neg e]
      exact h4 y hy
theorem set_mrep {N : NSt} {p x : Nat} {v : Bool} {md ln ou dd out by_ : Nat → Int32} (hx : x < nM N) (hw : NWf N) (hm : MRep N p md ln ou dd out by_) : MRep (Nd N x v) p md ln ou (upd dd (12 * p + x) (if v = true then 1 else 0)) out by_ := by
  obtain ⟨h1, h2, h3⟩ := hm
  refine ⟨h1, fun y hy => ?_, h3⟩
  show upd dd (12 * p + x) _ (12 * p + y) = if (if y = x then v else nD N y) = true then 1 else 0
  unfold upd
  by_cases e : y = x
  · rw [if_pos (by omega), if_pos e]
  · rw [if_neg (by omega), if_neg e]
    exact h2 y hy
