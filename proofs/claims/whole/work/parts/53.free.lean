/-! free middle ones; the first of them -/
def bI (b : Bool) : Int32 := if b = true then 1 else 0
theorem bI_0 {b : Bool} : bI b = 0 ↔ b = false := by
  cases b
  · exact ⟨fun _ => rfl, fun _ => rfl⟩
  · exact ⟨fun h => absurd h (by decide), fun h => (nomatch h)⟩
theorem bI_n0 {b : Bool} (h : ¬ bI b = 0) : b = true := by
  cases b
  · exact absurd rfl h
  · rfl
def fF (N : NSt) (f x : Nat) : Bool := !nD N x && (cf N f x).isNone
def fT (N : NSt) (g x : Nat) : Bool := !nD N x && (ct N g x).isNone
def fB (N : NSt) (f g x : Nat) : Bool := fF N f x && fT N g x
theorem fF_iff {N : NSt} {f x : Nat} : fF N f x = true ↔ nD N x = false ∧ cf N f x = none := by
  unfold fF
  simp only [Bool.and_eq_true, Bool.not_eq_true', Option.isNone_iff_eq_none]
theorem fT_iff {N : NSt} {f x : Nat} : fT N f x = true ↔ nD N x = false ∧ ct N f x = none := by
  unfold fT
  simp only [Bool.and_eq_true, Bool.not_eq_true', Option.isNone_iff_eq_none]
theorem fF_dead {N : NSt} {f x : Nat} (h : nD N x ≠ false) : fF N f x = false := by
  cases e : fF N f x with
  | false => rfl
  | true => exact absurd (fF_iff.mp e).1 h
theorem fT_dead {N : NSt} {f x : Nat} (h : nD N x ≠ false) : fT N f x = false := by
  cases e : fT N f x with
  | false => rfl
  | true => exact absurd (fT_iff.mp e).1 h
theorem fF_busy {N : NSt} {f x : Nat} (h : cf N f x ≠ none) : fF N f x = false := by
  cases e : fF N f x with
  | false => rfl
  | true => exact absurd (fF_iff.mp e).2 h
theorem fT_busy {N : NSt} {f x : Nat} (h : ct N f x ≠ none) : fT N f x = false := by
  cases e : fT N f x with
  | false => rfl
  | true => exact absurd (fT_iff.mp e).2 h
theorem enC_iff {o : Option Nat} (h : ∀ a, o = some a → a < 2 ^ 31) : enC o = -1 ↔ o = none := by
  cases o with
  | none => exact ⟨fun _ => rfl, fun _ => rfl⟩
  | some a => exact ⟨fun q => absurd q (enC_ne (h a rfl)), fun q => (nomatch q)⟩
theorem enM_iff {o : Option Nat} (h : ∀ a, o = some a → a < 2 ^ 31) : enM o = -1000000 ↔ o = none := by
  cases o with
  | none => exact ⟨fun _ => rfl, fun _ => rfl⟩
  | some a => exact ⟨fun q => absurd q (nI_none (h a rfl)), fun q => (nomatch q)⟩
theorem cf_lt {N : NSt} (hw : NWf N) {f x a : Nat} (h : cf N f x = some a) : a < 2 ^ 31 := by
  have h1 := (fnd_some h).2
  have h2 := rn_le hw
  omega
theorem ct_lt {N : NSt} (hw : NWf N) {f x a : Nat} (h : ct N f x = some a) : a < 2 ^ 31 := by
  have h1 := (fnd_some h).2
  have h2 := rn_le hw
  omega
section FR
variable {N : NSt} {ln : Nat → Nat} {t : St}
theorem c_isFF (hw : NWf N) (hc : CRep N ln t) {x a : Nat} (hx : x < nM N) (ha : a < nR N * nL N) {Q : Int32 → Prop} (h : Q (bI (fF N (a / nL N) x))) : pX1_isFreeFrom ln t (nI x) (nI a) Q := by
  obtain ⟨hbr, hl⟩ := CRep_iff.mp hc
  obtain ⟨⟨f0, f1, f2, f3, f13, f14⟩, ⟨g4, g5, g6, g7, g8, g9, g10, _⟩, h4, h5, h7⟩ := hbr
  have k2 := rn_le hw
  have k3 := hw.1
  have k4 := hw.2.2.1
  have k5 : nM N * nR N ≤ 72 := Nat.mul_le_mul k3.2 k4.2
  have i1 := idx_lt hx (div_sw ha)
  unfold pX1_isFreeFrom
  rw [g4, nI_clamp (by omega), h4 x hx]
  refine ⟨vp_in_nI hx (by omega), fun q => ?_, fun q => ?_⟩
  · have hd : nD N x = false := dead_bit.mp q
    refine c_link hw f1 f2 ha ?_
    rw [g8, nI_clamp (by omega), row8 hw hl hx (div_sw ha)]
    refine ⟨vp_in_nI i1 (by omega), fun q2 => ?_, fun q2 => ?_⟩
    · rw [fF_iff.mpr ⟨hd, (enC_iff (fun a e => cf_lt hw e)).mp q2⟩] at h
      exact h
    · rw [fF_busy (fun e => q2 ((enC_iff (fun a e => cf_lt hw e)).mpr e))] at h
      exact h
  · rw [fF_dead (fun e => q (dead_bit.mpr e))] at h
    exact h
theorem c_isFT (hw : NWf N) (hc : CRep N ln t) {x a : Nat} (hx : x < nM N) (ha : a < nR N * nL N) {Q : Int32 → Prop} (h : Q (bI (fT N (a / nL N) x))) : pX1_isFreeTo ln t (nI x) (nI a) Q := by
  obtain ⟨hbr, hl⟩ := CRep_iff.mp hc
  obtain ⟨⟨f0, f1, f2, f3, f13, f14⟩, ⟨g4, g5, g6, g7, g8, g9, g10, _⟩, h4, h5, h7⟩ := hbr
  have k2 := rn_le hw
  have k3 := hw.1
  have k4 := hw.2.2.1
  have k5 : nM N * nR N ≤ 72 := Nat.mul_le_mul k3.2 k4.2
  have i1 := idx_lt hx (div_sw ha)
  unfold pX1_isFreeTo
  rw [g4, nI_clamp (by omega), h4 x hx]
  refine ⟨vp_in_nI hx (by omega), fun q => ?_, fun q => ?_⟩
  · have hd : nD N x = false := dead_bit.mp q
    refine c_link hw f1 f2 ha ?_
    rw [g9, nI_clamp (by omega), row9 hw hl hx (div_sw ha)]
    refine ⟨vp_in_nI i1 (by omega), fun q2 => ?_, fun q2 => ?_⟩
    · rw [fT_iff.mpr ⟨hd, (enC_iff (fun a e => ct_lt hw e)).mp q2⟩] at h
      exact h
    · rw [fT_busy (fun e => q2 ((enC_iff (fun a e => ct_lt hw e)).mpr e))] at h
      exact h
  · rw [fT_dead (fun e => q (dead_bit.mpr e))] at h
    exact h
theorem c_isF (hw : NWf N) (hc : CRep N ln t) {x a b : Nat} (hx : x < nM N) (ha : a < nR N * nL N) (hb : b < nR N * nL N) {Q : Int32 → Prop} (h : Q (bI (fB N (a / nL N) (b / nL N) x))) : pX1_isFree ln t (nI x) (nI a) (nI b) Q := by
  unfold fB at h
  unfold pX1_isFree
  refine c_isFF hw hc hx ha ⟨fun q => ?_, fun q => c_isFT hw hc hx hb ⟨fun q2 => ?_, fun q2 => ?_⟩⟩
  · rw [bI_0.mp q] at h
    exact h
  · rw [bI_n0 q, bI_0.mp q2] at h
    exact h
  · rw [bI_n0 q, bI_n0 q2] at h
    exact h
end FR
section FM
variable {N : NSt} {p : Nat} {M : St}
theorem m_isF (hp : p < 6) (hw : NWf N) (hm : MR N p M) {f g x : Nat} (hf : f < nR N) (hg : g < nR N) (hx : x < nM N) {Q : Int32 → Prop} (h : Q (bI (fB N f g x))) : pX6_isFree M (nI p) (nI f) (nI g) (nI x) Q := by
  have k3 := hw.1
  unfold fB at h
  unfold pX6_isFree
  rw [ix12, nI_clamp (by omega), hm.2.1 x hx]
  refine ⟨vp_in_nI (by omega) (by omega), fun q => ?_, fun q => ?_⟩
  · have hd : nD N x = false := dead_bit.mp q
    refine m_from hp hw hm hf hx ⟨fun q2 => m_to hp hw hm hg hx ⟨fun q3 => ?_, fun q3 => ?_⟩, fun q2 => ?_⟩
    · rw [fF_iff.mpr ⟨hd, (enM_iff (fun a e => cf_lt hw e)).mp q2⟩, fT_iff.mpr ⟨hd, (enM_iff (fun a e => ct_lt hw e)).mp q3⟩] at h
      exact h
    · rw [fT_busy (fun e => q3 ((enM_iff (fun a e => ct_lt hw e)).mpr e)), Bool.and_false] at h
      exact h
    · rw [fF_busy (fun e => q2 ((enM_iff (fun a e => cf_lt hw e)).mpr e))] at h
      exact h
  · rw [fF_dead (fun e => q (dead_bit.mpr e))] at h
    exact h
end FM
/-- the first below k -/
def frs (P : Nat → Bool) : Nat → Option Nat
  | 0 => none
  | k + 1 => match frs P k with | some x => some x | none => if P k = true then some k else none
theorem frs_no {P : Nat → Bool} : ∀ {n : Nat}, (∀ j, j < n → P j = false) → frs P n = none
  | 0, _ => rfl
  | n + 1, h => by
    unfold frs
    rw [frs_no (n := n) (fun j hj => h j (by omega)), h n (by omega)]
    rfl
theorem frs_eq {P : Nat → Bool} {x : Nat} (hx : P x = true) (h : ∀ j, j < x → P j = false) : ∀ {n : Nat}, x < n → frs P n = some x
  | 0, q => absurd q (Nat.not_lt_zero _)
  | n + 1, q => by
    unfold frs
    by_cases e : x = n
    · subst e
      rw [frs_no h, hx]
      rfl
    · rw [frs_eq hx h (n := n) (by omega)]
theorem frs_none {P : Nat → Bool} : ∀ {n : Nat}, frs P n = none → ∀ j, j < n → P j = false
  | 0, _, j, hj => absurd hj (Nat.not_lt_zero _)
  | n + 1, h, j, hj => by
    unfold frs at h
    cases e : frs P n with
    | some x => rw [e] at h; cases h
    | none =>
      rw [e] at h
      by_cases q : j = n
      · subst q
        cases hP : P j with
        | false => rfl
        | true =>
          rw [hP] at h
          cases h
      · exact frs_none e j (by omega)
theorem frs_some {P : Nat → Bool} {x : Nat} : ∀ {n : Nat}, frs P n = some x → x < n ∧ P x = true
  | 0, h => (nomatch h)
  | n + 1, h => by
    unfold frs at h
    cases e : frs P n with
    | some y =>
      rw [e] at h
      cases h
      have := frs_some e
      exact ⟨by omega, this.2⟩
    | none =>
      rw [e] at h
      cases hP : P n with
      | false => rw [hP] at h; cases h
      | true =>
        rw [hP] at h
        cases h
        exact ⟨by omega, hP⟩
theorem lp_find {B : (Int32 → Prop) → Int32 → Prop} (n : Nat) (hn : n < 2 ^ 31) (P : Nat → Bool) (hstep : ∀ (k : Nat) (K : Int32 → Prop), k < n → (∀ j, j < k → P j = false) → (P k = false → K (nI (k + 1))) → B K (nI k)) (hend : ∀ K : Int32 → Prop, (∀ j, j < n → P j = false) → B K (nI n)) : lp B 0 := by
  refine lp_of (I := fun q => ∃ k, k ≤ n ∧ q = nI k ∧ ∀ j, j < k → P j = false) (μ := fun q => n - q.toNatClampNeg) ?_ 0 ⟨0, by omega, rfl, fun j hj => absurd hj (Nat.not_lt_zero _)⟩
  rintro q ⟨k, hk, rfl, hP⟩ K hK
  by_cases e : k = n
  · subst e
    exact hend K hP
  · refine hstep k K (by omega) hP (fun h => hK _ ⟨k + 1, by omega, rfl, fun j hj => ?_⟩ ?_)
    · by_cases e2 : j = k
      · rw [e2]; exact h
      · exact hP j (by omega)
    · show n - (nI (k + 1)).toNatClampNeg < n - (nI k).toNatClampNeg
      rw [nI_clamp (by omega), nI_clamp (by omega)]
      omega
theorem cnt_s {f : Nat → Bool} {k : Nat} : cnt f (k + 1) = cnt f k + (if f k = true then 1 else 0) := rfl
section FH
variable {N : NSt} {ln : Nat → Nat} {t : St}
theorem c_many (hw : NWf N) (hc : CRep N ln t) {a b : Nat} (ha : a < nR N * nL N) (hb : b < nR N * nL N) {Q : Int32 → Prop} (h : Q (nI (cnt (fB N (a / nL N) (b / nL N)) (nM N)))) : pX1_howManyFree ln t (nI a) (nI b) Q := by
  have k3 := hw.1
  unfold pX1_howManyFree lX1_howManyFree_5
  refine lp_cnt (nM N) (by omega) (fun k => nI (cnt (fB N (a / nL N) (b / nL N)) k)) (fun k K hk hK => ?_) (fun K => ?_)
  · show bX1_howManyFree_5 ln t (nI a) (nI b) _ _ (nI _) (nI k)
    have hK' : K (nI (cnt (fB N (a / nL N) (b / nL N)) (k + 1)), nI (k + 1)) := hK
    unfold bX1_howManyFree_5
    rw [hc.1.1, nI_s1, nI_s1]
    refine ⟨fun q => absurd q (nI_ge hk (by omega)), fun _ => c_isF hw hc hk ha hb ⟨fun q => ?_, fun q => ?_⟩⟩
    · rintro _ rfl
      rw [cnt_s, bI_0.mp q] at hK'
      exact hK'
    · rintro _ rfl _ rfl
      rw [cnt_s, bI_n0 q] at hK'
      exact hK'
  · show bX1_howManyFree_5 ln t (nI a) (nI b) _ _ (nI _) (nI _)
    unfold bX1_howManyFree_5
    rw [hc.1.1]
    exact ⟨fun _ => h, fun q => absurd (nI_le (Nat.le_refl _) (by omega)) q⟩
theorem c_plan (hw : NWf N) (hc : CRep N ln t) {a b : Nat} (ha : a < nR N * nL N) (hb : b < nR N * nL N) {how : Int32} {Q : Int32 → St → Prop} (h1 : ∀ x, frs (fB N (a / nL N) (b / nL N)) (nM N) = some x → Q 0 (uF t 15 (nI x))) (h2 : frs (fB N (a / nL N) (b / nL N)) (nM N) = none → how = 0 → Q (-1000000) t) (h3 : frs (fB N (a / nL N) (b / nL N)) (nM N) = none → ¬ how = 0 → pX1_planMoves ln t (nI a) (nI b) Q) : pX1_plan ln t (nI a) (nI b) how Q := by
  have k3 := hw.1
  unfold pX1_plan lX1_plan_3
  refine lp_find (nM N) (by omega) (fB N (a / nL N) (b / nL N)) (fun k K hk hj hK => ?_) (fun K hj => ?_)
  · show bX1_plan_3 ln t (nI a) (nI b) how _ _ _ (nI k)
    unfold bX1_plan_3
    rw [hc.1.1, nI_s1]
    refine ⟨fun q => absurd q (nI_ge hk (by omega)), fun _ => c_isF hw hc hk ha hb ⟨fun q => ?_, fun q => ?_⟩⟩
    · rintro _ rfl
      exact hK (bI_0.mp q)
    · rintro _ rfl
      exact h1 k (frs_eq (bI_n0 q) hj hk)
  · show bX1_plan_3 ln t (nI a) (nI b) how _ _ _ (nI (nM N))
    unfold bX1_plan_3
    rw [hc.1.1]
    exact ⟨fun _ => ⟨fun q => h2 (frs_no hj) q, fun q => h3 (frs_no hj) q⟩, fun q => absurd (nI_le (Nat.le_refl _) (by omega)) q⟩
end FH
section FMH
variable {N : NSt} {p : Nat} {M : St}
theorem m_many (hp : p < 6) (hw : NWf N) (hm : MR N p M) {f g : Nat} {x4 : Int32} (hf : f < nR N) (hg : g < nR N) {Q : Int32 → Prop} (h : Q (nI (cnt (fB N f g) (nM N)))) : lX6_free_119 M (nI p) x4 (nI f) (nI g) Q 0 0 := by
  have k3 := hw.1
  unfold lX6_free_119
  refine lp_cnt (nM N) (by omega) (fun k => nI (cnt (fB N f g) k)) (fun k K hk hK => ?_) (fun K => ?_)
  · show bX6_free_119 M (nI p) x4 (nI f) (nI g) _ _ (nI _) (nI k)
    have hK' : K (nI (cnt (fB N f g) (k + 1)), nI (k + 1)) := hK
    unfold bX6_free_119
    rw [cl6 hp, hm.1.1, nI_s1, nI_s1]
    refine ⟨in6 hp, fun q => absurd q (nI_ge hk (by omega)), fun _ => m_isF hp hw hm hf hg hk ⟨fun q => ?_, fun q => ?_⟩⟩
    · rintro _ rfl _ rfl
      rw [cnt_s, bI_0.mp q] at hK'
      rw [show nI (cnt (fB N f g) k) + 0 = nI (cnt (fB N f g) k + 0) from nI_add _ 0]
      exact hK'
    · rintro _ rfl _ rfl
      rw [cnt_s, bI_n0 q] at hK'
      exact hK'
  · show bX6_free_119 M (nI p) x4 (nI f) (nI g) _ _ (nI _) (nI _)
    unfold bX6_free_119
    rw [cl6 hp, hm.1.1]
    exact ⟨in6 hp, fun _ => h, fun q => absurd (nI_le (Nat.le_refl _) (by omega)) q⟩
end FMH
