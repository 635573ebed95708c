/-! the pair with the shortest chain -/
def chN (N : NSt) (x y g : Nat) : Nat := cnt (fun k => (ch N x y g k).isSome) (nR N * nL N)
def upB (cur : Option (Nat × Nat × Nat)) (n x y : Nat) : Option (Nat × Nat × Nat) := match cur with | none => some (n, x, y) | some q => if n < q.1 then some (n, x, y) else some q
def stB (N : NSt) (f g x y : Nat) (cur : Option (Nat × Nat × Nat)) : Option (Nat × Nat × Nat) := if (fF N f x && fT N g y) = true then upB cur (chN N x y g) x y else cur
def rwB (N : NSt) (f g x : Nat) (cur : Option (Nat × Nat × Nat)) : Nat → Option (Nat × Nat × Nat)
  | 0 => cur
  | k + 1 => stB N f g x k (rwB N f g x cur k)
def alB (N : NSt) (f g : Nat) : Nat → Option (Nat × Nat × Nat)
  | 0 => none
  | k + 1 => rwB N f g k (alB N f g k) (nM N)
def bsN (N : NSt) (f g : Nat) : Option (Nat × Nat × Nat) := alB N f g (nM N)
def enB (o : Option (Nat × Nat × Nat)) : Int32 := match o with | none => -1000000 | some q => nI q.1
theorem cnt_pre {f : Nat → Bool} {n K : Nat} (h : n ≤ K) (h1 : ∀ k, k < n → f k = true) (h2 : ∀ k, n ≤ k → f k = false) : cnt f K = n := by
  rw [cnt_ext h h2, cnt_same n h1, cnt_T]
section CN
variable {N : NSt} {x y g : Nat}
theorem ch_up {n : Nat} (h : ch N x y g n = none) : ∀ d, ch N x y g (n + d) = none
  | 0 => h
  | d + 1 => ch_none_up (ch_up h d)
theorem chN_spec (hw : NWf N) (hxy : x ≠ y) (hg : ct N g y = none) : chN N x y g ≤ nR N * nL N ∧ ch N x y g (chN N x y g) = none ∧ ∀ k, k < chN N x y g → ∃ a, ch N x y g k = some a := by
  obtain ⟨n, h1, h2, h3⟩ := ch_len hw hxy hg
  have e : chN N x y g = n := by
    refine cnt_pre h1 (fun k hk => ?_) (fun k hk => ?_)
    · obtain ⟨a, ha⟩ := h3 k hk
      show (ch N x y g k).isSome = true
      rw [ha]
      rfl
    · show (ch N x y g k).isSome = false
      have := ch_up h2 (k - n)
      rw [show n + (k - n) = k by omega] at this
      rw [this]
      rfl
  rw [e]
  exact ⟨h1, h2, h3⟩
theorem chN_le : chN N x y g ≤ nR N * nL N := cnt_le _ _
end CN
def okB (N : NSt) (f g : Nat) (cur : Option (Nat × Nat × Nat)) : Prop := ∀ q, cur = some q → q.1 = chN N q.2.1 q.2.2 g ∧ q.2.1 < nM N ∧ q.2.2 < nM N ∧ fF N f q.2.1 = true ∧ fT N g q.2.2 = true
section OK
variable {N : NSt} {f g x : Nat}
theorem stB_ok {y : Nat} {cur : Option (Nat × Nat × Nat)} (hx : x < nM N) (hy : y < nM N) (h : okB N f g cur) : okB N f g (stB N f g x y cur) := by
  unfold stB
  by_cases e : (fF N f x && fT N g y) = true
  · rw [if_pos e]
    have e2 := e
    rw [Bool.and_eq_true] at e2
    have new : okB N f g (some (chN N x y g, x, y)) := by
      intro q hq
      cases hq
      exact ⟨rfl, hx, hy, e2.1, e2.2⟩
    cases cur with
    | none => exact new
    | some q =>
      show okB N f g (if chN N x y g < q.1 then some (chN N x y g, x, y) else some q)
      by_cases e3 : chN N x y g < q.1
      · rw [if_pos e3]; exact new
      · rw [if_neg e3]; exact h
  · rw [if_neg e]
    exact h
theorem rwB_ok {cur : Option (Nat × Nat × Nat)} (hx : x < nM N) (h : okB N f g cur) : ∀ k, k ≤ nM N → okB N f g (rwB N f g x cur k)
  | 0, _ => h
  | k + 1, hk => stB_ok hx (by omega) (rwB_ok hx h k (by omega))
theorem alB_ok : ∀ k, k ≤ nM N → okB N f g (alB N f g k)
  | 0, _ => fun q hq => (nomatch hq)
  | k + 1, hk => rwB_ok (by omega) (alB_ok k (by omega)) _ (Nat.le_refl _)
theorem rwB_skip {cur : Option (Nat × Nat × Nat)} (h : fF N f x = false) : ∀ k, rwB N f g x cur k = cur
  | 0 => rfl
  | k + 1 => by
    show stB N f g x k (rwB N f g x cur k) = cur
    unfold stB
    rw [h, rwB_skip h k]
    rfl
theorem stB_no {y : Nat} {cur : Option (Nat × Nat × Nat)} (h : fT N g y = false) : stB N f g x y cur = cur := by
  unfold stB
  rw [h, Bool.and_false]
  rfl
theorem stB_nf {y : Nat} {cur : Option (Nat × Nat × Nat)} (h : fF N f x = false) : stB N f g x y cur = cur := by
  unfold stB
  rw [h]
  rfl
theorem stB_n {y : Nat} (h : fF N f x = true) (h2 : fT N g y = true) : stB N f g x y none = some (chN N x y g, x, y) := by
  unfold stB
  rw [h, h2]
  rfl
theorem stB_y {y : Nat} {q : Nat × Nat × Nat} (h : fF N f x = true) (h2 : fT N g y = true) (h3 : chN N x y g < q.1) : stB N f g x y (some q) = some (chN N x y g, x, y) := by
  unfold stB
  rw [h, h2]
  exact if_pos h3
theorem stB_k {y : Nat} {q : Nat × Nat × Nat} (h : fF N f x = true) (h2 : fT N g y = true) (h3 : q.1 ≤ chN N x y g) : stB N f g x y (some q) = some q := by
  unfold stB
  rw [h, h2]
  exact if_neg (Nat.not_lt.mpr h3)
theorem fB_ne (hx : x < nM N) (hno : frs (fB N f g) (nM N) = none) {y : Nat} (h : fF N f x = true) (h2 : fT N g y = true) : x ≠ y := by
  intro e
  subst e
  have := frs_none hno x hx
  unfold fB at this
  rw [h, h2] at this
  cases this
end OK
def PS (N : NSt) (ln : Nat → Nat) (t : St) (cur : Option (Nat × Nat × Nat)) (t2 : St) : Prop := CRep N ln t2 ∧ (∀ q, cur = some q → sF t2 15 = nI q.2.1 ∧ sF t2 16 = nI q.2.2) ∧ sA t2 11 = sA t 11 ∧ sA t2 12 = sA t 12
section PL
variable {N : NSt} {ln : Nat → Nat} {t : St}
theorem c_pm31 (hw : NWf N) {f x b : Nat} {x1 : Int32} (hx : x < nM N) (hb : b < nR N * nL N) (hno : frs (fB N f (b / nL N)) (nM N) = none) (hxF : fF N f x = true) {cur : Option (Nat × Nat × Nat)} (hok : okB N f (b / nL N) cur) {t1 : St} (ht : PS N ln t cur t1) {K' : St → Int32 → Prop} (h : ∀ t2, PS N ln t (rwB N f (b / nL N) x cur (nM N)) t2 → K' t2 (enB (rwB N f (b / nL N) x cur (nM N)))) : lX1_planMoves_31 ln x1 (nI b) (nI x) K' t1 (enB cur) 0 := by
  have k2 := rn_le hw
  have k3 := hw.1
  unfold lX1_planMoves_31
  refine lp_of (I := fun q => ∃ k t2, k ≤ nM N ∧ q = (t2, enB (rwB N f (b / nL N) x cur k), nI k) ∧ PS N ln t (rwB N f (b / nL N) x cur k) t2) (μ := fun q => nM N - q.2.2.toNatClampNeg) ?_ _ ⟨0, t1, by omega, rfl, ht⟩
  rintro q ⟨k, t2, hk, rfl, hP⟩ K hK
  show bX1_planMoves_31 ln x1 (nI b) (nI x) K' _ t2 (enB (rwB N f (b / nL N) x cur k)) (nI k)
  unfold bX1_planMoves_31
  obtain ⟨hc, h15, h11, h12⟩ := hP
  rw [hc.1.1, nI_s1]
  by_cases e : k = nM N
  · subst e
    exact ⟨fun _ => h t2 ⟨hc, h15, h11, h12⟩, fun q => absurd (nI_le (Nat.le_refl _) (by omega)) q⟩
  · have hk2 : k < nM N := by omega
    have next : ∀ t3 c3, c3 = rwB N f (b / nL N) x cur (k + 1) → PS N ln t c3 t3 → K (t3, enB c3, nI (k + 1)) := by
      rintro t3 _ rfl h3
      refine hK _ ⟨k + 1, t3, by omega, rfl, h3⟩ ?_
      show nM N - (nI (k + 1)).toNatClampNeg < nM N - (nI k).toNatClampNeg
      rw [nI_clamp (by omega), nI_clamp (by omega)]
      omega
    have okk := rwB_ok (f := f) (g := b / nL N) hx hok k (by omega)
    have es : rwB N f (b / nL N) x cur (k + 1) = stB N f (b / nL N) x k (rwB N f (b / nL N) x cur k) := rfl
    generalize hcu : rwB N f (b / nL N) x cur k = cu at *
    refine ⟨fun q => absurd q (nI_ge hk2 (by omega)), fun _ => c_isFT hw hc hk2 hb ⟨fun q => ?_, fun q => ?_⟩⟩
    · rintro _ rfl
      refine next t2 cu ?_ ⟨hc, h15, h11, h12⟩
      rw [es, stB_no (bI_0.mp q)]
    · have hyT := bI_n0 q
      have hne := fB_ne hx hno hxF hyT
      obtain ⟨n1, n2, n3⟩ := chN_spec hw hne (fT_iff.mp hyT).2
      refine c_walk hw hc hx hk2 hb n1 n2 n3 (fun ff hff => ?_)
      have hc3 : CRep N ln (uA t2 10 ff) := hc
      have hc4 : CRep N ln (uF (uF (uA t2 10 ff) 15 (nI x)) 16 (nI k)) := hc
      have new : ∀ c3, c3 = some (chN N x k (b / nL N), x, k) → PS N ln t c3 (uF (uF (uA t2 10 ff) 15 (nI x)) 16 (nI k)) := by
        rintro _ rfl
        refine ⟨hc4, fun q hq => ?_, h11, h12⟩
        cases hq
        exact ⟨rfl, rfl⟩
      cases hcc : cu with
      | none =>
        subst hcc
        refine ⟨fun _ => ?_, fun q2 => absurd rfl q2⟩
        rintro _ rfl _ rfl _ rfl
        refine next _ (some (chN N x k (b / nL N), x, k)) ?_ (new _ rfl)
        rw [es, stB_n hxF hyT]
      | some z =>
        subst hcc
        obtain ⟨z1, z2, z3⟩ := z
        have oz := okk _ rfl
        have zl : z1 ≤ nR N * nL N := by
          have : z1 = chN N z2 z3 (b / nL N) := oz.1
          rw [this]
          exact chN_le
        refine ⟨fun q2 => absurd q2 (nI_none (by omega)), fun _ => ⟨fun q2 => ?_, fun q2 => ?_⟩⟩
        · have q3 : z1 ≤ chN N x k (b / nL N) := (nI_leI (by omega) (by omega)).mp q2
          rintro _ rfl
          refine next _ (some (z1, z2, z3)) ?_ ⟨hc3, h15, h11, h12⟩
          rw [es, stB_k hxF hyT q3]
        · have q3 : ¬ z1 ≤ chN N x k (b / nL N) := fun q4 => q2 ((nI_leI (by omega) (by omega)).mpr q4)
          rintro _ rfl _ rfl _ rfl
          refine next _ (some (chN N x k (b / nL N), x, k)) ?_ (new _ rfl)
          rw [es, stB_y hxF hyT (Nat.lt_of_not_le q3)]
theorem c_moves (hw : NWf N) (hc : CRep N ln t) {a b : Nat} (ha : a < nR N * nL N) (hb : b < nR N * nL N) (hno : frs (fB N (a / nL N) (b / nL N)) (nM N) = none) {Q : Int32 → St → Prop} (h : ∀ t2, PS N ln t (bsN N (a / nL N) (b / nL N)) t2 → Q (enB (bsN N (a / nL N) (b / nL N))) t2) : pX1_planMoves ln t (nI a) (nI b) Q := by
  have k2 := rn_le hw
  have k3 := hw.1
  unfold pX1_planMoves lX1_planMoves_6
  refine lp_of (I := fun q => ∃ k t2, k ≤ nM N ∧ q = (t2, enB (alB N (a / nL N) (b / nL N) k), nI k) ∧ PS N ln t (alB N (a / nL N) (b / nL N) k) t2) (μ := fun q => nM N - q.2.2.toNatClampNeg) ?_ _ ⟨0, t, by omega, rfl, hc, fun q hq => (nomatch hq), rfl, rfl⟩
  rintro q ⟨k, t2, hk, rfl, hP⟩ K hK
  show bX1_planMoves_6 ln (nI a) (nI b) _ _ t2 (enB (alB N (a / nL N) (b / nL N) k)) (nI k)
  unfold bX1_planMoves_6
  have hP2 := hP
  obtain ⟨hc2, h15, h11, h12⟩ := hP
  rw [hc2.1.1, nI_s1]
  by_cases e : k = nM N
  · subst e
    exact ⟨fun _ => h t2 hP2, fun q => absurd (nI_le (Nat.le_refl _) (by omega)) q⟩
  · have hk2 : k < nM N := by omega
    have next : ∀ t3 c3, c3 = alB N (a / nL N) (b / nL N) (k + 1) → PS N ln t c3 t3 → K (t3, enB c3, nI (k + 1)) := by
      rintro t3 _ rfl h3
      refine hK _ ⟨k + 1, t3, by omega, rfl, h3⟩ ?_
      show nM N - (nI (k + 1)).toNatClampNeg < nM N - (nI k).toNatClampNeg
      rw [nI_clamp (by omega), nI_clamp (by omega)]
      omega
    refine ⟨fun q => absurd q (nI_ge hk2 (by omega)), fun _ => c_isFF hw hc2 hk2 ha ⟨fun q => ?_, fun q => ?_⟩⟩
    · rintro _ rfl
      refine next t2 _ ?_ hP2
      exact (rwB_skip (bI_0.mp q) _).symm
    · refine c_pm31 hw hk2 hb hno (bI_n0 q) (alB_ok k (by omega)) hP2 (fun t3 h3 => ?_)
      rintro _ rfl
      exact next t3 _ rfl h3
end PL
