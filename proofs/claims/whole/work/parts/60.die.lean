/-! a middle one dies -/
theorem cnt_mono {f : Nat → Bool} {a : Nat} : ∀ d, cnt f a ≤ cnt f (a + d)
  | 0 => Nat.le_refl _
  | d + 1 => by
    have := cnt_mono (f := f) (a := a) d
    have e : cnt f (a + (d + 1)) = cnt f (a + d) + (if f (a + d) = true then 1 else 0) := rfl
    omega
theorem cnt_mo {f : Nat → Bool} {a b : Nat} (h : a ≤ b) : cnt f a ≤ cnt f b := by
  have := cnt_mono (f := f) (a := a) (b - a)
  rw [show a + (b - a) = b by omega] at this
  exact this
theorem cnt_gap {f : Nat → Bool} {n k : Nat} (h : cnt f n ≤ cnt f k) {a : Nat} (h1 : k ≤ a) (h2 : a < n) : f a = false := by
  cases e : f a with
  | false => rfl
  | true =>
    have e1 : cnt f (a + 1) = cnt f a + 1 := by rw [cnt_s, e]; rfl
    have e2 := cnt_mo (f := f) (show a + 1 ≤ n by omega)
    have e3 := cnt_mo (f := f) h1
    omega
theorem cnt_next {f : Nat → Bool} {k : Nat} : ∀ {n : Nat}, cnt f k < cnt f n → ∃ j, k ≤ j ∧ j < n ∧ f j = true ∧ cnt f j = cnt f k
  | 0, h => absurd h (Nat.not_lt_zero _)
  | n + 1, h => by
    by_cases e : cnt f k < cnt f n
    · obtain ⟨j, h1, h2, h3, h4⟩ := cnt_next e
      exact ⟨j, h1, by omega, h3, h4⟩
    · have e1 : cnt f (n + 1) = cnt f n + (if f n = true then 1 else 0) := rfl
      have hk : k ≤ n := by
        refine Nat.le_of_not_lt (fun q => ?_)
        have := cnt_mo (f := f) (show n + 1 ≤ k from q)
        omega
      have e2 := cnt_mo (f := f) hk
      cases hf : f n with
      | false => rw [hf] at e1; have : cnt f (n + 1) = cnt f n := e1; omega
      | true => exact ⟨n, hk, by omega, hf, by omega⟩
theorem NWf_sub {N N2 : NSt} (hw : NWf N) (hM : nM N2 = nM N) (hL : nL N2 = nL N) (hR : nR N2 = nR N) (h : ∀ a b z, nC N2 a = some (b, z) → nC N a = some (b, z) ∧ nD N2 z = false) : NWf N2 := by
  obtain ⟨h1, h2, h3, h4, h5, h6, h7, h8⟩ := hw
  unfold NWf
  rw [hM, hL, hR]
  refine ⟨h1, h2, h3, fun a k => ?_, fun a b x k => ⟨(h5 a b x (h a b x k).1).1, (h5 a b x (h a b x k).1).2.1, (h a b x k).2⟩, fun a a2 b x x2 k k2 => h6 a a2 b x x2 (h _ _ _ k).1 (h _ _ _ k2).1, fun a a2 b b2 x k k2 => h7 a a2 b b2 x (h _ _ _ k).1 (h _ _ _ k2).1, fun a a2 b b2 x k k2 => h8 a a2 b b2 x (h _ _ _ k).1 (h _ _ _ k2).1⟩
  cases e : nC N2 a with
  | none => rfl
  | some q =>
    have := (h a q.1 q.2 e).1
    rw [h4 a k] at this
    cases this
def kN (N : NSt) (x a : Nat) : NSt := (nM N, nL N, nR N, nD N, fun c => if (decide (c < a) && mdl N c x) = true then none else nC N c)
def kil (N : NSt) (x : Nat) : NSt := (nM N, nL N, nR N, fun y => if y = x then true else nD N y, fun c => if mdl N c x = true then none else nC N c)
theorem kN_C (N : NSt) (x a c : Nat) : nC (kN N x a) c = if (decide (c < a) && mdl N c x) = true then none else nC N c := rfl
theorem kil_C (N : NSt) (x c : Nat) : nC (kil N x) c = if mdl N c x = true then none else nC N c := rfl
theorem kN_wf {N : NSt} (hw : NWf N) (x a : Nat) : NWf (kN N x a) := by
  refine NWf_sub hw rfl rfl rfl (fun c b z h => ?_)
  rw [kN_C] at h
  by_cases e : (decide (c < a) && mdl N c x) = true
  · rw [if_pos e] at h
    cases h
  · rw [if_neg e] at h
    exact ⟨h, (hw.2.2.2.2.1 c b z h).2.2⟩
theorem kil_wf {N : NSt} (hw : NWf N) (x : Nat) : NWf (kil N x) := by
  refine NWf_sub hw rfl rfl rfl (fun c b z h => ?_)
  rw [kil_C] at h
  by_cases e : mdl N c x = true
  · rw [if_pos e] at h
    cases h
  · rw [if_neg e] at h
    refine ⟨h, ?_⟩
    show (if z = x then true else nD N z) = false
    rw [if_neg (fun q => e (mdl_iff.mpr ⟨b, by rw [← q]; exact h⟩))]
    exact (hw.2.2.2.2.1 c b z h).2.2
theorem kN_at (N : NSt) (x a : Nat) : nC (kN N x a) a = nC N a := by
  rw [kN_C, decide_eq_false (Nat.lt_irrefl a)]
  rfl
theorem kN_y {N : NSt} {x a : Nat} (h : mdl N a x = true) : Nc (kN N x a) a none = kN N x (a + 1) := by
  unfold Nc
  show (nM N, nL N, nR N, nD N, va_up (nC (kN N x a)) a none) = (nM N, nL N, nR N, nD N, nC (kN N x (a + 1)))
  congr 4
  funext c
  rw [kN_C]
  by_cases e : c = a
  · rw [e, decide_eq_true (Nat.lt_succ_self a), h]
    exact if_pos rfl
  · rw [va_up_ne _ _ e, kN_C]
    by_cases e2 : c < a
    · rw [decide_eq_true e2, decide_eq_true (show c < a + 1 by omega)]
    · rw [decide_eq_false e2, decide_eq_false (show ¬ c < a + 1 by omega)]
theorem kN_n {N : NSt} {x a : Nat} (h : mdl N a x = false) : kN N x (a + 1) = kN N x a := by
  show (nM N, nL N, nR N, nD N, nC (kN N x (a + 1))) = (nM N, nL N, nR N, nD N, nC (kN N x a))
  congr 4
  funext c
  rw [kN_C, kN_C]
  by_cases e : c = a
  · rw [e, h, Bool.and_false, Bool.and_false]
  · by_cases e2 : c < a
    · rw [decide_eq_true e2, decide_eq_true (show c < a + 1 by omega)]
    · rw [decide_eq_false e2, decide_eq_false (show ¬ c < a + 1 by omega)]
theorem mdl_lt {N : NSt} (hw : NWf N) {a x : Nat} (h : mdl N a x = true) : a < nR N * nL N := by
  obtain ⟨b, hb⟩ := mdl_iff.mp h
  exact ((NWf_L hw).1 a b x hb).1
theorem kN_end {N : NSt} (hw : NWf N) (x : Nat) {n : Nat} (hn : nR N * nL N ≤ n) (c : Nat) : nC (kN N x n) c = nC (kil N x) c := by
  rw [kN_C, kil_C]
  by_cases e : mdl N c x = true
  · have := mdl_lt hw e
    rw [e, decide_eq_true (show c < n by omega)]
    rfl
  · rw [if_neg e, Bool.eq_false_iff.mpr e, Bool.and_false]
    rfl
/-- the shed calls set up anew, by lines in -/
def reF (N : NSt) (x : Nat) : Nat → NSt × Nat
  | 0 => (kil N x, 0)
  | k + 1 => if mdl N k x = true then (suN (reF N x k).1 k (bx N k), (reF N x k).2 + (if suR (reF N x k).1 k (bx N k) = none then 1 else 0)) else reF N x k
theorem re_y {N : NSt} {x k : Nat} (h : mdl N k x = true) : reF N x (k + 1) = (suN (reF N x k).1 k (bx N k), (reF N x k).2 + (if suR (reF N x k).1 k (bx N k) = none then 1 else 0)) := if_pos h
theorem re_n {N : NSt} {x k : Nat} (h : mdl N k x = false) : reF N x (k + 1) = reF N x k := if_neg (by rw [h]; decide)
theorem re_gap {N : NSt} {x k : Nat} : ∀ d, (∀ a, k ≤ a → a < k + d → mdl N a x = false) → reF N x (k + d) = reF N x k
  | 0, _ => rfl
  | d + 1, h => by
    show reF N x (k + d + 1) = _
    rw [re_n (h (k + d) (by omega) (by omega)), re_gap d (fun a h1 h2 => h a h1 (by omega))]
theorem re_le {N : NSt} {x : Nat} : ∀ k, (reF N x k).2 ≤ k
  | 0 => Nat.le_refl 0
  | k + 1 => by
    have := re_le (N := N) (x := x) k
    cases e : mdl N k x with
    | false => rw [re_n e]; omega
    | true =>
      rw [re_y e]
      show (reF N x k).2 + (if suR (reF N x k).1 k (bx N k) = none then 1 else 0) ≤ k + 1
      split <;> omega
def dimE (N2 N : NSt) : Prop := nM N2 = nM N ∧ nL N2 = nL N ∧ nR N2 = nR N ∧ nD N2 = nD N
theorem pl_dim {N N2 : NSt} {f g n x : Nat} (h : plN N f g = some (n, N2, x)) : dimE N2 N ∧ ∀ a b z, nC N2 a = some (b, z) → ∃ w, nC N a = some (b, w) := by
  cases e : frs (fB N f g) (nM N) with
  | some z =>
    rw [plN_a e] at h
    cases h
    exact ⟨⟨rfl, rfl, rfl, rfl⟩, fun a b z h => ⟨z, h⟩⟩
  | none =>
    cases e2 : bsN N f g with
    | none => rw [plN_b e e2] at h; cases h
    | some q =>
      rw [plN_c e e2] at h
      cases h
      exact ⟨⟨rfl, rfl, rfl, rfl⟩, fun a b z h => swp_out h⟩
theorem su_dim {N : NSt} {a b : Nat} : dimE (suN N a b) N := by
  unfold suN
  cases e : plN N (a / nL N) (b / nL N) with
  | none => exact ⟨rfl, rfl, rfl, rfl⟩
  | some q =>
    obtain ⟨n, N2, x⟩ := q
    exact (pl_dim e).1
theorem su_out {N : NSt} {a b a2 b2 z : Nat} (h : nC (suN N a b) a2 = some (b2, z)) : (a2 = a ∧ b2 = b) ∨ ∃ w, nC N a2 = some (b2, w) := by
  unfold suN at h
  cases e : plN N (a / nL N) (b / nL N) with
  | none => rw [e] at h; exact Or.inr ⟨z, h⟩
  | some q =>
    rw [e] at h
    obtain ⟨n, N2, x⟩ := q
    have h' : va_up (nC N2) a (some (b, x)) a2 = some (b2, z) := h
    rcases up_some h' with ⟨e1, e2⟩ | ⟨_, e2⟩
    · cases e2
      exact Or.inl ⟨e1, rfl⟩
    · exact Or.inr ((pl_dim e).2 a2 b2 z e2)
theorem suR_lt {N : NSt} (hw : NWf N) {a b n : Nat} (h : suR N a b = some n) : n < 2 ^ 31 := by
  have hr := rn_le hw
  unfold suR at h
  cases e : frs (fB N (a / nL N) (b / nL N)) (nM N) with
  | some z =>
    rw [plN_a e] at h
    cases h
    omega
  | none =>
    cases e2 : bsN N (a / nL N) (b / nL N) with
    | none => rw [plN_b e e2] at h; cases h
    | some q =>
      rw [plN_c e e2] at h
      cases h
      obtain ⟨q1, q2, q3⟩ := q
      obtain ⟨_, _, o3, _⟩ := bs_spec hw e e2
      show q1 < 2 ^ 31
      omega
theorem re_inv {N : NSt} (hw : NWf N) {x : Nat} : ∀ k, NWf (reF N x k).1 ∧ dimE (reF N x k).1 (kil N x) ∧ ∀ a b z, nC (reF N x k).1 a = some (b, z) → (∃ w, nC N a = some (b, w)) ∧ (mdl N a x = true → a < k)
  | 0 => by
    refine ⟨kil_wf hw x, ⟨rfl, rfl, rfl, rfl⟩, fun a b z h => ?_⟩
    have h' : nC (kil N x) a = some (b, z) := h
    rw [kil_C] at h'
    by_cases e : mdl N a x = true
    · rw [if_pos e] at h'
      cases h'
    · rw [if_neg e] at h'
      exact ⟨⟨z, h'⟩, fun q => absurd q e⟩
  | k + 1 => by
    obtain ⟨i1, i2, i3⟩ := re_inv hw (x := x) k
    cases e : mdl N k x with
    | false =>
      rw [re_n e]
      exact ⟨i1, i2, fun a b z h => ⟨(i3 a b z h).1, fun q => by have := (i3 a b z h).2 q; omega⟩⟩
    | true =>
      obtain ⟨b0, hb0⟩ := mdl_iff.mp e
      obtain ⟨d1, d2, d3, d4⟩ := i2
      have hl := (NWf_L hw).1 k b0 x hb0
      have hC : nC (reF N x k).1 k = none := by
        cases q : nC (reF N x k).1 k with
        | none => rfl
        | some w => have := (i3 k w.1 w.2 q).2 e; omega
      have hO : ∀ a2 x2, nC (reF N x k).1 a2 ≠ some (bx N k, x2) := by
        intro a2 x2 q
        obtain ⟨⟨w, q2⟩, q3⟩ := i3 a2 _ x2 q
        rw [bx_eq hb0] at q2
        have := hw.2.2.2.2.2.1 a2 k b0 w x q2 hb0
        subst this
        have := q3 e
        omega
      rw [re_y e]
      refine ⟨su_wf i1 (by rw [d2, d3]; exact hl.1) (by rw [d2, d3, bx_eq hb0]; exact hl.2.1) hC hO, ?_, fun a b z h => ?_⟩
      · obtain ⟨s1, s2, s3, s4⟩ := su_dim (N := (reF N x k).1) (a := k) (b := bx N k)
        exact ⟨s1.trans d1, s2.trans d2, s3.trans d3, s4.trans d4⟩
      · rcases su_out h with ⟨e1, e2⟩ | ⟨w, q⟩
        · subst e1
          refine ⟨⟨x, ?_⟩, fun _ => by omega⟩
          rw [e2, bx_eq hb0]
          exact hb0
        · exact ⟨(i3 a b w q).1, fun q2 => by have := (i3 a b w q).2 q2; omega⟩
theorem re_free {N : NSt} (hw : NWf N) {x k : Nat} (e : mdl N k x = true) : nC (reF N x k).1 k = none ∧ (∀ a2 x2, nC (reF N x k).1 a2 ≠ some (bx N k, x2)) ∧ k < nR (reF N x k).1 * nL (reF N x k).1 ∧ bx N k < nR (reF N x k).1 * nL (reF N x k).1 := by
  obtain ⟨i1, ⟨d1, d2, d3, d4⟩, i3⟩ := re_inv hw (x := x) k
  obtain ⟨b0, hb0⟩ := mdl_iff.mp e
  have hl := (NWf_L hw).1 k b0 x hb0
  refine ⟨?_, fun a2 x2 q => ?_, by rw [d2, d3]; exact hl.1, by rw [d2, d3, bx_eq hb0]; exact hl.2.1⟩
  · cases q : nC (reF N x k).1 k with
    | none => rfl
    | some w => have := (i3 k w.1 w.2 q).2 e; omega
  · obtain ⟨⟨w, q2⟩, q3⟩ := i3 a2 _ x2 q
    rw [bx_eq hb0] at q2
    have := hw.2.2.2.2.2.1 a2 k b0 w x q2 hb0
    subst this
    have := q3 e
    omega
section KM
variable {N : NSt} {ln : Nat → Nat} {t : St}
theorem c_kill (hw : NWf N) (hc : CRep N ln t) {x : Nat} (hx : x < nM N) (hdx : nD N x = false) {Q : Int32 → St → Prop} (h : ∀ t2, CRep (reF N x (nR N * nL N)).1 ln t2 → Q (nI (reF N x (nR N * nL N)).2) t2) : pX1_killMiddle ln t (nI x) Q := by
  have hr := rn_le hw
  have k3 := hw.1
  obtain ⟨hbr, hl⟩ := CRep_iff.mp hc
  obtain ⟨_, ⟨g4, g5, g6, g7, g8, g9, g10, g11, g12⟩, _⟩ := hbr
  unfold pX1_killMiddle lX1_killMiddle_4
  refine lp_of (I := fun q => ∃ a t2, a ≤ nR N * nL N ∧ q = (t2, nI (cnt (fun c => mdl N c x) a), nI a) ∧ CRep (kN N x a) ln t2 ∧ ∀ c, c < a → mdl N c x = true → sA t2 11 (cnt (fun c => mdl N c x) c) = nI c ∧ sA t2 12 (cnt (fun c => mdl N c x) c) = nI (bx N c)) (μ := fun q => nR N * nL N - q.2.2.toNatClampNeg) ?_ _ ⟨0, t, by omega, rfl, ?_, fun c hc => absurd hc (Nat.not_lt_zero _)⟩
  · rintro q ⟨a, t2, ha, rfl, hc2, hs⟩ K hK
    show bX1_killMiddle_4 ln (nI x) _ _ t2 (nI (cnt (fun c => mdl N c x) a)) (nI a)
    unfold bX1_killMiddle_4
    have h3 : sF t2 3 = nI (nR N * nL N) := hc2.1.2.2.2.1
    rw [h3, nI_s1, nI_s1]
    by_cases e : a = nR N * nL N
    · subst e
      refine ⟨fun _ => ?_, fun q => absurd (nI_le (Nat.le_refl _) (by omega)) q⟩
      rw [g4, nI_clamp (by omega), nar_b1]
      refine ⟨vp_in_nI hx (by omega), ?_⟩
      rintro _ rfl _ rfl
      have hc3 : CRep (kil N x) ln (uF (uA t2 4 (upd (sA t2 4) x 1)) 13 (sF t2 13 - 1)) := by
        obtain ⟨b2, l2⟩ := CRep_iff.mp hc2
        have eC : nC (kil N x) = nC (kN N x (nR N * nL N)) := funext (fun c => (kN_end hw x (Nat.le_refl _) c).symm)
        obtain ⟨⟨f0, f1, f2, f3, f13, f14⟩, gg, h4, h5, h7⟩ := b2
        refine CRep_iff.mpr ⟨⟨⟨f0, f1, f2, f3, ?_, by rw [eC]; exact f14⟩, gg, fun y hy => ?_, by rw [eC]; exact h5, by rw [eC]; exact h7⟩, by rw [eC]; exact l2⟩
        · show sF t2 13 - 1 = nI (cnt (fun y => !(if y = x then true else nD N y)) (nM N))
          have f13' : sF t2 13 = nI (cnt (fun y => !nD N y) (nM N)) := f13
          rw [f13', cnt_up (f := fun y => !(if y = x then true else nD N y)) (g := fun y => !nD N y) (x := x) (by rw [if_pos rfl]; rfl) (by rw [hdx]; rfl) (fun j hj => by rw [if_neg hj]) (nM N) hx]
          exact nI_sub (b := 1) (by omega)
        · show upd (sA t2 4) x 1 y = if (if y = x then true else nD N y) = true then 1 else 0
          unfold upd
          by_cases e : y = x
          · rw [if_pos e, if_pos e]; rfl
          · rw [if_neg e, if_neg e]
            exact h4 y hy
      have s11 : ∀ c, c < nR N * nL N → mdl N c x = true → sA t2 11 (cnt (fun c => mdl N c x) c) = nI c ∧ sA t2 12 (cnt (fun c => mdl N c x) c) = nI (bx N c) := hs
      have tot : cnt (fun c => mdl N c x) (nR N * nL N) ≤ nR N * nL N := cnt_le _ _
      unfold lX1_killMiddle_77
      refine lp_of (I := fun q => ∃ k t3, k ≤ nR N * nL N ∧ q = (t3, nI (reF N x k).2, nI (cnt (fun c => mdl N c x) k)) ∧ CRep (reF N x k).1 ln t3 ∧ sA t3 11 = sA t2 11 ∧ sA t3 12 = sA t2 12) (μ := fun q => cnt (fun c => mdl N c x) (nR N * nL N) - q.2.2.toNatClampNeg) ?_ _ ⟨0, _, by omega, rfl, hc3, rfl, rfl⟩
      rintro q ⟨k, t3, hk, rfl, hc4, r11, r12⟩ K2 hK2
      show bX1_killMiddle_77 ln (nI (cnt (fun c => mdl N c x) (nR N * nL N))) _ _ t3 (nI (reF N x k).2) (nI (cnt (fun c => mdl N c x) k))
      unfold bX1_killMiddle_77
      have ck : cnt (fun c => mdl N c x) k ≤ cnt (fun c => mdl N c x) (nR N * nL N) := cnt_mo hk
      by_cases e : cnt (fun c => mdl N c x) (nR N * nL N) ≤ cnt (fun c => mdl N c x) k
      · have eq := re_gap (N := N) (x := x) (k := k) (nR N * nL N - k) (fun a h1 h2 => cnt_gap (f := fun c => mdl N c x) e h1 (by omega))
        rw [show k + (nR N * nL N - k) = nR N * nL N by omega] at eq
        refine ⟨fun _ => ?_, fun q => absurd (nI_le e (by omega)) q⟩
        have := h t3 (by rw [eq]; exact hc4)
        rw [eq] at this
        exact this
      · obtain ⟨j, j1, j2, j3, j4⟩ := cnt_next (Nat.lt_of_not_le e)
        have eqj := re_gap (N := N) (x := x) (k := k) (j - k) (fun a h1 h2 => cnt_gap (f := fun c => mdl N c x) (n := j) (k := k) (by omega) h1 (by omega))
        rw [show k + (j - k) = j by omega] at eqj
        obtain ⟨q1, q2⟩ := s11 j j2 j3
        obtain ⟨w1, w2, w3, w4⟩ := re_free hw (x := x) (k := j) j3
        have wj := (re_inv hw (x := x) j).1
        rw [g11, g12, nI_clamp (by omega), r11, r12, ← j4, q1, q2, nI_s1, nI_s1]
        refine ⟨fun q => absurd q (nI_ge (by omega) (by omega)), fun _ => ⟨vp_in_nI (by omega) (by omega), vp_in_nI (by omega) (by omega), ?_⟩⟩
        rw [← eqj] at hc4 ⊢
        refine c_setUp wj hc4 w3 w4 w1 w2 (fun q => absurd q (by decide)) (fun _ t4 hc5 p11 p12 => ?_)
        have sj : cnt (fun c => mdl N c x) (j + 1) = cnt (fun c => mdl N c x) j + 1 := by
          rw [cnt_s]
          show cnt (fun c => mdl N c x) j + (if mdl N j x = true then 1 else 0) = _
          rw [if_pos j3]
        have next : ∀ v, v = (reF N x (j + 1)).2 → K2 (t4, nI v, nI (cnt (fun c => mdl N c x) j + 1)) := by
          rintro _ rfl
          refine hK2 _ ⟨j + 1, t4, by omega, by rw [sj], ?_, p11.trans r11, p12.trans r12⟩ ?_
          · rw [re_y j3]
            exact hc5
          · show cnt (fun c => mdl N c x) (nR N * nL N) - (nI (cnt (fun c => mdl N c x) j + 1)).toNatClampNeg < cnt (fun c => mdl N c x) (nR N * nL N) - (nI (cnt (fun c => mdl N c x) k)).toNatClampNeg
            rw [nI_clamp (by omega), nI_clamp (by omega)]
            omega
        have em := enM_iff (o := suR (reF N x j).1 j (bx N j)) (fun a e => suR_lt wj e)
        refine ⟨fun q => ?_, fun q => ?_⟩
        · rintro _ rfl _ rfl
          refine next _ ?_
          rw [re_y j3]
          show _ = (reF N x j).2 + (if suR (reF N x j).1 j (bx N j) = none then 1 else 0)
          rw [if_pos (em.mp q)]
        · rintro _ rfl
          refine next _ ?_
          rw [re_y j3]
          show _ = (reF N x j).2 + (if suR (reF N x j).1 j (bx N j) = none then 1 else 0)
          rw [if_neg (fun q2 => q (em.mpr q2))]
          rfl
    · have ha2 : a < nR N * nL N := by omega
      have cle : cnt (fun c => mdl N c x) a ≤ a := cnt_le _ _
      have h6 := hc2.2.2.2.2.1 a ha2
      have h5 := hc2.2.2.2.1 a ha2
      rw [kN_at] at h5 h6
      have mono : ∀ t3 n, CRep (kN N x (a + 1)) ln t3 → n = cnt (fun c => mdl N c x) (a + 1) → (∀ c, c < a + 1 → mdl N c x = true → sA t3 11 (cnt (fun c => mdl N c x) c) = nI c ∧ sA t3 12 (cnt (fun c => mdl N c x) c) = nI (bx N c)) → K (t3, nI n, nI (a + 1)) := by
        rintro t3 _ h1 rfl h2
        refine hK _ ⟨a + 1, t3, by omega, rfl, h1, h2⟩ ?_
        show nR N * nL N - (nI (a + 1)).toNatClampNeg < nR N * nL N - (nI a).toNatClampNeg
        rw [nI_clamp (by omega), nI_clamp (by omega)]
        omega
      rw [g6, g5, g11, g12, nI_clamp (show a < 2 ^ 31 by omega), nI_clamp (show cnt (fun c => mdl N c x) a < 2 ^ 31 by omega)]
      refine ⟨fun q => absurd q (nI_ge ha2 (by omega)), fun _ => ⟨vp_in_nI ha2 (by omega), fun q => ⟨vp_in_nI (by omega) (by omega), ?_⟩, fun q => ?_⟩⟩
      · have hmd : mdl N a x = true := by
          cases hd : nC N a with
          | none =>
            rw [hd] at h6
            rw [h6] at q
            exact absurd q.symm (nI_none (by omega))
          | some z =>
            rw [hd] at h6
            have := hw.2.2.2.2.1 a z.1 z.2 hd
            rw [h6] at q
            have e2 : z.2 = x := (nI_eq (by omega) (by omega)).mp q
            exact mdl_iff.mpr ⟨z.1, by rw [← e2]; exact hd⟩
        obtain ⟨b, hb⟩ := mdl_iff.mp hmd
        rw [hb] at h5
        have h5' : sA t2 5 a = nI b := h5
        rintro _ rfl
        refine ⟨vp_in_nI ha2 (by omega), vp_in_nI (by omega) (by omega), ?_⟩
        rintro _ rfl
        have hc3 : CRep (kN N x a) ln (uA (uA t2 11 (upd (sA t2 11) (cnt (fun c => mdl N c x) a) (nI a))) 12 (upd (sA t2 12) (cnt (fun c => mdl N c x) a) (sA t2 5 a))) := hc2
        refine c_takeOff (kN_wf hw x a) hc3 ha2 (fun t4 hc4 p11 p12 => ?_)
        rintro _ rfl _ rfl
        refine mono t4 _ ?_ ?_ (fun c hc hm => ?_)
        · rw [← kN_y hmd]
          exact hc4
        · rw [cnt_s]
          show _ = cnt (fun c => mdl N c x) a + (if mdl N a x = true then 1 else 0)
          rw [if_pos hmd]
        · rw [p11, p12]
          show upd (sA t2 11) (cnt (fun c => mdl N c x) a) (nI a) (cnt (fun c => mdl N c x) c) = nI c ∧ upd (sA t2 12) (cnt (fun c => mdl N c x) a) (sA t2 5 a) (cnt (fun c => mdl N c x) c) = nI (bx N c)
          by_cases e2 : c = a
          · subst e2
            rw [upd_same, upd_same, h5', bx_eq hb]
            exact ⟨rfl, rfl⟩
          · have lt : cnt (fun c => mdl N c x) (c + 1) = cnt (fun c => mdl N c x) c + 1 := by
              rw [cnt_s]
              show cnt (fun c => mdl N c x) c + (if mdl N c x = true then 1 else 0) = _
              rw [if_pos hm]
            have le : cnt (fun c => mdl N c x) (c + 1) ≤ cnt (fun c => mdl N c x) a := cnt_mo (by omega)
            rw [upd_other _ _ (by omega), upd_other _ _ (by omega)]
            exact hs c (by omega) hm
      · have hmd : mdl N a x = false := by
          cases e2 : mdl N a x with
          | false => rfl
          | true =>
            obtain ⟨b, hb⟩ := mdl_iff.mp e2
            rw [hb] at h6
            exact absurd h6 q
        rintro _ rfl
        refine mono t2 _ ?_ ?_ (fun c hc hm => ?_)
        · rw [kN_n hmd]
          exact hc2
        · rw [cnt_s]
          show _ = cnt (fun c => mdl N c x) a + (if mdl N a x = true then 1 else 0)
          rw [hmd]
          rfl
        · refine hs c ?_ hm
          by_cases e2 : c = a
          · rw [e2, hmd] at hm
            cases hm
          · omega
  · have : kN N x 0 = N := by
      show (nM N, nL N, nR N, nD N, nC (kN N x 0)) = (nM N, nL N, nR N, nD N, nC N)
      congr 4
    rw [this]
    exact hc
end KM
