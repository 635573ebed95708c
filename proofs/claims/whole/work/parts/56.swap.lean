/-! the net with the chain turned about -/
def mem (f : Nat → Option Nat) (a : Nat) : Nat → Bool
  | 0 => false
  | k + 1 => decide (f k = some a) || mem f a k
theorem mem_iff {f : Nat → Option Nat} {a : Nat} : ∀ {n : Nat}, mem f a n = true ↔ ∃ k, k < n ∧ f k = some a
  | 0 => ⟨fun h => (nomatch h), fun ⟨k, h, _⟩ => absurd h (Nat.not_lt_zero _)⟩
  | n + 1 => by
    unfold mem
    rw [Bool.or_eq_true, decide_eq_true_eq, mem_iff (n := n)]
    constructor
    · rintro (h | ⟨k, h1, h2⟩)
      · exact ⟨n, by omega, h⟩
      · exact ⟨k, by omega, h2⟩
    · rintro ⟨k, h1, h2⟩
      by_cases e : k = n
      · rw [← e]
        exact Or.inl h2
      · exact Or.inr ⟨k, by omega, h2⟩
theorem mem_s {f : Nat → Option Nat} {a c k : Nat} (h : f k = some c) : mem f a (k + 1) = if a = c then true else mem f a k := by
  show (decide (f k = some a) || mem f a k) = _
  rw [h]
  by_cases e : a = c
  · rw [if_pos e, e, decide_eq_true rfl]
    rfl
  · rw [if_neg e, decide_eq_false (fun q => e (by cases q; rfl))]
    rfl
def sw2 (x y z : Nat) : Nat := if z = x then y else x
def swV (x y : Nat) (o : Option (Nat × Nat)) : Option (Nat × Nat) := match o with | none => none | some q => some (q.1, sw2 x y q.2)
def lvC (N : NSt) (x y g k : Nat) : CMap := fun a => if mem (ch N x y g) a k = true then none else nC N a
def tkC (N : NSt) (x y g k : Nat) : CMap := fun a => if mem (ch N x y g) a k = true then swV x y (nC N a) else lvC N x y g (chN N x y g) a
def swp (N : NSt) (x y g : Nat) : NSt := (nM N, nL N, nR N, nD N, tkC N x y g (chN N x y g))
theorem swp_C (N : NSt) (x y g a : Nat) : nC (swp N x y g) a = if mem (ch N x y g) a (chN N x y g) = true then swV x y (nC N a) else nC N a := by
  show tkC N x y g (chN N x y g) a = _
  unfold tkC lvC
  by_cases e : mem (ch N x y g) a (chN N x y g) = true
  · rw [if_pos e, if_pos e]
  · rw [if_neg e, if_neg e, if_neg e]
section SW
variable {N : NSt} {x y g : Nat}
theorem ch_nmem (hw : NWf N) (hxy : x ≠ y) (hg : ct N g y = none) {k c : Nat} (h : ch N x y g k = some c) {n : Nat} (hn : n ≤ k) : mem (ch N x y g) c n = false := by
  cases e : mem (ch N x y g) c n with
  | false => rfl
  | true =>
    obtain ⟨j, h1, h2⟩ := mem_iff.mp e
    exact (ch_inj hw hxy hg j k c (by omega) h2 h).elim
theorem ch_kn (hw : NWf N) (hxy : x ≠ y) (hg : ct N g y = none) {k c : Nat} (h : ch N x y g k = some c) : k < chN N x y g := by
  obtain ⟨_, h2, _⟩ := chN_spec hw hxy hg
  refine Nat.lt_of_not_le (fun q => ?_)
  have := ch_up h2 (k - chN N x y g)
  rw [show chN N x y g + (k - chN N x y g) = k by omega, h] at this
  cases this
theorem ch_mem (hw : NWf N) (hxy : x ≠ y) (hg : ct N g y = none) {k c : Nat} (h : ch N x y g k = some c) : mem (ch N x y g) c (chN N x y g) = true := mem_iff.mpr ⟨k, ch_kn hw hxy hg h, h⟩
theorem lvC_0 : lvC N x y g 0 = nC N := rfl
theorem lvC_s {k c : Nat} (h : ch N x y g k = some c) : lvC N x y g (k + 1) = va_up (lvC N x y g k) c none := by
  funext a
  unfold lvC va_up
  rw [mem_s h]
  by_cases e : a = c
  · rw [if_pos e, if_pos rfl, if_pos e]
  · rw [if_neg e, if_neg e]
theorem tkC_0 : tkC N x y g 0 = lvC N x y g (chN N x y g) := rfl
theorem tkC_s {k c : Nat} (h : ch N x y g k = some c) : tkC N x y g (k + 1) = va_up (tkC N x y g k) c (swV x y (nC N c)) := by
  funext a
  unfold tkC va_up
  rw [mem_s h]
  by_cases e : a = c
  · rw [if_pos e, if_pos rfl, if_pos e, e]
  · rw [if_neg e, if_neg e]
theorem lvC_at (hw : NWf N) (hxy : x ≠ y) (hg : ct N g y = none) {k c : Nat} (h : ch N x y g k = some c) : lvC N x y g k c = nC N c := by
  unfold lvC
  rw [ch_nmem hw hxy hg h (Nat.le_refl _)]
  rfl
theorem tkC_at (hw : NWf N) (hxy : x ≠ y) (hg : ct N g y = none) {k c : Nat} (h : ch N x y g k = some c) : tkC N x y g k c = none := by
  unfold tkC lvC
  rw [ch_nmem hw hxy hg h (Nat.le_refl _), ch_mem hw hxy hg h]
  rfl
theorem lvC_wf (hw : NWf N) (k : Nat) : LWf (nL N) (nR N) (nM N) (lvC N x y g k) := by
  have key : ∀ a q, lvC N x y g k a = some q → nC N a = some q := by
    intro a q h
    unfold lvC at h
    by_cases e : mem (ch N x y g) a k = true
    · rw [if_pos e] at h
      cases h
    · rw [if_neg e] at h
      exact h
  obtain ⟨h1, h2, h3⟩ := NWf_L hw
  exact ⟨fun a b x h => h1 a b x (key _ _ h), fun a a2 b b2 x h k => h2 a a2 b b2 x (key _ _ h) (key _ _ k), fun a a2 b b2 x h k => h3 a a2 b b2 x (key _ _ h) (key _ _ k)⟩
theorem ch_e {k a : Nat} (h : ch N x y g k = some a) (q : k % 2 = 0) : ch N x y g (k + 1) = cf N (a / nL N) y := by
  show (match ch N x y g k with | none => none | some a => if k % 2 = 0 then cf N (a / nL N) y else ct N (bx N a / nL N) x) = _
  rw [h]
  exact if_pos q
theorem ch_o {k a : Nat} (h : ch N x y g k = some a) (q : k % 2 = 1) : ch N x y g (k + 1) = ct N (bx N a / nL N) x := by
  show (match ch N x y g k with | none => none | some a => if k % 2 = 0 then cf N (a / nL N) y else ct N (bx N a / nL N) x) = _
  rw [h]
  exact if_neg (by omega)
/-- a call of the turned net: of the chain at an even place, at an odd one, or not of it -/
theorem swp_case (hw : NWf N) (hxy : x ≠ y) (hg : ct N g y = none) {a b z : Nat} (h : nC (swp N x y g) a = some (b, z)) : (∃ k, ch N x y g k = some a ∧ ((k % 2 = 0 ∧ nC N a = some (b, x) ∧ z = y) ∨ (k % 2 = 1 ∧ nC N a = some (b, y) ∧ z = x))) ∨ ((∀ k, ch N x y g k ≠ some a) ∧ nC N a = some (b, z)) := by
  rw [swp_C] at h
  by_cases e : mem (ch N x y g) a (chN N x y g) = true
  · rw [if_pos e] at h
    obtain ⟨k, _, hk⟩ := mem_iff.mp e
    obtain ⟨bm, hm⟩ := ch_mid hk
    rw [hm] at h
    have h' : some (bm, sw2 x y (if k % 2 = 0 then x else y)) = some (b, z) := h
    refine Or.inl ⟨k, hk, ?_⟩
    by_cases q : k % 2 = 0
    · rw [if_pos q] at hm h'
      have e2 : sw2 x y x = y := if_pos rfl
      rw [e2] at h'
      cases h'
      exact Or.inl ⟨q, hm, rfl⟩
    · rw [if_neg q] at hm h'
      have e2 : sw2 x y y = x := if_neg (fun q2 => hxy q2.symm)
      rw [e2] at h'
      cases h'
      exact Or.inr ⟨by omega, hm, rfl⟩
  · rw [if_neg e] at h
    refine Or.inr ⟨fun k hk => e (ch_mem hw hxy hg hk), h⟩
theorem sw_f (hw : NWf N) {k a b z a2 b2 : Nat} (hk : ch N x y g k = some a) (hz : (k % 2 = 0 ∧ nC N a = some (b, x) ∧ z = y) ∨ (k % 2 = 1 ∧ nC N a = some (b, y) ∧ z = x)) (h2 : ∀ k, ch N x y g k ≠ some a2) (h3 : nC N a2 = some (b2, z)) (he : a / nL N = a2 / nL N) : False := by
  rcases hz with ⟨q, hm, rfl⟩ | ⟨q, hm, rfl⟩
  · have := ch_e hk q
    rw [he, cf_eq hw h3] at this
    exact h2 _ this
  · obtain ⟨j, rfl⟩ : ∃ j, k = j + 1 := ⟨k - 1, by omega⟩
    obtain ⟨c, hc, hd⟩ := ch_prev hk
    rcases hd with ⟨q2, e2⟩ | ⟨q2, _⟩
    · obtain ⟨bc, hmc⟩ := ch_mid hc
      rw [if_pos q2] at hmc
      have := (NWf_L hw).2.1 c a2 bc b2 _ hmc h3 (e2.symm.trans he)
      rw [this] at hc
      exact h2 _ hc
    · omega
theorem sw_l (hw : NWf N) (hg : ct N g y = none) {k a b z a2 b2 : Nat} (hk : ch N x y g k = some a) (hz : (k % 2 = 0 ∧ nC N a = some (b, x) ∧ z = y) ∨ (k % 2 = 1 ∧ nC N a = some (b, y) ∧ z = x)) (h2 : ∀ k, ch N x y g k ≠ some a2) (h3 : nC N a2 = some (b2, z)) (he : b / nL N = b2 / nL N) : False := by
  rcases hz with ⟨q, hm, rfl⟩ | ⟨q, hm, rfl⟩
  · cases k with
    | zero =>
      obtain ⟨bb, m1, m2⟩ := ct_some (show ct N g x = some a from hk)
      rw [hm] at m1
      cases m1
      exact ct_none hw hg a2 b2 h3 (he.symm.trans m2)
    | succ j =>
      obtain ⟨c, hc, hd⟩ := ch_prev hk
      rcases hd with ⟨q2, _⟩ | ⟨q2, e2⟩
      · omega
      · obtain ⟨bc, hmc⟩ := ch_mid hc
        rw [if_neg (by omega)] at hmc
        rw [bx_eq hm, bx_eq hmc] at e2
        have := (NWf_L hw).2.2 c a2 bc b2 _ hmc h3 (e2.symm.trans he)
        rw [this] at hc
        exact h2 _ hc
  · have := ch_o hk q
    rw [bx_eq hm, he, ct_eq hw h3] at this
    exact h2 _ this
theorem swp_out {a b z : Nat} (h : nC (swp N x y g) a = some (b, z)) : ∃ w, nC N a = some (b, w) := by
  rw [swp_C] at h
  by_cases e : mem (ch N x y g) a (chN N x y g) = true
  · rw [if_pos e] at h
    cases hq : nC N a with
    | none => rw [hq] at h; cases h
    | some q =>
      rw [hq] at h
      obtain ⟨q1, q2⟩ := q
      have h' : some (q1, sw2 x y q2) = some (b, z) := h
      cases h'
      exact ⟨q2, rfl⟩
  · rw [if_neg e] at h
    exact ⟨z, h⟩
theorem swp_none {a : Nat} (h : nC N a = none) : nC (swp N x y g) a = none := by
  cases e : nC (swp N x y g) a with
  | none => rfl
  | some q =>
    obtain ⟨w, hw⟩ := swp_out (b := q.1) (z := q.2) e
    rw [h] at hw
    cases hw
theorem swp_fst (a : Nat) : (nC (swp N x y g) a).map Prod.fst = (nC N a).map Prod.fst := by
  rw [swp_C]
  by_cases e : mem (ch N x y g) a (chN N x y g) = true
  · rw [if_pos e]
    cases nC N a <;> rfl
  · rw [if_neg e]
theorem swp_wf (hw : NWf N) (hxy : x ≠ y) (hg : ct N g y = none) (hx : x < nM N) (hy : y < nM N) (hdx : nD N x = false) (hdy : nD N y = false) : NWf (swp N x y g) := by
  have hw2 := hw
  obtain ⟨h1, h2, h3, h4, h5, h6, h7, h8⟩ := hw
  refine ⟨h1, h2, h3, fun a ha => swp_none (h4 a ha), fun a b z h => ?_, fun a a2 b z z2 h k => ?_, fun a a2 b b2 z h k e => ?_, fun a a2 b b2 z h k e => ?_⟩
  · rcases swp_case hw2 hxy hg h with ⟨k, _, ⟨_, hm, rfl⟩ | ⟨_, hm, rfl⟩⟩ | ⟨_, hm⟩
    · exact ⟨(h5 a b _ hm).1, hy, hdy⟩
    · exact ⟨(h5 a b _ hm).1, hx, hdx⟩
    · exact h5 a b z hm
  · obtain ⟨w, m1⟩ := swp_out h
    obtain ⟨w2, m2⟩ := swp_out k
    exact h6 a a2 b w w2 m1 m2
  · rcases swp_case hw2 hxy hg h with ⟨i, hi, ci⟩ | ⟨ni, ci⟩
    · rcases swp_case hw2 hxy hg k with ⟨j, hj, cj⟩ | ⟨nj, cj⟩
      · rcases ci with ⟨_, m1, e1⟩ | ⟨_, m1, e1⟩
        · rcases cj with ⟨_, m2, e2⟩ | ⟨_, m2, e2⟩
          · exact h7 a a2 b b2 x m1 m2 e
          · exact absurd (e2.symm.trans e1) hxy
        · rcases cj with ⟨_, m2, e2⟩ | ⟨_, m2, e2⟩
          · exact absurd (e1.symm.trans e2) hxy
          · exact h7 a a2 b b2 y m1 m2 e
      · exact (sw_f hw2 hi ci nj cj e).elim
    · rcases swp_case hw2 hxy hg k with ⟨j, hj, cj⟩ | ⟨nj, cj⟩
      · exact (sw_f hw2 hj cj ni ci e.symm).elim
      · exact h7 a a2 b b2 z ci cj e
  · rcases swp_case hw2 hxy hg h with ⟨i, hi, ci⟩ | ⟨ni, ci⟩
    · rcases swp_case hw2 hxy hg k with ⟨j, hj, cj⟩ | ⟨nj, cj⟩
      · rcases ci with ⟨_, m1, e1⟩ | ⟨_, m1, e1⟩
        · rcases cj with ⟨_, m2, e2⟩ | ⟨_, m2, e2⟩
          · exact h8 a a2 b b2 x m1 m2 e
          · exact absurd (e2.symm.trans e1) hxy
        · rcases cj with ⟨_, m2, e2⟩ | ⟨_, m2, e2⟩
          · exact absurd (e1.symm.trans e2) hxy
          · exact h8 a a2 b b2 y m1 m2 e
      · exact (sw_l hw2 hg hi ci nj cj e).elim
    · rcases swp_case hw2 hxy hg k with ⟨j, hj, cj⟩ | ⟨nj, cj⟩
      · exact (sw_l hw2 hg hj cj ni ci e.symm).elim
      · exact h8 a a2 b b2 z ci cj e
theorem swp_g (hw : NWf N) (hxy : x ≠ y) (hg : ct N g y = none) {a b : Nat} (h : nC (swp N x y g) a = some (b, x)) : b / nL N ≠ g := by
  intro e
  rcases swp_case hw hxy hg h with ⟨k, hk, ⟨_, hm, e2⟩ | ⟨_, hm, e2⟩⟩ | ⟨hn, hm⟩
  · exact hxy e2
  · exact ct_none hw hg a b hm e
  · refine hn 0 ?_
    have := ct_eq hw hm
    rw [e] at this
    exact this
theorem swp_f (hw : NWf N) (hxy : x ≠ y) (hg : ct N g y = none) {f : Nat} (hf : cf N f x = none) {a b : Nat} (h : nC (swp N x y g) a = some (b, x)) : a / nL N ≠ f := by
  intro e
  rcases swp_case hw hxy hg h with ⟨k, hk, ⟨_, hm, e2⟩ | ⟨q, hm, e2⟩⟩ | ⟨hn, hm⟩
  · exact hxy e2
  · obtain ⟨j, rfl⟩ : ∃ j, k = j + 1 := ⟨k - 1, by omega⟩
    obtain ⟨c, hc, hd⟩ := ch_prev hk
    rcases hd with ⟨q2, e3⟩ | ⟨q2, _⟩
    · obtain ⟨bc, hmc⟩ := ch_mid hc
      rw [if_pos q2] at hmc
      exact cf_none hw hf c bc hmc (e3.symm.trans e)
    · omega
  · exact cf_none hw hf a b hm e
end SW
theorem Nc_wf {N : NSt} (hw : NWf N) {a b x : Nat} (ha : a < nR N * nL N) (hb : b < nR N * nL N) (hx : x < nM N) (hd : nD N x = false) (hC : nC N a = none) (hO : ∀ a2 x2, nC N a2 ≠ some (b, x2)) (f1 : ∀ a2 b2, nC N a2 = some (b2, x) → a2 / nL N ≠ a / nL N) (f2 : ∀ a2 b2, nC N a2 = some (b2, x) → b2 / nL N ≠ b / nL N) : NWf (Nc N a (some (b, x))) := by
  have hL := LWf_take (NWf_L hw) ha hb hx (fun a2 b2 h _ => f1 a2 b2 h) (fun a2 b2 h _ => f2 a2 b2 h)
  obtain ⟨h1, h2, h3, h4, h5, h6, h7, h8⟩ := hw
  refine ⟨h1, h2, h3, fun a2 k => ?_, fun a2 b2 x2 k => ?_, fun a2 a3 b2 x2 x3 k k2 => ?_, hL.2.1, hL.2.2⟩
  · show va_up (nC N) a (some (b, x)) a2 = none
    have k' : nR N * nL N ≤ a2 := k
    rw [va_up_ne _ _ (by omega)]
    exact h4 a2 k
  · rcases up_some k with ⟨rfl, e⟩ | ⟨_, k⟩
    · cases e
      exact ⟨hb, hx, hd⟩
    · exact h5 a2 b2 x2 k
  · rcases up_some k with ⟨rfl, e⟩ | ⟨_, k'⟩
    · cases e
      rcases up_some k2 with ⟨rfl, e⟩ | ⟨_, k2⟩
      · rfl
      · exact absurd k2 (hO _ _)
    · rcases up_some k2 with ⟨rfl, e⟩ | ⟨_, k2⟩
      · cases e
        exact absurd k' (hO _ _)
      · exact h6 a2 a3 b2 x2 x3 k' k2
