theorem up_some {C : CMap} {a a2 : Nat} {v q : Nat × Nat} (h : va_up C a (some v) a2 = some q) : (a2 = a ∧ v = q) ∨ (a2 ≠ a ∧ C a2 = some q) := by
  by_cases e : a2 = a
  · subst e
    rw [show va_up C a2 (some v) a2 = some v from if_pos rfl] at h
    cases h
    exact Or.inl ⟨rfl, rfl⟩
  · rw [va_up_ne _ _ e] at h
    exact Or.inr ⟨e, h⟩
theorem LWf_take {l r m : Nat} {C : CMap} (h : LWf l r m C) {a b x : Nat} (ka : a < r * l) (kb : b < r * l) (kx : x < m) (f1 : ∀ a2 b2, C a2 = some (b2, x) → a2 ≠ a → a2 / l ≠ a / l) (f2 : ∀ a2 b2, C a2 = some (b2, x) → a2 ≠ a → b2 / l ≠ b / l) : LWf l r m (va_up C a (some (b, x))) := by
  refine ⟨fun a2 b2 x2 k => ?_, fun a2 a3 b2 b3 x2 k k2 q => ?_, fun a2 a3 b2 b3 x2 k k2 q => ?_⟩
  · rcases up_some k with ⟨rfl, e⟩ | ⟨_, k⟩
    · cases e
      exact ⟨ka, kb, kx⟩
    · exact h.1 a2 b2 x2 k
  · rcases up_some k with ⟨rfl, e⟩ | ⟨n1, k'⟩
    · cases e
      rcases up_some k2 with ⟨rfl, e⟩ | ⟨n2, k2⟩
      · rfl
      · exact absurd q.symm (f1 a3 b3 k2 n2)
    · rcases up_some k2 with ⟨rfl, e⟩ | ⟨n2, k2⟩
      · cases e
        exact absurd q (f1 a2 b2 k' n1)
      · exact h.2.1 a2 a3 b2 b3 x2 k' k2 q
  · rcases up_some k with ⟨rfl, e⟩ | ⟨n1, k'⟩
    · cases e
      rcases up_some k2 with ⟨rfl, e⟩ | ⟨n2, k2⟩
      · rfl
      · exact absurd q.symm (f2 a3 b3 k2 n2)
    · rcases up_some k2 with ⟨rfl, e⟩ | ⟨n2, k2⟩
      · cases e
        exact absurd q (f2 a2 b2 k' n1)
      · exact h.2.2 a2 a3 b2 b3 x2 k' k2 q
theorem LRep_take {l r m : Nat} {C : CMap} {t6 t8 t9 : Nat → Int32} (h : LRep l r m C t6 t8 t9) {a b x : Nat} (hC : C a = none) (ka : a < r * l) (kb : b < r * l) : LRep l r m (va_up C a (some (b, x))) (upd t6 a (nI x)) (upd t8 (x * r + a / l) (nI a)) (upd t9 (x * r + b / l) (nI a)) := by
  obtain ⟨h6, h8, h9⟩ := h
  have es : va_up C a (some (b, x)) a = some (b, x) := if_pos rfl
  have eo : ∀ a2 q, C a2 = some q → va_up C a (some (b, x)) a2 = some q := fun a2 q k => by
    rw [va_up_ne _ _ (fun e => by rw [e, hC] at k; cases k)]
    exact k
  refine ⟨fun a2 ha2 => ?_, fun x2 f hx2 hf => ?_, fun x2 f hx2 hf => ?_⟩
  · unfold upd
    by_cases e : a2 = a
    · rw [if_pos e, e, es]
    · rw [if_neg e, va_up_ne _ _ e]
      exact h6 a2 ha2
  · by_cases e : x2 = x ∧ f = a / l
    · obtain ⟨rfl, rfl⟩ := e
      exact Or.inr ⟨a, b, upd_same _ _ _, es, rfl⟩
    · rw [upd_other _ _ (fun q => e (idx_inj hf (div_sw ka) q))]
      rcases h8 x2 f hx2 hf with ⟨k1, k2⟩ | ⟨a2, b2, k1, k2, k3⟩
      · refine Or.inl ⟨k1, fun a2 b2 k q => ?_⟩
        rcases up_some k with ⟨rfl, e2⟩ | ⟨_, k⟩
        · cases e2
          exact e ⟨rfl, q.symm⟩
        · exact k2 a2 b2 k q
      · exact Or.inr ⟨a2, b2, k1, eo _ _ k2, k3⟩
  · by_cases e : x2 = x ∧ f = b / l
    · obtain ⟨rfl, rfl⟩ := e
      exact Or.inr ⟨a, b, upd_same _ _ _, es, rfl⟩
    · rw [upd_other _ _ (fun q => e (idx_inj hf (div_sw kb) q))]
      rcases h9 x2 f hx2 hf with ⟨k1, k2⟩ | ⟨a2, b2, k1, k2, k3⟩
      · refine Or.inl ⟨k1, fun a2 b2 k q => ?_⟩
        rcases up_some k with ⟨rfl, e2⟩ | ⟨_, k⟩
        · cases e2
          exact e ⟨rfl, q.symm⟩
        · exact k2 a2 b2 k q
      · exact Or.inr ⟨a2, b2, k1, eo _ _ k2, k3⟩
section LKC
variable {N : NSt} {ln : Nat → Nat} {t : St}
theorem c_link (hw : NWf N) {s : St} (h1 : sF s 1 = nI (nL N)) (h2 : sF s 2 = nI (nR N)) {x y : Nat} (hy : y < nR N * nL N) {Q : Int32 → Prop} (h : Q (nI (x * nR N + y / nL N))) : pX1_link ln s (nI x) (nI y) Q := by
  have k1 := hw.2.1
  have k2 := rn_le hw
  unfold pX1_link
  rw [h1, h2, nI_mul, nI_div (by omega) (by omega), nI_add]
  exact ⟨nI_ne0 (by omega) (by omega), h⟩
theorem c_leave (hw : NWf N) (hb : BRep N ln t) {C : CMap} (hC : LWf (nL N) (nR N) (nM N) C) (hl : LRep (nL N) (nR N) (nM N) C (sA t 6) (sA t 8) (sA t 9)) {a b x : Nat} (ha : C a = some (b, x)) (h5 : sA t 5 a = nI b) {Q : St → Prop} (h : ∀ t8 t9 t6, LRep (nL N) (nR N) (nM N) (va_up C a none) t6 t8 t9 → Q (uA (uA (uA t 8 t8) 9 t9) 6 t6)) : pX1_leaveLinks ln t (nI a) Q := by
  obtain ⟨ka, kb, kx⟩ := hC.1 a b x ha
  obtain ⟨⟨f0, f1, f2, f3, f4, f5⟩, ⟨g4, g5, g6, g7, g8, g9, _⟩, _⟩ := hb
  have k2 := rn_le hw
  have k3 := hw.1
  have k4 := hw.2.2.1
  have k5 : nM N * nR N ≤ 72 := Nat.mul_le_mul k3.2 k4.2
  have hi1 := idx_lt kx (div_sw ka)
  have hi2 := idx_lt kx (div_sw kb)
  have e6 : sA t 6 a = nI x := by
    have := hl.1 a ka
    rw [ha] at this
    exact this
  unfold pX1_leaveLinks
  rw [g5, g6, g8, g9, nI_clamp (by omega), e6]
  refine ⟨vp_in_nI ka (by omega), c_link hw f1 f2 ka ⟨vp_in_nI hi1 (by omega), ?_⟩⟩
  rintro _ rfl
  refine ⟨vp_in_nI ka (by omega), vp_in_nI ka (by omega), ?_⟩
  show pX1_link ln (uA t 8 _) (sA t 6 a) (sA t 5 a) _
  rw [e6, h5]
  refine c_link hw (by exact f1) (by exact f2) kb ?_
  refine ⟨vp_in_nI hi2 (by omega), ?_⟩
  rintro _ rfl
  refine ⟨vp_in_nI ka (by omega), ?_⟩
  rintro _ rfl
  rw [nI_clamp (by omega), nI_clamp (by omega)]
  exact h _ _ _ (LRep_leave hC hl ha)
theorem c_take (hw : NWf N) (hb : BRep N ln t) {C : CMap} (hl : LRep (nL N) (nR N) (nM N) C (sA t 6) (sA t 8) (sA t 9)) {a b x : Nat} (ha : C a = none) (h5 : sA t 5 a = nI b) (ka : a < nR N * nL N) (kb : b < nR N * nL N) (kx : x < nM N) {Q : St → Prop} (h : ∀ t8 t9 t6, LRep (nL N) (nR N) (nM N) (va_up C a (some (b, x))) t6 t8 t9 → Q (uA (uA (uA t 6 t6) 8 t8) 9 t9)) : pX1_takeLinks ln t (nI a) (nI x) Q := by
  obtain ⟨⟨f0, f1, f2, f3, f4, f5⟩, ⟨g4, g5, g6, g7, g8, g9, _⟩, _⟩ := hb
  have k2 := rn_le hw
  have k3 := hw.1
  have k4 := hw.2.2.1
  have k5 : nM N * nR N ≤ 72 := Nat.mul_le_mul k3.2 k4.2
  have hi1 := idx_lt kx (div_sw ka)
  have hi2 := idx_lt kx (div_sw kb)
  unfold pX1_takeLinks
  rw [g5, g6, g8, g9, nI_clamp (by omega)]
  refine ⟨vp_in_nI ka (by omega), ?_⟩
  rintro _ rfl
  refine c_link hw (by exact f1) (by exact f2) ka ?_
  refine ⟨vp_in_nI hi1 (by omega), ?_⟩
  rintro _ rfl
  refine ⟨vp_in_nI ka (by omega), ?_⟩
  show pX1_link ln (uA (uA t 6 _) 8 _) (nI x) (sA t 5 a) _
  rw [h5]
  refine c_link hw (by exact f1) (by exact f2) kb ?_
  refine ⟨vp_in_nI hi2 (by omega), ?_⟩
  rintro _ rfl
  rw [nI_clamp (by omega), nI_clamp (by omega)]
  exact h _ _ _ (LRep_take hl ha ka kb)
end LKC
