/-! the parts of a table, one by one; the class finds them -/
def mnF (b : Nat) (A : Nat → Nat → Nat) (r : Nat → Nat) : Nat → Nat
  | 0 => b
  | k + 1 => min (A k (r k)) (mnF b A r k)
def dcr (A : Nat → Nat → Nat) (r : Nat → Nat) (n i j : Nat) : Nat := if j = r i then A i j - n else A i j
noncomputable def lst (s : Nat) (A : Nat → Nat → Nat) : Nat → Nat := Classical.epsilon (isL s A)
theorem lst_is {s : Nat} {A : Nat → Nat → Nat} {q : Nat → Nat} (h : isL s A q) : isL s A (lst s A) ∧ ∀ i, i < s → q i = lst s A i := by
  have h2 : isL s A (lst s A) := Classical.epsilon_spec (p := isL s A) ⟨q, h⟩
  exact ⟨h2, isL_eq h h2⟩
theorem mnF_congr {b : Nat} {A : Nat → Nat → Nat} {r q : Nat → Nat} : ∀ {k : Nat}, (∀ i, i < k → r i = q i) → mnF b A r k = mnF b A q k
  | 0, _ => rfl
  | k + 1, h => by
    show min (A k (r k)) (mnF b A r k) = min (A k (q k)) (mnF b A q k)
    rw [h k (by omega), mnF_congr (k := k) (fun i hi => h i (by omega))]
theorem mnF_le {b : Nat} {A : Nat → Nat → Nat} {r : Nat → Nat} : ∀ {k : Nat}, mnF b A r k ≤ b ∧ ∀ i, i < k → mnF b A r k ≤ A i (r i)
  | 0 => ⟨Nat.le_refl _, fun i hi => absurd hi (Nat.not_lt_zero _)⟩
  | k + 1 => by
    obtain ⟨h1, h2⟩ := mnF_le (b := b) (A := A) (r := r) (k := k)
    have e : mnF b A r (k + 1) = min (A k (r k)) (mnF b A r k) := rfl
    refine ⟨by omega, fun i hi => ?_⟩
    by_cases q : i = k
    · rw [q]
      omega
    · have := h2 i (by omega)
      omega
theorem mnF_at {b : Nat} {A : Nat → Nat → Nat} {r : Nat → Nat} : ∀ {k : Nat}, mnF b A r k = b ∨ ∃ i, i < k ∧ mnF b A r k = A i (r i)
  | 0 => Or.inl rfl
  | k + 1 => by
    have e : mnF b A r (k + 1) = min (A k (r k)) (mnF b A r k) := rfl
    rcases mnF_at (b := b) (A := A) (r := r) (k := k) with h | ⟨i, h1, h2⟩
    · by_cases q : A k (r k) ≤ b
      · exact Or.inr ⟨k, by omega, by omega⟩
      · exact Or.inl (by omega)
    · by_cases q : A k (r k) ≤ mnF b A r k
      · exact Or.inr ⟨k, by omega, by omega⟩
      · exact Or.inr ⟨i, by omega, by omega⟩
noncomputable def sq (s : Nat) (A : Nat → Nat → Nat) : Nat → (Nat → Nat → Nat)
  | 0 => A
  | p + 1 => dcr (sq s A p) (lst s (sq s A p)) (mnF 1000 (sq s A p) (lst s (sq s A p)) s)
def bnd (s : Nat) (A : Nat → Nat → Nat) : Prop := ∀ i j, i < s → j < s → A i j ≤ 1000
theorem dcr_le (A : Nat → Nat → Nat) (r : Nat → Nat) (n i j : Nat) : dcr A r n i j ≤ A i j := by
  unfold dcr
  split <;> omega
theorem sq_b {s : Nat} {A : Nat → Nat → Nat} (h : bnd s A) : ∀ p, bnd s (sq s A p)
  | 0 => h
  | p + 1 => fun i j hi hj => Nat.le_trans (dcr_le _ _ _ _ _) (sq_b h p i j hi hj)
section FO
variable {s : Nat} {A : Nat → Nat → Nat}
def row2 (s : Nat) (A : Nat → Nat → Nat) (P : St) : Prop := ∀ i j, i < s → j < s → sA P (10 + i) j = nI (A i j)
theorem c_fo (hs : s ≤ 6) (hb : bnd s A) : ∀ (n row : Nat) (P : St) (mm : Int32) (p : Nat → Nat) (Q : Int32 → St → Prop), s < n + row → row ≤ s → row2 s A P → (∀ i, i < row → sA P 0 i = nI (p i)) → (∀ i, i < row → p i < s ∧ 0 < A i (p i)) → (∀ i j, i < row → j < row → p i = p j → i = j) → (∀ w, w < s → (bt mm w = true ↔ ∃ i, i < row ∧ p i = w)) → ((∀ q, prm s q → pos s A q → (∀ i, i < row → q i = p i) → False) → ∀ f, (∀ i, i < row → f i = nI (p i)) → Q 0 (uA P 0 f)) → (∀ q f, prm s q → pos s A q → (∀ i, i < row → q i = p i) → (∀ q2, prm s q2 → pos s A q2 → (∀ i, i < row → q2 i = p i) → ¬ lxl s q2 q) → (∀ i, i < s → f i = nI (q i)) → Q 1 (uA P 0 f)) → pnX2_findOrder n P (nI row) mm (nI s) Q
  | 0, row, P, mm, p, Q, hn, hrow, _, _, _, _, _, _, _ => absurd hn (by omega)
  | n + 1, row, P, mm, p, Q, hn, hrow, hA, hp, hpos, hinj, hmm, h0, h1 => by
    show pbX2_findOrder (pnX2_findOrder n) P (nI row) mm (nI s) Q
    unfold pbX2_findOrder
    refine ⟨fun q => ?_, fun q => ?_⟩
    · have hrs : row < s := (nI_ltI (by omega) (by omega)).mp q
      have vr : vp_in (nI row) 6 := vp_in_nI (by omega) (by omega)
      unfold lX2_findOrder_10
      refine lp_of (I := fun q => ∃ c f, c ≤ s ∧ q = (uA P 0 f, nI c) ∧ (∀ i, i < row → f i = nI (p i)) ∧ ∀ q, prm s q → pos s A q → (∀ i, i < row → q i = p i) → q row < c → False) (μ := fun q => s - q.2.toNatClampNeg) ?_ _ ⟨0, sA P 0, by omega, by rw [uA_self]; rfl, hp, fun q _ _ _ h => absurd h (Nat.not_lt_zero _)⟩
      rintro q ⟨c, f, hc, rfl, hf, hno⟩ K hK
      show bX2_findOrder_10 (pnX2_findOrder n) (nI row) mm (nI s) _ _ _ (uA P 0 f) (nI c)
      unfold bX2_findOrder_10
      by_cases e : c = s
      · subst e
        exact ⟨fun _ => h0 (fun q q1 q2 q3 => hno q q1 q2 q3 (q1.1 row hrs)) f hf, fun q => absurd (nI_le (Nat.le_refl _) (by omega)) q⟩
      · have hcs : c < s := by omega
        have next : ∀ f2, (∀ i, i < row → f2 i = nI (p i)) → (∀ q, prm s q → pos s A q → (∀ i, i < row → q i = p i) → q row = c → False) → K (uA P 0 f2, nI (c + 1)) := by
          intro f2 hf2 hno2
          refine hK _ ⟨c + 1, f2, by omega, rfl, hf2, fun q q1 q2 q3 q4 => ?_⟩ ?_
          · by_cases q5 : q row = c
            · exact hno2 q q1 q2 q3 q5
            · exact hno q q1 q2 q3 (by omega)
          · show s - (nI (c + 1)).toNatClampNeg < s - (nI c).toNatClampNeg
            rw [nI_clamp (by omega), nI_clamp (by omega)]
            omega
        have hbit := bit_iff mm (w := c) (by omega)
        have vc : vp_in (nI c) 6 := vp_in_nI (by omega) (by omega)
        refine ⟨fun q => absurd q (nI_ge hcs (by omega)), fun _ => ⟨fun q => ?_, fun q => ?_⟩⟩
        · unfold jX2_findOrder_31
          refine ⟨fun q2 => absurd q2 (by decide), fun _ => ?_⟩
          rw [nI_s1]
          rintro _ rfl
          obtain ⟨i, hi, ei⟩ := (hmm c hcs).mp (hbit.mp q)
          refine next f hf (fun q q1 q2 q3 q4 => ?_)
          have := q1.2 i row (by omega) hrs (by rw [q3 i hi, ei, q4])
          omega
        · have hfree : ¬ ∃ i, i < row ∧ p i = c := fun q2 => q (hbit.mpr ((hmm c hcs).mpr q2))
          have hAe : sA (uA P 0 f) (10 + row) c = nI (A row c) := by
            rw [sA_uA, if_neg (by omega)]
            exact hA row c hrs hcs
          have hbA := hb row c hrs hcs
          unfold jX2_findOrder_31
          refine ⟨fun _ => ⟨vr, vc, ?_⟩, fun q2 => absurd rfl q2⟩
          rw [nI_clamp (show row < 2 ^ 31 by omega), nI_clamp (show c < 2 ^ 31 by omega), hAe, nI_s1, nI_s1]
          refine ⟨fun q2 => ?_, fun q2 => ⟨vr, ?_⟩⟩
          · rintro _ rfl
            have hz : A row c ≤ 0 := (nI_leI (b := 0) (by omega) (by omega)).mp q2
            refine next f hf (fun q q1 q2 q3 q4 => ?_)
            have := q2 row hrs
            rw [q4] at this
            omega
          · have hz : 0 < A row c := by
              refine Nat.pos_of_ne_zero (fun q3 => q2 ?_)
              rw [q3]
              exact Int32.le_refl _
            have pn : ∀ i, i < row → upN p row c i = p i := fun i hi => upN_o _ _ (by omega)
            have pr : upN p row c row = c := upN_s _ _ _
            rintro _ rfl
            have eu : uA (uA P 0 f) 0 (upd (sA (uA P 0 f) 0) row (nI c)) = uA P 0 (upd f row (nI c)) := by rw [uA_uA]; rfl
            rw [eu]
            refine c_fo hs hb n (row + 1) _ _ (upN p row c) _ (by omega) (by omega) (fun i j hi hj => ?_) (fun i hi => ?_) (fun i hi => ?_) (fun i j hi hj q3 => ?_) (fun w hw => ?_) (fun hn2 f2 hf2 => ?_) (fun q f2 q1 q2 q3 q4 q5 => ?_)
            · rw [sA_uA, if_neg (by omega)]
              exact hA i j hi hj
            · show upd f row (nI c) i = nI (upN p row c i)
              by_cases q3 : i = row
              · rw [q3, upd_same, pr]
              · rw [upd_other _ _ q3, pn i (by omega)]
                exact hf i (by omega)
            · by_cases q3 : i = row
              · rw [q3, pr]
                exact ⟨hcs, hz⟩
              · rw [pn i (by omega)]
                exact hpos i (by omega)
            · by_cases i0 : i = row
              · by_cases j0 : j = row
                · omega
                · rw [i0, pr, pn j (by omega)] at q3
                  exact absurd ⟨j, by omega, q3.symm⟩ hfree
              · by_cases j0 : j = row
                · rw [j0, pr, pn i (by omega)] at q3
                  exact absurd ⟨i, by omega, q3⟩ hfree
                · rw [pn i (by omega), pn j (by omega)] at q3
                  exact hinj i j (by omega) (by omega) q3
            · rw [bit_or mm (by omega) (by omega), Bool.or_eq_true, hmm w hw, decide_eq_true_eq]
              constructor
              · rintro (⟨i, hi, q3⟩ | q3)
                · exact ⟨i, by omega, by rw [pn i hi]; exact q3⟩
                · exact ⟨row, by omega, by rw [pr]; exact q3.symm⟩
              · rintro ⟨i, hi, q3⟩
                by_cases i0 : i = row
                · rw [i0, pr] at q3
                  exact Or.inr q3.symm
                · rw [pn i (by omega)] at q3
                  exact Or.inl ⟨i, by omega, q3⟩
            · refine ⟨fun _ => ?_, fun q3 => absurd rfl q3⟩
              rintro _ rfl
              rw [uA_uA]
              refine next f2 (fun i hi => by rw [hf2 i (by omega), pn i hi]) (fun q q1 q2 q3 q4 => ?_)
              refine hn2 q q1 q2 (fun i hi => ?_)
              by_cases i0 : i = row
              · rw [i0, pr]
                exact q4
              · rw [pn i (by omega)]
                exact q3 i (by omega)
            · refine ⟨fun q6 => absurd q6 (by decide), fun _ => ?_⟩
              rw [uA_uA]
              have qr : q row = c := by
                rw [q3 row (by omega), pr]
              have qe : ∀ i, i < row → q i = p i := fun i hi => by rw [q3 i (by omega), pn i hi]
              refine h1 q f2 q1 q2 qe (fun q7 r1 r2 r3 r4 => ?_) q5
              rcases Nat.lt_trichotomy (q7 row) c with g | g | g
              · exact hno q7 r1 r2 r3 g
              · refine q4 q7 r1 r2 (fun i hi => ?_) r4
                by_cases i0 : i = row
                · rw [i0, pr]
                  exact g
                · rw [pn i (by omega)]
                  exact r3 i (by omega)
              · obtain ⟨d, d1, d2, d3⟩ := r4
                rcases Nat.lt_trichotomy d row with g2 | g2 | g2
                · rw [r3 d g2, qe d g2] at d3
                  omega
                · rw [g2, qr] at d3
                  omega
                · have := d2 row g2
                  rw [qr] at this
                  omega
    · have hrs : row = s := by
        have : ¬ row < s := fun q2 => q ((nI_ltI (by omega) (by omega)).mpr q2)
        omega
      subst hrs
      have := h1 p (sA P 0) ⟨fun i hi => (hpos i hi).1, hinj⟩ (fun i hi => (hpos i hi).2) (fun _ _ => rfl) (fun q2 _ _ r3 ⟨d, d1, d2, d3⟩ => by
        rw [r3 d d1] at d3
        omega) hp
      rw [uA_self] at this
      exact this
theorem c_find {P : St} (hs : s ≤ 6) (hb : bnd s A) (hA : row2 s A P) {Q : Int32 → St → Prop} (h0 : (∀ q, prm s q → pos s A q → False) → ∀ f, Q 0 (uA P 0 f)) (h1 : ∀ q f, isL s A q → (∀ i, i < s → f i = nI (q i)) → Q 1 (uA P 0 f)) : pX2_findOrder P 0 0 (nI s) Q := by
  unfold pX2_findOrder
  refine c_fo hs hb 8 0 P 0 (fun _ => 0) Q (by omega) (by omega) hA (fun i hi => absurd hi (Nat.not_lt_zero _)) (fun i hi => absurd hi (Nat.not_lt_zero _)) (fun i j hi => absurd hi (Nat.not_lt_zero _)) (fun w hw => ?_) (fun hn f _ => h0 (fun q q1 q2 => hn q q1 q2 (fun i hi => absurd hi (Nat.not_lt_zero _))) f) (fun q f q1 q2 _ q4 q5 => h1 q f ⟨q1, q2, fun q6 r1 r2 => q4 q6 r1 r2 (fun i hi => absurd hi (Nat.not_lt_zero _))⟩ q5)
  rw [b_0]
  exact ⟨fun q => (nomatch q), fun ⟨i, hi, _⟩ => absurd hi (Nat.not_lt_zero _)⟩
theorem c_off {P : St} {r : Nat → Nat} (hs : s ≤ 6) (hb : bnd s A) (hA : row2 s A P) (h3 : sF P 3 = nI s) (hr : ∀ i, i < s → r i < s) (h0 : ∀ i, i < s → sA P 0 i = nI (r i)) {Q : St → Prop} (h : ∀ P2, row2 s (dcr A r (mnF 1000 A r s)) P2 → sF P2 3 = nI s → sF P2 1 = nI (mnF 1000 A r s) → sA P2 0 = sA P 0 → Q P2) : pX2_takeOrderOff P Q := by
  have hm : ∀ k, mnF 1000 A r k ≤ 1000 := fun k => mnF_le.1
  unfold pX2_takeOrderOff
  rintro _ rfl
  unfold lX2_takeOrderOff_9
  refine lp_of (I := fun q => ∃ k, k ≤ s ∧ q = (uF P 1 (nI (mnF 1000 A r k)), nI k)) (μ := fun q => s - q.2.toNatClampNeg) ?_ _ ⟨0, by omega, rfl⟩
  rintro q ⟨k, hk, rfl⟩ K hK
  show bX2_takeOrderOff_9 _ _ (uF P 1 (nI (mnF 1000 A r k))) (nI k)
  unfold bX2_takeOrderOff_9
  rw [show sF (uF P 1 (nI (mnF 1000 A r k))) 3 = nI s from h3, nI_s1]
  by_cases e : k = s
  · subst e
    refine ⟨fun _ => ?_, fun q => absurd (nI_le (Nat.le_refl _) (by omega)) q⟩
    unfold lX2_takeOrderOff_49
    refine lp_of (I := fun q => ∃ c P2, c ≤ k ∧ q = (P2, nI c) ∧ (∀ i j, i < c → j < k → sA P2 (10 + i) j = nI (dcr A r (mnF 1000 A r k) i j)) ∧ (∀ i j, c ≤ i → i < k → j < k → sA P2 (10 + i) j = nI (A i j)) ∧ sF P2 3 = nI k ∧ sF P2 1 = nI (mnF 1000 A r k) ∧ sA P2 0 = sA P 0) (μ := fun q => k - q.2.toNatClampNeg) ?_ _ ⟨0, uF P 1 (nI (mnF 1000 A r k)), by omega, rfl, fun i j hi => absurd hi (Nat.not_lt_zero _), fun i j _ hi hj => hA i j hi hj, h3, rfl, rfl⟩
    rintro q ⟨c, P2, hc, rfl, a1, a2, a3, a4, a5⟩ K2 hK2
    show bX2_takeOrderOff_49 _ _ P2 (nI c)
    unfold bX2_takeOrderOff_49
    rw [a3, a4, a5, nI_s1]
    by_cases e : c = k
    · subst e
      exact ⟨fun _ => h P2 (fun i j hi hj => a1 i j hi hj) a3 a4 a5, fun q => absurd (nI_le (Nat.le_refl _) (by omega)) q⟩
    · have hck : c < k := by omega
      have rc := hr c hck
      have le := (mnF_le (b := 1000) (A := A) (r := r) (k := k)).2 c hck
      rw [nI_clamp (show c < 2 ^ 31 by omega), h0 c hck, nI_clamp (show r c < 2 ^ 31 by omega), a2 c (r c) (Nat.le_refl _) hck rc, nI_sub le]
      have vc : vp_in (nI c) 6 := vp_in_nI (by omega) (by omega)
      have vr : vp_in (nI (r c)) 6 := vp_in_nI (by omega) (by omega)
      refine ⟨fun q => absurd q (nI_ge hck (by omega)), fun _ => ⟨vc, vc, vr, ?_⟩⟩
      rintro _ rfl
      refine ⟨vr, ?_⟩
      rintro _ rfl _ rfl
      refine hK2 _ ⟨c + 1, _, by omega, rfl, fun i j hi hj => ?_, fun i j h1 h2 hj => ?_, a3, a4, ?_⟩ ?_
      · rw [sA_uA]
        by_cases q : i = c
        · subst q
          rw [if_pos rfl]
          unfold dcr
          by_cases q2 : j = r i
          · rw [q2, upd_same, if_pos rfl]
          · rw [upd_other _ _ q2, if_neg q2]
            exact a2 i j (Nat.le_refl _) hck hj
        · rw [if_neg (by omega)]
          exact a1 i j (by omega) hj
      · rw [sA_uA, if_neg (by omega)]
        exact a2 i j (by omega) h2 hj
      · rw [sA_uA, if_neg (by omega)]
        exact a5
      · show k - (nI (c + 1)).toNatClampNeg < k - (nI c).toNatClampNeg
        rw [nI_clamp (by omega), nI_clamp (by omega)]
        omega
  · have hks : k < s := by omega
    have rk := hr k hks
    have e0 : sA (uF P 1 (nI (mnF 1000 A r k))) 0 k = nI (r k) := h0 k hks
    have eA : sA (uF P 1 (nI (mnF 1000 A r k))) (10 + k) (r k) = nI (A k (r k)) := hA k (r k) hks rk
    have hbk := hb k (r k) hks rk
    have hmk := hm k
    rw [nI_clamp (show k < 2 ^ 31 by omega), e0, nI_clamp (show r k < 2 ^ 31 by omega), eA, show sF (uF P 1 (nI (mnF 1000 A r k))) 1 = nI (mnF 1000 A r k) from rfl, nI_min (by omega) (by omega)]
    have vk : vp_in (nI k) 6 := vp_in_nI (by omega) (by omega)
    refine ⟨fun q => absurd q (nI_ge hks (by omega)), fun _ => ⟨vk, vk, vp_in_nI (by omega) (by omega), ?_⟩⟩
    rintro _ rfl _ rfl _ rfl
    refine hK _ ⟨k + 1, by omega, ?_⟩ ?_
    · rw [uF_uF]
      rfl
    · show s - (nI (k + 1)).toNatClampNeg < s - (nI k).toNatClampNeg
      rw [nI_clamp (by omega), nI_clamp (by omega)]
      omega
theorem dcr_congr {r q : Nat → Nat} {n : Nat} (h : ∀ i, i < s → r i = q i) {i j : Nat} (hi : i < s) : dcr A r n i j = dcr A q n i j := by
  unfold dcr
  rw [h i hi]
theorem c_upTo {P : St} {w : Nat} (hs : s ≤ 6) (hw : w ≤ 36) (hb : bnd s A) (hA : row2 s A P) (h3 : sF P 3 = nI s) {Q : Int32 → St → Prop} (h : ∀ t P2, t ≤ w → (∀ p, p < t → isL s (sq s A p) (lst s (sq s A p))) → (t < w → ∀ q, prm s q → pos s (sq s A t) q → False) → (t = w → 0 < t → (∀ i, i < s → sA P2 0 i = nI (lst s (sq s A (t - 1)) i)) ∧ sF P2 1 = nI (mnF 1000 (sq s A (t - 1)) (lst s (sq s A (t - 1))) s)) → Q (nI t) P2) : pX2_takeUpTo P (nI w) Q := by
  unfold pX2_takeUpTo lX2_takeUpTo_2
  refine lp_of (I := fun q => ∃ t P2, t ≤ w ∧ q = (P2, nI t) ∧ row2 s (sq s A t) P2 ∧ sF P2 3 = nI s ∧ (∀ p, p < t → isL s (sq s A p) (lst s (sq s A p))) ∧ (0 < t → (∀ i, i < s → sA P2 0 i = nI (lst s (sq s A (t - 1)) i)) ∧ sF P2 1 = nI (mnF 1000 (sq s A (t - 1)) (lst s (sq s A (t - 1))) s))) (μ := fun q => w - q.2.toNatClampNeg) ?_ _ ⟨0, P, by omega, rfl, hA, h3, fun p hp => absurd hp (Nat.not_lt_zero _), fun q => absurd q (Nat.lt_irrefl _)⟩
  rintro q ⟨t, P2, ht, rfl, b1, b2, b3, b4⟩ K hK
  show bX2_takeUpTo_2 (nI w) _ _ P2 (nI t)
  unfold bX2_takeUpTo_2
  rw [b2, nI_s1]
  by_cases e : t = w
  · subst e
    exact ⟨fun _ => h t P2 (Nat.le_refl _) b3 (fun q => absurd q (Nat.lt_irrefl _)) (fun _ => b4), fun q => absurd (nI_le (Nat.le_refl _) (by omega)) q⟩
  · have htw : t < w := by omega
    refine ⟨fun q => absurd q (nI_ge htw (by omega)), fun _ => ?_⟩
    refine c_find hs (sq_b hb t) b1 (fun hno f => ?_) (fun q f hq hf => ?_)
    · exact ⟨fun _ => h t _ (by omega) b3 (fun _ => hno) (fun q => absurd q e), fun q => absurd rfl q⟩
    · refine ⟨fun q2 => absurd q2 (by decide), fun _ => ?_⟩
      obtain ⟨l1, l2⟩ := lst_is hq
      have hA2 : row2 s (sq s A t) (uA P2 0 f) := fun i j hi hj => by
        rw [sA_uA, if_neg (by omega)]
        exact b1 i j hi hj
      refine c_off (A := sq s A t) (r := lst s (sq s A t)) hs (sq_b hb t) hA2 b2 l1.1.1 (fun i hi => ?_) (fun P3 c1 c2 c3 c4 => ?_)
      · show f i = _
        rw [hf i hi, l2 i hi]
      · rintro _ rfl
        refine hK _ ⟨t + 1, P3, by omega, rfl, c1, c2, fun p hp => ?_, fun _ => ⟨fun i hi => ?_, c3⟩⟩ ?_
        · by_cases q2 : p = t
          · rw [q2]
            exact l1
          · exact b3 p (by omega)
        · rw [c4]
          show f i = nI (lst s (sq s A t) i)
          rw [hf i hi, l2 i hi]
        · show w - (nI (t + 1)).toNatClampNeg < w - (nI t).toNatClampNeg
          rw [nI_clamp (by omega), nI_clamp (by omega)]
          omega
end FO
