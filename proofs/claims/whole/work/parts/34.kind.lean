/-- a loop that counts: an accumulator and a counter -/
theorem lp_cnt {α : Type} {B : (α × Int32 → Prop) → α × Int32 → Prop} (N : Nat) (hN : N < 2 ^ 31) (acc : Nat → α) (hstep : ∀ (k : Nat) (K : α × Int32 → Prop), k < N → K (acc (k + 1), nI (k + 1)) → B K (acc k, nI k)) (hend : ∀ K : α × Int32 → Prop, B K (acc N, nI N)) : lp B (acc 0, 0) := by
  refine lp_of (I := fun q => ∃ k, k ≤ N ∧ q = (acc k, nI k)) (μ := fun q => N - q.2.toNatClampNeg) ?_ (acc 0, 0) ⟨0, by omega, rfl⟩
  rintro q ⟨k, hk, rfl⟩ K hK
  by_cases e : k = N
  · subst e
    exact hend K
  · refine hstep k K (by omega) (hK _ ⟨k + 1, by omega, rfl⟩ ?_)
    show N - (nI (k + 1)).toNatClampNeg < N - (nI k).toNatClampNeg
    rw [nI_clamp (by omega), nI_clamp (by omega)]
    omega
theorem cnt_le (f : Nat → Bool) : ∀ k, cnt f k ≤ k
  | 0 => Nat.le_refl 0
  | k + 1 => by
    have := cnt_le f k
    unfold cnt
    split <;> omega
theorem ix12 (i j : Nat) : ((12 : Int32) * nI i) + nI j = nI (12 * i + j) := by
  rw [show (12 : Int32) = nI 12 from rfl, nI_mul, nI_add]
theorem ix36 (i j : Nat) : ((36 : Int32) * nI i) + nI j = nI (36 * i + j) := by
  rw [show (36 : Int32) = nI 36 from rfl, nI_mul, nI_add]
def alv (N : NSt) : Nat := cnt (fun x => !nD N x) (nM N)
def cls (N : NSt) : Nat := cnt (fun a => (nC N a).isSome) (nR N * nL N)
theorem alv_le (N : NSt) : alv N ≤ nM N := cnt_le _ _
def kdN (N : NSt) : Int32 := if 2 * nL N - 1 ≤ alv N then 2 else if nL N ≤ alv N then 1 else if alv N = 1 then 3 else 0
theorem m_alive {N : NSt} {p : Nat} (hp : p < 6) {M : St} (hw : NWf N) (hm : MRep N p (sA M 5) (sA M 6) (sA M 7) (sA M 8) (sA M 9) (sA M 10)) {Q : Int32 → Prop} (h : Q (nI (alv N))) : pX6_alive M (nI p) Q := by
  obtain ⟨⟨m1, m2, m3⟩, m4, m5, m6⟩ := hm
  have hM := hw.1
  unfold pX6_alive lX6_alive_4
  refine lp_cnt (nM N) (by omega) (fun k => nI (cnt (fun x => !nD N x) k)) (fun k K hk hK => ?_) (fun K => ?_)
  · show bX6_alive_4 M (nI p) _ _ (nI _) (nI k)
    unfold bX6_alive_4
    rw [cl6 hp, m1, ix12, nI_clamp (by omega), m4 k hk]
    refine ⟨in6 hp, fun q => absurd q (nI_ge hk (by omega)), fun _ => ⟨vp_in_nI (by omega) (by omega), fun q => ?_, fun q => ?_⟩⟩
    · rintro _ rfl _ rfl
      have e : nD N k = false := by
        cases hd : nD N k
        · rfl
        · rw [hd] at q; exact absurd q (by decide)
      rw [show nI k + 1 = nI (k + 1) from nI_add k 1, show nI (cnt (fun x => !nD N x) k) + 1 = nI (cnt (fun x => !nD N x) (k + 1)) from by
        rw [show (1 : Int32) = nI 1 from rfl, nI_add]; show _ = nI (cnt (fun x => !nD N x) k + (if (!nD N k) = true then 1 else 0)); rw [e]; rfl]
      exact hK
    · rintro _ rfl _ rfl
      have e : nD N k = true := by
        cases hd : nD N k
        · rw [hd] at q; exact absurd rfl q
        · rfl
      rw [show nI k + 1 = nI (k + 1) from nI_add k 1, show nI (cnt (fun x => !nD N x) k) + 0 = nI (cnt (fun x => !nD N x) (k + 1)) from by
        rw [show (0 : Int32) = nI 0 from rfl, nI_add]; show _ = nI (cnt (fun x => !nD N x) k + (if (!nD N k) = true then 1 else 0)); rw [e]; rfl]
      exact hK
  · show bX6_alive_4 M (nI p) _ _ (nI _) (nI _)
    unfold bX6_alive_4
    rw [cl6 hp, m1]
    exact ⟨in6 hp, fun _ => h, fun q => absurd (nI_le (Nat.le_refl _) (by omega)) q⟩
theorem kd_cases {N : NSt} (hw : NWf N) {Q : Int32 → Prop} (h : Q (kdN N)) : (nI (alv N) < ((2 : Int32) * nI (nL N)) - 1 → (nI (alv N) < nI (nL N) → (nI (alv N) = 1 → Q 3) ∧ (¬ nI (alv N) = 1 → Q 0)) ∧ (¬ nI (alv N) < nI (nL N) → Q 1)) ∧ (¬ nI (alv N) < ((2 : Int32) * nI (nL N)) - 1 → Q 2) := by
  have h1 := hw.1
  have h2 := hw.2.1
  have h3 := alv_le N
  rw [show (2 : Int32) = nI 2 from rfl, nI_mul, show (1 : Int32) = nI 1 from rfl, nI_sub (by omega), nI_ltI (by omega) (by omega), nI_ltI (by omega) (by omega), nI_eq (by omega) (by omega)]
  unfold kdN at h
  refine ⟨fun q1 => ⟨fun q2 => ⟨fun q3 => ?_, fun q3 => ?_⟩, fun q2 => ?_⟩, fun q1 => ?_⟩
  · rw [if_neg (by omega), if_neg (by omega), if_pos q3] at h; exact h
  · rw [if_neg (by omega), if_neg (by omega), if_neg q3] at h; exact h
  · rw [if_neg (by omega), if_pos (by omega)] at h; exact h
  · rw [if_pos (by omega)] at h; exact h
theorem c_kind {N : NSt} {l : Nat → Nat} {t : St} (hw : NWf N) (hc : CRep N l t) {Q : Int32 → Prop} (h : Q (kdN N)) : pX1_toldKind l t Q := by
  unfold pX1_toldKind
  rw [hc.1.2.2.2.2.1, hc.1.2.1]
  exact kd_cases hw h
theorem m_kind {N : NSt} {p : Nat} (hp : p < 6) {M : St} (hw : NWf N) (hm : MRep N p (sA M 5) (sA M 6) (sA M 7) (sA M 8) (sA M 9) (sA M 10)) {Q : Int32 → Prop} (h : Q (kdN N)) : pX6_kindOf M (nI p) Q := by
  unfold pX6_kindOf
  refine m_alive hp hw hm ?_
  rw [cl6 hp, hm.1.2.1]
  have k := kd_cases hw h
  exact ⟨in6 hp, fun q => ⟨in6 hp, k.1 q⟩, k.2⟩
def caF (told of : Int32) : Int32 := if of = 0 ∨ told = of ∨ (of = 1 ∧ told = 2) then 1 else 0
theorem caF_iff {a b : Int32} {Q : Int32 → Prop} : pX5_countsAs a b Q ↔ Q (caF a b) := by
  unfold pX5_countsAs caF
  by_cases h1 : b = a
  · rw [if_pos (Or.inr (Or.inl h1.symm))]
    exact ⟨fun h => h.1 h1, fun h => ⟨fun _ => h, fun q => absurd h1 q⟩⟩
  · by_cases h2 : b = 0
    · rw [if_pos (Or.inl h2)]
      exact ⟨fun h => (h.2 h1).1 h2, fun h => ⟨fun q => absurd q h1, fun _ => ⟨fun _ => h, fun q => absurd h2 q⟩⟩⟩
    · by_cases h3 : b = 1
      · by_cases h4 : a = 2
        · rw [if_pos (Or.inr (Or.inr ⟨h3, h4⟩))]
          exact ⟨fun h => ((h.2 h1).2 h2).1 h3 |>.1 h4, fun h => ⟨fun q => absurd q h1, fun _ => ⟨fun q => absurd q h2, fun _ => ⟨fun _ => ⟨fun _ => h, fun q => absurd h4 q⟩, fun q => absurd h3 q⟩⟩⟩⟩
        · rw [if_neg (by rintro (q | q | q); exact h2 q; exact h1 q.symm; exact h4 q.2)]
          exact ⟨fun h => ((h.2 h1).2 h2).1 h3 |>.2 h4, fun h => ⟨fun q => absurd q h1, fun _ => ⟨fun q => absurd q h2, fun _ => ⟨fun _ => ⟨fun q => absurd q h4, fun _ => h⟩, fun q => absurd h3 q⟩⟩⟩⟩
      · rw [if_neg (by rintro (q | q | q); exact h2 q; exact h1 q.symm; exact h3 q.1)]
        exact ⟨fun h => ((h.2 h1).2 h2).2 h3, fun h => ⟨fun q => absurd q h1, fun _ => ⟨fun q => absurd q h2, fun _ => ⟨fun q => absurd q h3, fun _ => h⟩⟩⟩⟩
theorem isOf_iff {a b : Int32} {Q : Int32 → Prop} : pX6_isOf a b Q ↔ Q (caF a b) := by
  unfold pX6_isOf caF
  by_cases h2 : b = 0
  · rw [if_pos (Or.inl h2)]
    exact ⟨fun h => h.1 h2, fun h => ⟨fun _ => h, fun q => absurd h2 q⟩⟩
  · by_cases h1 : a = b
    · rw [if_pos (Or.inr (Or.inl h1))]
      exact ⟨fun h => (h.2 h2).1 h1, fun h => ⟨fun q => absurd q h2, fun _ => ⟨fun _ => h, fun q => absurd h1 q⟩⟩⟩
    · by_cases h3 : b = 1
      · by_cases h4 : a = 2
        · rw [if_pos (Or.inr (Or.inr ⟨h3, h4⟩))]
          exact ⟨fun h => ((h.2 h2).2 h1).1 h3 |>.1 h4, fun h => ⟨fun q => absurd q h2, fun _ => ⟨fun q => absurd q h1, fun _ => ⟨fun _ => ⟨fun _ => h, fun q => absurd h4 q⟩, fun q => absurd h3 q⟩⟩⟩⟩
        · rw [if_neg (by rintro (q | q | q); exact h2 q; exact h1 q; exact h4 q.2)]
          exact ⟨fun h => ((h.2 h2).2 h1).1 h3 |>.2 h4, fun h => ⟨fun q => absurd q h2, fun _ => ⟨fun q => absurd q h1, fun _ => ⟨fun _ => ⟨fun q => absurd q h4, fun _ => h⟩, fun q => absurd h3 q⟩⟩⟩⟩
      · rw [if_neg (by rintro (q | q | q); exact h2 q; exact h1 q; exact h3 q.1)]
        exact ⟨fun h => ((h.2 h2).2 h1).2 h3, fun h => ⟨fun q => absurd q h2, fun _ => ⟨fun q => absurd q h1, fun _ => ⟨fun q => absurd q h3, fun _ => h⟩⟩⟩⟩
theorem net_at {g : Nat → Option Ob} {md ln ou dd out by_ : Nat → Int32} (h : RN g md ln ou dd out by_) {p : Nat} (hp : p < 6) : (g p = none ∧ md p = 0) ∨ ∃ o a l t N, g p = some (o, a, l, t) ∧ NWf N ∧ CRep N l t ∧ MRep N p md ln ou dd out by_ := by
  have := h p hp
  cases hg : g p with
  | none => rw [hg] at this; exact Or.inl ⟨rfl, this⟩
  | some z =>
    rw [hg] at this
    obtain ⟨o, a, l, t⟩ := z
    obtain ⟨N, h1, h2, h3⟩ := this
    exact Or.inr ⟨o, a, l, t, N, rfl, h1, h2, h3⟩
theorem m_pos {N : NSt} (hw : NWf N) : ¬ nI (nM N) ≤ 0 := nI_nle (by have := hw.1; omega) (by have := hw.1; omega)
theorem m_ne0 {N : NSt} (hw : NWf N) : ¬ nI (nM N) = 0 := nI_ne0 (by have := hw.1; omega) (by have := hw.1; omega)
