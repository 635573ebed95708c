/-! shut and count -/
def pwI (c : Int64) : Nat → Int64
  | 0 => 1
  | k + 1 => pwI c k * c
theorem l32_9 : (9 : Int32).toInt = 9 := by decide
theorem l32_10 : (10 : Int32).toInt = 10 := by decide
theorem l64_9 : (9 : Int64).toInt = 9 := by decide
theorem l64_10 : (10 : Int64).toInt = 10 := by decide
theorem nI_s1 (k : Nat) : nI k + 1 = nI (k + 1) := nI_add k 1
theorem st_21 : stepOK_21 Rel := by
  intro T M a1 a2 h
  obtain ⟨hS, hN, hA, hF⟩ := h
  simp only [pX5_shut, pX6_shut, within_iff, in_iff, forall_eq, Int32.toInt_toInt64, l32_0, l32_1, l32_9, l32_10, l64_0, l64_1, l64_9, l64_10]
  by_cases h1 : 1 ≤ a1.toInt ∧ a1.toInt ≤ 9
  · obtain ⟨n, hn, rfl⟩ := nI_rg (n := 10) (x := a1) (by omega) (by omega) (by omega)
    by_cases h2 : 0 ≤ a2.toInt ∧ a2.toInt ≤ 10
    · simp only [if_pos h1, if_pos h2, one_ne, imp_F, not_F, imp_T, true_and]
      unfold lX5_shut_44
      refine lp_cnt (α := Int64) n (by omega) (pwI (100 - ((10 - a2) * (10 - a2))).toInt64) (fun k K hk hK => ?_) (fun K => ?_)
      · show bX5_shut_44 T (nI n) _ _ _ (pwI _ k) (nI k)
        unfold bX5_shut_44
        refine ⟨fun q => absurd q (nI_ge (b := n) hk (by omega)), fun _ => ?_⟩
        rintro _ rfl _ rfl
        rw [nI_s1]
        exact hK
      · show bX5_shut_44 T (nI n) _ _ _ (pwI _ n) (nI n)
        unfold bX5_shut_44
        refine ⟨fun _ => ?_, fun q => absurd (nI_le (a := n) (Nat.le_refl _) (by omega)) q⟩
        unfold lX6_shut_38
        refine lp_cnt (α := Int64) n (by omega) (pwI (100 - ((10 - a2) * (10 - a2))).toInt64) (fun k K hk hK => ?_) (fun K => ?_)
        · show bX6_shut_38 _ (nI n) a2 _ _ (pwI _ k) (nI k)
          unfold bX6_shut_38
          refine ⟨fun q => absurd q (nI_ge (b := n) hk (by omega)), fun _ => ?_⟩
          rintro _ rfl _ rfl
          rw [nI_s1]
          exact hK
        · show bX6_shut_38 _ (nI n) a2 _ _ (pwI _ n) (nI n)
          unfold bX6_shut_38
          exact ⟨fun _ => ⟨rfl, hS, hN, hA, hF⟩, fun q => absurd (nI_le (a := n) (Nat.le_refl _) (by omega)) q⟩
    · simp only [if_pos h1, if_neg h2, one_ne, zero_eq, imp_F, not_F, not_T, imp_T, and_true, true_and]
      exact ⟨hS, hN, hA, hF⟩
  · simp only [if_neg h1, zero_eq, imp_F, not_T, imp_T, and_true, true_and]
    exact ⟨hS, hN, hA, hF⟩
/-- a sum -/
def sm (f : Nat → Int32) : Nat → Int32
  | 0 => 0
  | k + 1 => sm f k + f k
theorem lp_sum {B : (Int32 × Int32 → Prop) → Int32 × Int32 → Prop} (N : Nat) (hN : N < 2 ^ 31) (f : Nat → Int32) (hstep : ∀ (k : Nat) (K : Int32 × Int32 → Prop) (a : Int32), k < N → K (a + f k, nI (k + 1)) → B K (a, nI k)) (hend : ∀ K : Int32 × Int32 → Prop, B K (sm f N, nI N)) : lp B (0, 0) :=
  lp_cnt N hN (sm f) (fun k K hk hK => hstep k K (sm f k) hk hK) hend
def fsS (T : TS) (k : Nat) : Int32 := match tS T k with | none => 0 | some _ => 1
theorem c_countS {T : TS} {Q : Int32 → Prop} (h : Q (sm (fsS T) 8)) : pX5_countSheets T Q := by
  unfold pX5_countSheets lX5_countSheets_4
  refine lp_sum 8 (by omega) (fsS T) (fun k K a hk hK => ?_) (fun K => ?_)
  · show bX5_countSheets_4 T _ _ a (nI k)
    unfold bX5_countSheets_4
    refine ⟨fun q => absurd q (nI_ge (b := 8) hk (by omega)), fun _ => ⟨in8 hk, ?_, ?_⟩⟩
    · rw [cl8 hk]
      rintro e _ rfl
      rw [nI_s1]
      unfold fsS at hK
      rw [e] at hK
      have z : a + 0 = a := Int32.add_zero a
      rw [← z]
      exact hK
    · rw [cl8 hk]
      rintro o b l t e _ rfl _ rfl
      rw [nI_s1]
      unfold fsS at hK
      rw [e] at hK
      exact hK
  · show bX5_countSheets_4 T _ _ _ (nI 8)
    unfold bX5_countSheets_4
    exact ⟨fun _ => h, fun q => absurd (nI_le (a := 8) (Nat.le_refl _) (by omega)) q⟩
theorem m_countS {T : TS} {M : St} (hS : RS (tS T) (sA M 2) (sA M 3) (sA M 4)) {Q : Int32 → Prop} (h : Q (sm (fsS T) 8)) : lX6_count_50 M Q 0 0 := by
  unfold lX6_count_50
  refine lp_sum 8 (by omega) (fsS T) (fun k K a hk hK => ?_) (fun K => ?_)
  · show bX6_count_50 M _ _ a (nI k)
    unfold bX6_count_50
    refine ⟨fun q => absurd q (nI_ge (b := 8) hk (by omega)), fun _ => ⟨in8 hk, ?_⟩⟩
    rw [cl8 hk]
    unfold fsS at hK
    rcases lane_neg hS hk with ⟨e, e2⟩ | ⟨o, b, l, t, e, e2, _⟩
    · rw [e] at hK
      refine ⟨fun _ => ?_, fun q => absurd (by rw [e2]; decide) q⟩
      rintro _ rfl _ rfl
      rw [nI_s1]
      exact hK
    · rw [e] at hK
      refine ⟨fun q => ?_, fun _ => ?_⟩
      · have := lt_toInt.mp q
        rw [l32_0] at this
        omega
      · rintro _ rfl _ rfl
        rw [nI_s1]
        exact hK
  · show bX6_count_50 M _ _ _ (nI 8)
    unfold bX6_count_50
    exact ⟨fun _ => h, fun q => absurd (nI_le (a := 8) (Nat.le_refl _) (by omega)) q⟩
/-- the nets of a state, one for each place -/
theorem net_all {g : Nat → Option Ob} {md ln ou dd out by_ : Nat → Int32} (h : RN g md ln ou dd out by_) : ∃ F : Nat → NSt, ∀ p, p < 6 → (g p = none ∧ md p = 0) ∨ ∃ o a l t, g p = some (o, a, l, t) ∧ NWf (F p) ∧ CRep (F p) l t ∧ MRep (F p) p md ln ou dd out by_ := by
  refine Classical.axiomOfChoice (r := fun p N => p < 6 → (g p = none ∧ md p = 0) ∨ ∃ o a l t, g p = some (o, a, l, t) ∧ NWf N ∧ CRep N l t ∧ MRep N p md ln ou dd out by_) (fun p => ?_)
  by_cases hp : p < 6
  · rcases net_at h hp with e | ⟨o, a, l, t, N, e⟩
    · exact ⟨(0, 0, 0, fun _ => false, fun _ => none), fun _ => Or.inl e⟩
    · exact ⟨N, fun _ => Or.inr ⟨o, a, l, t, e⟩⟩
  · exact ⟨(0, 0, 0, fun _ => false, fun _ => none), fun q => absurd q hp⟩
def fsN (T : TS) (F : Nat → NSt) (b : Int32) (k : Nat) : Int32 := match tN T k with | none => 0 | some _ => caF (kdN (F k)) b
def fsC (T : TS) (F : Nat → NSt) (k : Nat) : Int32 := match tN T k with | none => 0 | some _ => nI (cls (F k))
section CNT
variable {T : TS} {F : Nat → NSt} {md ln ou dd out by_ : Nat → Int32}
theorem c_countN (hF : ∀ p, p < 6 → (tN T p = none ∧ md p = 0) ∨ ∃ o a l t, tN T p = some (o, a, l, t) ∧ NWf (F p) ∧ CRep (F p) l t ∧ MRep (F p) p md ln ou dd out by_) {b : Int32} {Q : Int32 → Prop} (h : Q (sm (fsN T F b) 6)) : pX5_countNets T b Q := by
  unfold pX5_countNets lX5_countNets_4
  refine lp_sum 6 (by omega) (fsN T F b) (fun k K a hk hK => ?_) (fun K => ?_)
  · show bX5_countNets_4 T b _ _ a (nI k)
    unfold bX5_countNets_4
    refine ⟨fun q => absurd q (nI_ge (b := 6) hk (by omega)), fun _ => ⟨in6 hk, ?_, ?_⟩⟩
    · rw [cl6 hk]
      rintro e _ rfl
      rw [nI_s1]
      unfold fsN at hK
      rw [e] at hK
      have z : a + 0 = a := Int32.add_zero a
      rw [← z]
      exact hK
    · rw [cl6 hk]
      intro o c l t e
      unfold fsN at hK
      rcases hF k hk with ⟨e0, _⟩ | ⟨o2, c2, l2, t2, e2, hw, hc, hm⟩
      · rw [e0] at e; cases e
      · rw [e2] at e; cases e
        rw [e2] at hK
        refine c_kind hw hc ?_
        rw [caF_iff]
        have hK' : K (a + caF (kdN (F k)) b, nI (k + 1)) := hK
        rcases ca_bit (kdN (F k)) b with q | q
        · rw [q] at hK' ⊢
          refine ⟨fun _ => ?_, fun q => absurd rfl q⟩
          rintro _ rfl
          rw [nI_s1]
          have z : a + 0 = a := Int32.add_zero a
          rw [← z]
          exact hK'
        · rw [q] at hK' ⊢
          refine ⟨fun q => absurd q (by decide), fun _ => ?_⟩
          rintro _ rfl _ rfl
          rw [nI_s1]
          exact hK'
  · show bX5_countNets_4 T b _ _ _ (nI 6)
    unfold bX5_countNets_4
    exact ⟨fun _ => h, fun q => absurd (nI_le (a := 6) (Nat.le_refl _) (by omega)) q⟩
theorem c_countC (hF : ∀ p, p < 6 → (tN T p = none ∧ md p = 0) ∨ ∃ o a l t, tN T p = some (o, a, l, t) ∧ NWf (F p) ∧ CRep (F p) l t ∧ MRep (F p) p md ln ou dd out by_) {Q : Int32 → Prop} (h : Q (sm (fsC T F) 6)) : pX5_countCalls T Q := by
  unfold pX5_countCalls lX5_countCalls_4
  refine lp_sum 6 (by omega) (fsC T F) (fun k K a hk hK => ?_) (fun K => ?_)
  · show bX5_countCalls_4 T _ _ a (nI k)
    unfold bX5_countCalls_4
    refine ⟨fun q => absurd q (nI_ge (b := 6) hk (by omega)), fun _ => ⟨in6 hk, ?_, ?_⟩⟩
    · rw [cl6 hk]
      rintro e _ rfl
      rw [nI_s1]
      unfold fsC at hK
      rw [e] at hK
      have z : a + 0 = a := Int32.add_zero a
      rw [← z]
      exact hK
    · rw [cl6 hk]
      intro o c l t e
      unfold fsC at hK
      rcases hF k hk with ⟨e0, _⟩ | ⟨o2, c2, l2, t2, e2, hw, hc, hm⟩
      · rw [e0] at e; cases e
      · rw [e2] at e; cases e
        rw [e2] at hK
        rintro _ rfl _ rfl
        rw [nI_s1, hc.1.2.2.2.2.2]
        exact hK
  · show bX5_countCalls_4 T _ _ _ (nI 6)
    unfold bX5_countCalls_4
    exact ⟨fun _ => h, fun q => absurd (nI_le (a := 6) (Nat.le_refl _) (by omega)) q⟩
end CNT
section CNTM
variable {T : TS} {F : Nat → NSt} {M : St}
theorem m_countN (hF : ∀ p, p < 6 → (tN T p = none ∧ sA M 5 p = 0) ∨ ∃ o a l t, tN T p = some (o, a, l, t) ∧ NWf (F p) ∧ CRep (F p) l t ∧ MRep (F p) p (sA M 5) (sA M 6) (sA M 7) (sA M 8) (sA M 9) (sA M 10)) {c b : Int32} (hb : c - 1 = b) {Q : Int32 → Prop} (h : Q (sm (fsN T F b) 6)) : lX6_count_83 M c Q 0 0 := by
  unfold lX6_count_83
  refine lp_sum 6 (by omega) (fsN T F b) (fun k K a hk hK => ?_) (fun K => ?_)
  · show bX6_count_83 M c _ _ a (nI k)
    unfold bX6_count_83
    refine ⟨fun q => absurd q (nI_ge (b := 6) hk (by omega)), fun _ => ⟨in6 hk, ?_⟩⟩
    rw [cl6 hk, hb]
    unfold fsN at hK
    rcases hF k hk with ⟨e, e2⟩ | ⟨o, d, l, t, e, hw, hc, hm⟩
    · rw [e] at hK
      refine ⟨fun _ => ?_, fun q => absurd (by rw [e2]; decide) q⟩
      rintro _ rfl _ rfl
      rw [nI_s1]
      exact hK
    · rw [e] at hK
      have hK' : K (a + caF (kdN (F k)) b, nI (k + 1)) := hK
      refine ⟨fun q => absurd q (by rw [hm.1.1]; exact m_pos hw), fun _ => m_kind hk hw hm ?_⟩
      rw [isOf_iff]
      rcases ca_bit (kdN (F k)) b with q | q
      · rw [q] at hK' ⊢
        refine ⟨fun _ => ?_, fun q => absurd rfl q⟩
        rintro _ rfl _ rfl
        rw [nI_s1]
        exact hK'
      · rw [q] at hK' ⊢
        refine ⟨fun q => absurd q (by decide), fun _ => ?_⟩
        rintro _ rfl _ rfl
        rw [nI_s1]
        exact hK'
  · show bX6_count_83 M c _ _ _ (nI 6)
    unfold bX6_count_83
    exact ⟨fun _ => h, fun q => absurd (nI_le (a := 6) (Nat.le_refl _) (by omega)) q⟩
theorem m_calls0 {p : Nat} (hp : p < 6) (h0 : sA M 5 p = 0) {Q : Int32 → Prop} (h : Q 0) : pX6_calls M (nI p) Q := by
  unfold pX6_calls lX6_calls_4
  refine lp_cnt (α := Int32) 36 (by omega) (fun _ => 0) (fun k K hk hK => ?_) (fun K => ?_)
  · show bX6_calls_4 M (nI p) _ _ 0 (nI k)
    unfold bX6_calls_4
    rw [cl6 hp, h0]
    exact ⟨fun q => absurd q (nI_ge (b := 36) hk (by omega)), fun _ => ⟨in6 hp, fun _ => h, fun q => absurd (by decide) q⟩⟩
  · show bX6_calls_4 M (nI p) _ _ 0 (nI 36)
    unfold bX6_calls_4
    exact ⟨fun _ => h, fun q => absurd (nI_le (a := 36) (Nat.le_refl _) (by omega)) q⟩
theorem m_countC (hF : ∀ p, p < 6 → (tN T p = none ∧ sA M 5 p = 0) ∨ ∃ o a l t, tN T p = some (o, a, l, t) ∧ NWf (F p) ∧ CRep (F p) l t ∧ MRep (F p) p (sA M 5) (sA M 6) (sA M 7) (sA M 8) (sA M 9) (sA M 10)) {Q : Int32 → Prop} (h : Q (sm (fsC T F) 6)) : lX6_count_130 M Q 0 0 := by
  unfold lX6_count_130
  refine lp_sum 6 (by omega) (fsC T F) (fun k K a hk hK => ?_) (fun K => ?_)
  · show bX6_count_130 M _ _ a (nI k)
    unfold bX6_count_130
    refine ⟨fun q => absurd q (nI_ge (b := 6) hk (by omega)), fun _ => ?_⟩
    unfold fsC at hK
    rcases hF k hk with ⟨e, e2⟩ | ⟨o, d, l, t, e, hw, hc, hm⟩
    · rw [e] at hK
      refine m_calls0 hk e2 ?_
      rintro _ rfl _ rfl
      rw [nI_s1]
      exact hK
    · rw [e] at hK
      refine m_calls hk hw hm ?_
      rintro _ rfl _ rfl
      rw [nI_s1]
      exact hK
  · show bX6_count_130 M _ _ _ (nI 6)
    unfold bX6_count_130
    exact ⟨fun _ => h, fun q => absurd (nI_le (a := 6) (Nat.le_refl _) (by omega)) q⟩
end CNTM
theorem st_22 : stepOK_22 Rel := by
  intro T M a1 h
  obtain ⟨hS, hN, hA, hF⟩ := id h
  obtain ⟨F, hG⟩ := net_all hN
  simp only [pX5_count, pX6_count, forall_eq]
  refine ⟨fun e => ?_, fun e0 => ⟨fun e => ?_, fun e1 => ⟨fun e => ?_, fun e2 => ⟨fun e => ?_, fun e3 => ⟨fun e => ?_, fun e4 => ⟨fun e => ?_, fun e5 => ?_⟩⟩⟩⟩⟩⟩
  · subst e
    refine c_countS ⟨fun _ => ?_, fun q => absurd rfl q⟩
    exact m_countS (M := uF M 0 0) hS ⟨rfl, hS, hN, hA, hF⟩
  · subst e
    refine c_countN hG ⟨fun q => absurd q e0, fun _ => ⟨fun _ => ?_, fun q => absurd rfl q⟩⟩
    exact m_countN (M := uF M 0 0) hG (by decide) ⟨rfl, hS, hN, hA, hF⟩
  · subst e
    refine c_countN hG ⟨fun q => absurd q e0, fun _ => ⟨fun q => absurd q e1, fun _ => ⟨fun _ => ?_, fun q => absurd rfl q⟩⟩⟩
    exact m_countN (M := uF M 0 0) hG (by decide) ⟨rfl, hS, hN, hA, hF⟩
  · subst e
    refine c_countN hG ⟨fun q => absurd q e0, fun _ => ⟨fun q => absurd q e1, fun _ => ⟨fun q => absurd q e2, fun _ => ⟨fun _ => ?_, fun q => absurd rfl q⟩⟩⟩⟩
    exact m_countN (M := uF M 0 0) hG (by decide) ⟨rfl, hS, hN, hA, hF⟩
  · subst e
    refine c_countN hG ⟨fun q => absurd q e0, fun _ => ⟨fun q => absurd q e1, fun _ => ⟨fun q => absurd q e2, fun _ => ⟨fun q => absurd q e3, fun _ => ⟨fun _ => ?_, fun q => absurd rfl q⟩⟩⟩⟩⟩
    exact m_countN (M := uF M 0 0) hG (by decide) ⟨rfl, hS, hN, hA, hF⟩
  · subst e
    refine c_countC hG ⟨fun q => absurd q e0, fun _ => ⟨fun q => absurd q e1, fun _ => ⟨fun q => absurd q e2, fun _ => ⟨fun q => absurd q e3, fun _ => ⟨fun q => absurd q e4, fun _ => ⟨fun _ => ?_, fun q => absurd rfl q⟩⟩⟩⟩⟩⟩
    exact m_countC (M := uF M 0 0) hG ⟨rfl, hS, hN, hA, hF⟩
  · exact ⟨fun q => absurd q e0, fun _ => ⟨fun q => absurd q e1, fun _ => ⟨fun q => absurd q e2, fun _ => ⟨fun q => absurd q e3, fun _ => ⟨fun q => absurd q e4, fun _ => ⟨fun q => absurd q e5, fun _ => ⟨trivial, hS, hN, hA, hF⟩⟩⟩⟩⟩⟩⟩
