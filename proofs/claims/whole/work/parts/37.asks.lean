theorem kd_vals (N : NSt) : kdN N = 2 ∨ kdN N = 1 ∨ kdN N = 3 ∨ kdN N = 0 := by
  unfold kdN
  split
  · exact Or.inl rfl
  · split
    · exact Or.inr (Or.inl rfl)
    · split
      · exact Or.inr (Or.inr (Or.inl rfl))
      · exact Or.inr (Or.inr (Or.inr rfl))
theorem l_00 : ((0 : Int32) = 0) = True := eq_iff_iff.mpr (by decide)
theorem l_01 : ((0 : Int32) = 1) = False := eq_iff_iff.mpr (by decide)
theorem l_02 : ((0 : Int32) = 2) = False := eq_iff_iff.mpr (by decide)
theorem l_03 : ((0 : Int32) = 3) = False := eq_iff_iff.mpr (by decide)
theorem l_10 : ((1 : Int32) = 0) = False := eq_iff_iff.mpr (by decide)
theorem l_11 : ((1 : Int32) = 1) = True := eq_iff_iff.mpr (by decide)
theorem l_12 : ((1 : Int32) = 2) = False := eq_iff_iff.mpr (by decide)
theorem l_13 : ((1 : Int32) = 3) = False := eq_iff_iff.mpr (by decide)
theorem l_20 : ((2 : Int32) = 0) = False := eq_iff_iff.mpr (by decide)
theorem l_21 : ((2 : Int32) = 1) = False := eq_iff_iff.mpr (by decide)
theorem l_22 : ((2 : Int32) = 2) = True := eq_iff_iff.mpr (by decide)
theorem l_23 : ((2 : Int32) = 3) = False := eq_iff_iff.mpr (by decide)
theorem l_30 : ((3 : Int32) = 0) = False := eq_iff_iff.mpr (by decide)
theorem l_31 : ((3 : Int32) = 1) = False := eq_iff_iff.mpr (by decide)
theorem l_32 : ((3 : Int32) = 2) = False := eq_iff_iff.mpr (by decide)
theorem l_33 : ((3 : Int32) = 3) = True := eq_iff_iff.mpr (by decide)
section ASKC
variable {N : NSt} {l : Nat → Nat} {sa t : St} {Q : Int32 → St × St → Prop}
theorem c_sNet (hc : CRep N l t) (hr : rgI (sF sa 1)) (h : Q (nI (nR N * nL N)) (bgC sa 10, t)) : pX0_sizeOfNet l (sa, t) Q := by
  unfold pX0_sizeOfNet
  refine c_begin hr ?_
  rintro _ rfl
  show Q (sF t 3) _
  rw [hc.1.2.2.2.1]
  exact h
theorem c_sLoose (hc : CRep N l t) (hr : rgI (sF sa 1)) (h : Q (nI (nR N * nL N) + nI (alv N)) ((bgC (bgC sa 11) 10), t)) : pX0_sizeOfLoose l (sa, t) Q := by
  unfold pX0_sizeOfLoose
  refine c_begin hr ?_
  rintro _ rfl
  refine c_sNet hc (bgC_rg hr) ?_
  show Q (_ + sF t 13) _
  rw [hc.1.2.2.2.2.1]
  exact h
theorem c_mNet (hc : CRep N l t) (hr : rgI (sF sa 1)) (h : Q (nI (cls N)) (bgC sa 20, t)) : pX0_markOfNet l (sa, t) Q := by
  unfold pX0_markOfNet
  refine c_begin hr ?_
  rintro _ rfl
  show Q (sF t 14) _
  rw [hc.1.2.2.2.2.2]
  exact h
theorem c_mLoose (hc : CRep N l t) (hr : rgI (sF sa 1)) (h : Q (nI (cls N) + 100) ((bgC (bgC sa 21) 20), t)) : pX0_markOfLoose l (sa, t) Q := by
  unfold pX0_markOfLoose
  refine c_begin hr ?_
  rintro _ rfl
  exact c_mNet hc (bgC_rg hr) h
theorem c_sBare (hc : CRep N l t) (hr : rgI (sF sa 1)) (h : Q (nI (nR N * nL N) / 2) ((bgC (bgC sa 13) 10), t)) : pX0_sizeOfBare l (sa, t) Q := by
  unfold pX0_sizeOfBare
  refine c_begin hr ?_
  rintro _ rfl
  exact c_sNet hc (bgC_rg hr) h
theorem c_sStrict (hc : CRep N l t) (hr : rgI (sF sa 1)) (h : Q ((nI (nR N * nL N) + nI (alv N)) + (nI (cls N) + 100)) ((bgC (bgC (bgC (bgC (bgC sa 12) 11) 10) 21) 20), t)) : pX0_sizeOfStrict l (sa, t) Q := by
  unfold pX0_sizeOfStrict
  refine c_begin hr ?_
  rintro _ rfl
  refine c_sLoose hc (bgC_rg hr) ?_
  exact c_mLoose hc (bgC_rg (bgC_rg (bgC_rg hr))) h
theorem c_mBare (hc : CRep N l t) (hr : rgI (sF sa 1)) (h : Q (nI (cls N) + nI (nR N * nL N) / 2) ((bgC (bgC (bgC (bgC sa 22) 20) 13) 10), t)) : pX0_markOfBare l (sa, t) Q := by
  unfold pX0_markOfBare
  refine c_begin hr ?_
  rintro _ rfl
  refine c_mNet hc (bgC_rg hr) ?_
  exact c_sBare hc (bgC_rg (bgC_rg hr)) h
def szV (N : NSt) : Int32 := if kdN N = 3 then nI (nR N * nL N) / 2 else if kdN N = 2 then (nI (nR N * nL N) + nI (alv N)) + (nI (cls N) + 100) else if kdN N = 1 then nI (nR N * nL N) + nI (alv N) else nI (nR N * nL N)
def szL (N : NSt) : List Int32 := if kdN N = 3 then [13, 10] else if kdN N = 2 then [12, 11, 10, 21, 20] else if kdN N = 1 then [11, 10] else [10]
def mkV (N : NSt) : Int32 := if kdN N = 3 then nI (cls N) + nI (nR N * nL N) / 2 else if kdN N = 0 then nI (cls N) else nI (cls N) + 100
def mkL (N : NSt) : List Int32 := if kdN N = 3 then [22, 20, 13, 10] else if kdN N = 0 then [20] else [21, 20]
theorem c_size (hw : NWf N) (hc : CRep N l t) (hr : rgI (sF sa 1)) (h : Q (szV N) (bgsC sa (szL N), t)) : pX0_sizeOf l (sa, t) Q := by
  unfold pX0_sizeOf
  refine c_kind hw hc ?_
  unfold szV szL at h
  rcases kd_vals N with e | e | e | e
  · rw [e] at h ⊢
    simp only [l_00, l_01, l_02, l_03, l_10, l_11, l_12, l_13, l_20, l_21, l_22, l_23, l_30, l_31, l_32, l_33, if_true, if_false, bgsC, List.foldl_cons, List.foldl_nil] at h
    exact ⟨fun q => absurd q (by decide), fun _ => ⟨fun _ => c_sStrict hc hr h, fun q => absurd rfl q⟩⟩
  · rw [e] at h ⊢
    simp only [l_00, l_01, l_02, l_03, l_10, l_11, l_12, l_13, l_20, l_21, l_22, l_23, l_30, l_31, l_32, l_33, if_true, if_false, bgsC, List.foldl_cons, List.foldl_nil] at h
    exact ⟨fun _ => c_sLoose hc hr h, fun q => absurd rfl q⟩
  · rw [e] at h ⊢
    simp only [l_00, l_01, l_02, l_03, l_10, l_11, l_12, l_13, l_20, l_21, l_22, l_23, l_30, l_31, l_32, l_33, if_true, if_false, bgsC, List.foldl_cons, List.foldl_nil] at h
    exact ⟨fun q => absurd q (by decide), fun _ => ⟨fun q => absurd q (by decide), fun _ => ⟨fun _ => c_sBare hc hr h, fun q => absurd rfl q⟩⟩⟩
  · rw [e] at h ⊢
    simp only [l_00, l_01, l_02, l_03, l_10, l_11, l_12, l_13, l_20, l_21, l_22, l_23, l_30, l_31, l_32, l_33, if_true, if_false, bgsC, List.foldl_cons, List.foldl_nil] at h
    exact ⟨fun q => absurd q (by decide), fun _ => ⟨fun q => absurd q (by decide), fun _ => ⟨fun q => absurd q (by decide), fun _ => c_sNet hc hr h⟩⟩⟩
theorem c_mark (hw : NWf N) (hc : CRep N l t) (hr : rgI (sF sa 1)) (h : Q (mkV N) (bgsC sa (mkL N), t)) : pX0_markOf l (sa, t) Q := by
  unfold pX0_markOf
  refine c_kind hw hc ?_
  unfold mkV mkL at h
  rcases kd_vals N with e | e | e | e
  · rw [e] at h ⊢
    simp only [l_00, l_01, l_02, l_03, l_10, l_11, l_12, l_13, l_20, l_21, l_22, l_23, l_30, l_31, l_32, l_33, if_true, if_false, bgsC, List.foldl_cons, List.foldl_nil] at h
    exact ⟨fun q => absurd q (by decide), fun _ => ⟨fun _ => c_mLoose hc hr h, fun q => absurd rfl q⟩⟩
  · rw [e] at h ⊢
    simp only [l_00, l_01, l_02, l_03, l_10, l_11, l_12, l_13, l_20, l_21, l_22, l_23, l_30, l_31, l_32, l_33, if_true, if_false, bgsC, List.foldl_cons, List.foldl_nil] at h
    exact ⟨fun _ => c_mLoose hc hr h, fun q => absurd rfl q⟩
  · rw [e] at h ⊢
    simp only [l_00, l_01, l_02, l_03, l_10, l_11, l_12, l_13, l_20, l_21, l_22, l_23, l_30, l_31, l_32, l_33, if_true, if_false, bgsC, List.foldl_cons, List.foldl_nil] at h
    exact ⟨fun q => absurd q (by decide), fun _ => ⟨fun q => absurd q (by decide), fun _ => ⟨fun _ => c_mBare hc hr h, fun q => absurd rfl q⟩⟩⟩
  · rw [e] at h ⊢
    simp only [l_00, l_01, l_02, l_03, l_10, l_11, l_12, l_13, l_20, l_21, l_22, l_23, l_30, l_31, l_32, l_33, if_true, if_false, bgsC, List.foldl_cons, List.foldl_nil] at h
    exact ⟨fun q => absurd q (by decide), fun _ => ⟨fun q => absurd q (by decide), fun _ => ⟨fun q => absurd q (by decide), fun _ => c_mNet hc hr h⟩⟩⟩
end ASKC
section ASKM
variable {N : NSt} {p : Nat} {M : St} {Q : Int32 → St → Prop}
def MR (N : NSt) (p : Nat) (M : St) : Prop := MRep N p (sA M 5) (sA M 6) (sA M 7) (sA M 8) (sA M 9) (sA M 10)
theorem MR_bg {b : Int32} (hm : MR N p M) : MR N p (bgM M b) := by
  unfold MR at hm ⊢
  rw [bgM_A (by decide), bgM_A (by decide), bgM_A (by decide), bgM_A (by decide), bgM_A (by decide), bgM_A (by decide)]
  exact hm
theorem m_lines (hp : p < 6) (hm : MR N p M) : (sA M 7 (nI p).toNatClampNeg) * (sA M 6 (nI p).toNatClampNeg) = nI (nR N * nL N) := by
  rw [cl6 hp, hm.1.2.1, hm.1.2.2, nI_mul]
theorem m_bare (hp : p < 6) (hm : MR N p M) (hr : rgI (sF M 12)) (h : Q (nI (nR N * nL N) / 2) (bgM (bgM M 13) 10)) : pX6_bareSize M (nI p) Q := by
  unfold pX6_bareSize
  refine m_began hr (m_began (bgM_rg hr) ⟨in6 hp, in6 hp, ?_⟩)
  rw [m_lines hp (MR_bg (MR_bg hm))]
  exact h
theorem m_j17 (hp : p < 6) (hw : NWf N) (hm : MR N p M) (hr : rgI (sF M 12)) (h3 : kdN N = 3 → Q (nI (cls N) + nI (nR N * nL N) / 2) (bgM (bgM (bgM M 20) 13) 10)) (h0 : kdN N = 0 → Q (nI (cls N)) (bgM M 20)) (h1 : kdN N = 1 ∨ kdN N = 2 → Q (nI (cls N) + 100) (bgM (bgM M 21) 20)) : jX6_marked_17 Q M (nI p) (kdN N) := by
  unfold jX6_marked_17
  rw [isOf_iff]
  have z0 : nI (cls N) + 0 = nI (cls N) := nI_add _ 0
  rcases kd_vals N with e | e | e | e
  · rw [e]
    refine ⟨fun q => absurd q (by decide), fun _ => m_began hr (m_began (bgM_rg hr) (m_calls hp hw (MR_bg (MR_bg hm)) ?_))⟩
    rw [isOf_iff]
    refine ⟨fun q => absurd q (by decide), fun _ => ?_⟩
    rintro _ rfl
    exact ⟨fun q => absurd q (by decide), fun _ => h1 (Or.inr e)⟩
  · rw [e]
    refine ⟨fun q => absurd q (by decide), fun _ => m_began hr (m_began (bgM_rg hr) (m_calls hp hw (MR_bg (MR_bg hm)) ?_))⟩
    rw [isOf_iff]
    refine ⟨fun q => absurd q (by decide), fun _ => ?_⟩
    rintro _ rfl
    exact ⟨fun q => absurd q (by decide), fun _ => h1 (Or.inl e)⟩
  · rw [e]
    refine ⟨fun _ => m_began hr (m_calls hp hw (MR_bg hm) ?_), fun q => absurd (by decide) q⟩
    rw [isOf_iff]
    refine ⟨fun _ => ?_, fun q => absurd (by decide) q⟩
    rw [z0]
    rintro _ rfl
    exact ⟨fun _ => m_bare hp (MR_bg hm) (bgM_rg hr) (h3 e), fun q => absurd rfl q⟩
  · rw [e]
    refine ⟨fun _ => m_began hr (m_calls hp hw (MR_bg hm) ?_), fun q => absurd (by decide) q⟩
    rw [isOf_iff]
    refine ⟨fun _ => ?_, fun q => absurd (by decide) q⟩
    rw [z0]
    rintro _ rfl
    exact ⟨fun q => absurd q (by decide), fun _ => h0 e⟩
theorem m_mark (hp : p < 6) (hw : NWf N) (hm : MR N p M) (hr : rgI (sF M 12)) (h : Q (mkV N) (bgsM M (mkL N))) : pX6_marked M (nI p) Q := by
  unfold pX6_marked
  refine m_kind hp hw hm ?_
  unfold mkV mkL at h
  refine ⟨fun e => ?_, fun e => ?_⟩
  · rw [if_pos e, if_pos e] at h
    simp only [bgsM, List.foldl_cons, List.foldl_nil] at h
    refine m_began hr (m_j17 hp hw (MR_bg hm) (bgM_rg hr) (fun _ => h) (fun q => absurd (e.symm.trans q) (by decide)) (fun q => ?_))
    rcases q with q | q
    · exact absurd (e.symm.trans q) (by decide)
    · exact absurd (e.symm.trans q) (by decide)
  · rw [if_neg e, if_neg e] at h
    refine m_j17 hp hw hm hr (fun q => absurd q e) (fun q => ?_) (fun q => ?_)
    · rw [if_pos q, if_pos q] at h
      simp only [bgsM, List.foldl_cons, List.foldl_nil] at h
      exact h
    · rw [if_neg (by rcases q with q | q <;> rw [q] <;> decide), if_neg (by rcases q with q | q <;> rw [q] <;> decide)] at h
      simp only [bgsM, List.foldl_cons, List.foldl_nil] at h
      exact h
theorem m_j42 (hp : p < 6) (hw : NWf N) (hm : MR N p M) (hr : rgI (sF M 12)) (h3 : kdN N = 0 → Q (nI (nR N * nL N)) (bgM M 10)) (h1 : kdN N = 1 → Q (nI (nR N * nL N) + nI (alv N)) (bgM M 10)) (h2 : kdN N = 2 → Q ((nI (nR N * nL N) + nI (alv N)) + (nI (cls N) + 100)) (bgM (bgM (bgM M 10) 21) 20)) (hk : kdN N ≠ 3) : jX6_sized_42 Q M (nI p) (kdN N) := by
  unfold jX6_sized_42
  refine m_began hr ⟨in6 hp, in6 hp, ?_⟩
  rw [isOf_iff, m_lines hp (MR_bg hm)]
  have z0 : nI (nR N * nL N) + 0 = nI (nR N * nL N) := nI_add _ 0
  rcases kd_vals N with e | e | e | e
  · rw [e]
    refine ⟨fun q => absurd q (by decide), fun _ => m_alive hp hw (MR_bg hm) ?_⟩
    rintro _ rfl
    refine ⟨fun _ => m_mark hp hw (MR_bg hm) (bgM_rg hr) ?_, fun q => absurd rfl q⟩
    unfold mkV mkL
    rw [e, if_neg (by decide), if_neg (by decide), if_neg (by decide), if_neg (by decide)]
    simp only [bgsM, List.foldl_cons, List.foldl_nil]
    exact h2 e
  · rw [e]
    refine ⟨fun q => absurd q (by decide), fun _ => m_alive hp hw (MR_bg hm) ?_⟩
    rintro _ rfl
    exact ⟨fun q => absurd q (by decide), fun _ => h1 e⟩
  · exact absurd e hk
  · rw [e]
    refine ⟨fun _ => ?_, fun q => absurd (by decide) q⟩
    rw [z0]
    rintro _ rfl
    exact ⟨fun q => absurd q (by decide), fun _ => h3 e⟩
theorem m_size (hp : p < 6) (hw : NWf N) (hm : MR N p M) (hr : rgI (sF M 12)) (h : Q (szV N) (bgsM M (szL N))) : pX6_sized M (nI p) Q := by
  unfold pX6_sized
  refine m_kind hp hw hm ?_
  unfold szV szL at h
  refine ⟨fun e => ?_, fun e => ⟨fun e2 => ?_, fun e2 => ?_⟩⟩
  · rw [if_pos e, if_pos e] at h
    simp only [bgsM, List.foldl_cons, List.foldl_nil] at h
    exact m_bare hp hm hr h
  · rw [if_neg e, if_neg e, if_pos e2, if_pos e2] at h
    simp only [bgsM, List.foldl_cons, List.foldl_nil] at h
    refine m_began hr ?_
    unfold jX6_sized_28
    rw [isOf_iff]
    refine ⟨fun q => absurd q (by rw [e2]; decide), fun _ => m_began (bgM_rg hr) ?_⟩
    exact m_j42 hp hw (MR_bg (MR_bg hm)) (bgM_rg (bgM_rg hr)) (fun q => absurd (e2.symm.trans q) (by decide)) (fun q => absurd (e2.symm.trans q) (by decide)) (fun _ => h) e
  · rw [if_neg e, if_neg e, if_neg e2, if_neg e2] at h
    unfold jX6_sized_28
    rw [isOf_iff]
    rcases kd_vals N with k | k | k | k
    · exact absurd k e2
    · rw [if_pos k, if_pos k] at h
      simp only [bgsM, List.foldl_cons, List.foldl_nil] at h
      refine ⟨fun q => absurd q (by rw [k]; decide), fun _ => m_began hr ?_⟩
      exact m_j42 hp hw (MR_bg hm) (bgM_rg hr) (fun q => absurd (k.symm.trans q) (by decide)) (fun _ => h) (fun q => absurd q e2) e
    · exact absurd k e
    · rw [if_neg (by rw [k]; decide), if_neg (by rw [k]; decide)] at h
      simp only [bgsM, List.foldl_cons, List.foldl_nil] at h
      refine ⟨fun _ => ?_, fun q => absurd (by rw [k]; decide) q⟩
      exact m_j42 hp hw hm hr (fun _ => h) (fun q => absurd (k.symm.trans q) (by decide)) (fun q => absurd q e2) e
end ASKM
theorem st_9 : stepOK_9 Rel := by
  intro T M a1 a2 h
  obtain ⟨hS, hN, hA, hF⟩ := h
  simp only [pX5_ask, pX6_ask, pl5_iff, pl6_iff, within_iff, in_iff, forall_eq, Int32.toInt_toInt64, l64_0, l64_1, l32_0, l32_1, pX6_look, pX5_found, pX6_found, pX5_fine, pX0_emptyTrace]
  by_cases h1 : 0 ≤ a1.toInt ∧ a1.toInt ≤ 5
  · obtain ⟨p, hp, rfl⟩ := nI_rg (n := 6) h1.1 (by omega) (by omega)
    by_cases h2 : 0 ≤ a2.toInt ∧ a2.toInt ≤ 1
    · have hA0 : RA (uF (tA T) 1 0) (sA M 11) 0 := ⟨rfl, 0, by omega, rfl, fun j hj => absurd hj (Nat.not_lt_zero j)⟩
      have eT : ∀ v, tN (uK T v) p = tN T p := fun _ => rfl
      simp only [if_pos h1, if_pos h2, one_ne, imp_F, not_F, imp_T, true_and, cl6 hp, in6 hp, sA_uF, eT]
      rcases net_at hN hp with ⟨e1, e2⟩ | ⟨o, a, l, t, N, e1, hw, hc, hm⟩
      · simp only [e1, e2, none_n, ob_n, imp_T, and_true, zero_eq, not_T, imp_F]
        exact ⟨fun q => absurd q (by decide), fun _ => ⟨hS, hN, hA0, rfl⟩⟩
      · simp only [e1, some_n, ob_e, imp_F, true_and, hm.1.1, m_ne0 hw, not_F, imp_T]
        have hr := RA_rg hA0
        have es : ∀ v, uN (uK T v) p (some (o, a, l, t)) = uK T v := fun v => uN_self (T := uK T v) e1
        have hM : MR N p (uF (uF (uF M 0 0) 12 0) 1 0) := hm
        refine ⟨fun q => ?_, fun q => ?_⟩
        · refine c_size (sa := uF (tA T) 1 0) hw hc hr.1 ?_
          refine ⟨fun _ => ⟨fun _ => ?_, fun q2 => absurd q q2⟩, fun q2 => absurd (by decide) q2⟩
          refine m_size hp hw hM hr.2 ⟨rfl, ?_⟩
          rw [es]
          have k := RA_bgs (M := uF (uF (uF M 0 0) 12 0) 1 0) (szL N) hA0
          have kN : RN (tN T) (sA (bgsM (uF (uF (uF M 0 0) 12 0) 1 0) (szL N)) 5) (sA (bgsM (uF (uF (uF M 0 0) 12 0) 1 0) (szL N)) 6) (sA (bgsM (uF (uF (uF M 0 0) 12 0) 1 0) (szL N)) 7) (sA (bgsM (uF (uF (uF M 0 0) 12 0) 1 0) (szL N)) 8) (sA (bgsM (uF (uF (uF M 0 0) 12 0) 1 0) (szL N)) 9) (sA (bgsM (uF (uF (uF M 0 0) 12 0) 1 0) (szL N)) 10) := by
            rw [bgsM_A (by decide), bgsM_A (by decide), bgsM_A (by decide), bgsM_A (by decide), bgsM_A (by decide), bgsM_A (by decide)]
            exact hN
          have kS : RS (tS T) (sA (bgsM (uF (uF (uF M 0 0) 12 0) 1 0) (szL N)) 2) (sA (bgsM (uF (uF (uF M 0 0) 12 0) 1 0) (szL N)) 3) (sA (bgsM (uF (uF (uF M 0 0) 12 0) 1 0) (szL N)) 4) := by
            rw [bgsM_A (by decide), bgsM_A (by decide), bgsM_A (by decide)]
            exact hS
          exact ⟨kS, kN, k, Eq.trans (b := (0 : Int32)) rfl (bgsM_F (s := uF (uF (uF M 0 0) 12 0) 1 0) (j := 1) (by decide) _).symm⟩
        · refine c_mark (sa := uF (tA T) 1 0) hw hc hr.1 ?_
          refine ⟨fun _ => ⟨fun q2 => absurd q2 q, fun _ => ?_⟩, fun q2 => absurd (by decide) q2⟩
          refine m_mark hp hw hM hr.2 ⟨rfl, ?_⟩
          rw [es]
          have k := RA_bgs (M := uF (uF (uF M 0 0) 12 0) 1 0) (mkL N) hA0
          have kN : RN (tN T) (sA (bgsM (uF (uF (uF M 0 0) 12 0) 1 0) (mkL N)) 5) (sA (bgsM (uF (uF (uF M 0 0) 12 0) 1 0) (mkL N)) 6) (sA (bgsM (uF (uF (uF M 0 0) 12 0) 1 0) (mkL N)) 7) (sA (bgsM (uF (uF (uF M 0 0) 12 0) 1 0) (mkL N)) 8) (sA (bgsM (uF (uF (uF M 0 0) 12 0) 1 0) (mkL N)) 9) (sA (bgsM (uF (uF (uF M 0 0) 12 0) 1 0) (mkL N)) 10) := by
            rw [bgsM_A (by decide), bgsM_A (by decide), bgsM_A (by decide), bgsM_A (by decide), bgsM_A (by decide), bgsM_A (by decide)]
            exact hN
          have kS : RS (tS T) (sA (bgsM (uF (uF (uF M 0 0) 12 0) 1 0) (mkL N)) 2) (sA (bgsM (uF (uF (uF M 0 0) 12 0) 1 0) (mkL N)) 3) (sA (bgsM (uF (uF (uF M 0 0) 12 0) 1 0) (mkL N)) 4) := by
            rw [bgsM_A (by decide), bgsM_A (by decide), bgsM_A (by decide)]
            exact hS
          exact ⟨kS, kN, k, Eq.trans (b := (0 : Int32)) rfl (bgsM_F (s := uF (uF (uF M 0 0) 12 0) 1 0) (j := 1) (by decide) _).symm⟩
    · simp only [if_pos h1, if_neg h2, one_ne, zero_eq, imp_F, not_F, not_T, imp_T, and_true, true_and]
      exact ⟨hS, hN, hA, hF⟩
  · simp only [if_neg h1, zero_eq, imp_F, not_T, imp_T, and_true, true_and]
    exact ⟨hS, hN, hA, hF⟩
