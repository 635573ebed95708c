theorem st_10 : stepOK_10 Rel := by
  intro T M a1 h
  obtain ⟨hS, hN, hA, hF⟩ := h
  obtain ⟨h1, k, hk, h2, h3⟩ := id hA
  have h12 : sF (uF M 0 0) 12 = sF M 12 := rfl
  have ek : (nI k - 1).toInt = (k : Int) - 1 := tI_pred (by omega)
  simp only [pX5_trace, pX6_trace, pX0_traced, within_iff, in_iff, forall_eq, Int32.toInt_toInt64, l64_0, l32_0, h12, h1, h2, ek, sA_uF]
  by_cases hp : 0 ≤ a1.toInt ∧ a1.toInt ≤ (k : Int) - 1
  · obtain ⟨j, hj, rfl⟩ := nI_rg (n := k) hp.1 (by omega) (by omega)
    have hcj : (nI j).toNatClampNeg = j := nI_clamp (by omega)
    simp only [if_pos hp, one_ne, imp_F, not_F, imp_T, true_and, hcj]
    exact ⟨vp_in_nI (by omega) (by omega), vp_in_nI (by omega) (by omega), h3 j hj, hS, hN, hA, hF⟩
  · simp only [if_neg hp, zero_eq, imp_F, not_T, imp_T, and_true, true_and]
    exact ⟨hS, hN, hA, hF⟩
def bgC (s : St) (b : Int32) : St := if 16 ≤ sF s 1 then s else uF (uA s 0 (upd (sA s 0) (sF s 1).toNatClampNeg b)) 1 (sF s 1 + 1)
def bgM (s : St) (b : Int32) : St := if 16 ≤ sF s 12 then s else uF (uA s 11 (upd (sA s 11) (sF s 12).toNatClampNeg b)) 12 (sF s 12 + 1)
def rgI (x : Int32) : Prop := ∃ k, k ≤ 16 ∧ x = nI k
theorem c_begin {s : St} {b : Int32} {Q : St → Prop} (hr : rgI (sF s 1)) (h : Q (bgC s b)) : pX0_begin s b Q := by
  unfold pX0_begin
  unfold bgC at h
  obtain ⟨k, hk, e⟩ := hr
  refine ⟨fun q => ?_, fun q => ⟨?_, ?_⟩⟩
  · rw [if_pos (show (16 : Int32) ≤ sF s 1 from q)] at h
    exact h
  · rw [e] at q ⊢
    have : ¬ 16 ≤ k := fun q2 => q ((nI_le_iff (a := 16) (b := k) (by omega) (by omega)).mpr q2)
    exact vp_in_nI (by omega) (by omega)
  · rintro _ rfl _ rfl
    rw [if_neg (show ¬ (16 : Int32) ≤ sF s 1 from q)] at h
    exact h
theorem m_began {s : St} {b : Int32} {Q : St → Prop} (hr : rgI (sF s 12)) (h : Q (bgM s b)) : pX6_began s b Q := by
  unfold pX6_began
  unfold bgM at h
  obtain ⟨k, hk, e⟩ := hr
  refine ⟨fun q => ?_, fun q => ⟨?_, ?_⟩⟩
  · rw [if_pos q] at h
    exact h
  · rw [e] at q ⊢
    have : ¬ 16 ≤ k := fun q2 => q ((nI_le_iff (a := 16) (b := k) (by omega) (by omega)).mpr q2)
    exact vp_in_nI (by omega) (by omega)
  · rintro _ rfl _ rfl
    rw [if_neg q] at h
    exact h
theorem bgC_rg {s : St} {b : Int32} (hr : rgI (sF s 1)) : rgI (sF (bgC s b) 1) := by
  unfold bgC
  obtain ⟨k, hk, e⟩ := hr
  by_cases q : 16 ≤ sF s 1
  · rw [if_pos q]; exact ⟨k, hk, e⟩
  · rw [if_neg q]
    rw [e] at q ⊢
    have : ¬ 16 ≤ k := fun q2 => q ((nI_le_iff (a := 16) (b := k) (by omega) (by omega)).mpr q2)
    exact ⟨k + 1, by omega, nI_add k 1⟩
theorem bgM_rg {s : St} {b : Int32} (hr : rgI (sF s 12)) : rgI (sF (bgM s b) 12) := by
  unfold bgM
  obtain ⟨k, hk, e⟩ := hr
  by_cases q : 16 ≤ sF s 12
  · rw [if_pos q]; exact ⟨k, hk, e⟩
  · rw [if_neg q]
    rw [e] at q ⊢
    have : ¬ 16 ≤ k := fun q2 => q ((nI_le_iff (a := 16) (b := k) (by omega) (by omega)).mpr q2)
    exact ⟨k + 1, by omega, nI_add k 1⟩
theorem bgM_A {s : St} {b : Int32} {j : Nat} (hj : j ≠ 11) : sA (bgM s b) j = sA s j := by
  unfold bgM
  by_cases q : 16 ≤ sF s 12
  · rw [if_pos q]
  · rw [if_neg q, sA_uF, sA_uA, if_neg hj]
theorem bgM_F {s : St} {b : Int32} {j : Nat} (hj : j ≠ 12) : sF (bgM s b) j = sF s j := by
  unfold bgM
  by_cases q : 16 ≤ sF s 12
  · rw [if_pos q]
  · rw [if_neg q, sF_uF, if_neg hj, sF_uA]
theorem RA_rg {sa : St} {tr : Nat → Int32} {n : Int32} (h : RA sa tr n) : rgI (sF sa 1) ∧ rgI n := by
  obtain ⟨h1, k, hk, h2, h3⟩ := h
  exact ⟨⟨k, hk, h1.trans h2⟩, ⟨k, hk, h2⟩⟩
theorem RA_bg {sa M : St} {b : Int32} (h : RA sa (sA M 11) (sF M 12)) : RA (bgC sa b) (sA (bgM M b) 11) (sF (bgM M b) 12) := by
  obtain ⟨h1, k, hk, h2, h3⟩ := h
  unfold bgC bgM
  rw [h1]
  by_cases q : 16 ≤ sF M 12
  · rw [if_pos q, if_pos q]
    exact ⟨h1, k, hk, h2, h3⟩
  · rw [if_neg q, if_neg q]
    rw [h2] at q ⊢
    have hlt : ¬ 16 ≤ k := fun q2 => q ((nI_le_iff (a := 16) (b := k) (by omega) (by omega)).mpr q2)
    refine ⟨rfl, k + 1, by omega, nI_add k 1, fun j hj => ?_⟩
    show upd (sA sa 0) (nI k).toNatClampNeg b j = upd (sA M 11) (nI k).toNatClampNeg b j
    rw [nI_clamp (by omega)]
    unfold upd
    by_cases e : j = k
    · rw [if_pos e, if_pos e]
    · rw [if_neg e, if_neg e]
      exact h3 j (by omega)
def bgsC (s : St) (L : List Int32) : St := L.foldl bgC s
def bgsM (s : St) (L : List Int32) : St := L.foldl bgM s
theorem RA_bgs {sa M : St} (L : List Int32) (h : RA sa (sA M 11) (sF M 12)) : RA (bgsC sa L) (sA (bgsM M L) 11) (sF (bgsM M L) 12) := by
  induction L generalizing sa M with
  | nil => exact h
  | cons b L ih => exact ih (RA_bg h)
theorem bgsM_A {s : St} {j : Nat} (hj : j ≠ 11) (L : List Int32) : sA (bgsM s L) j = sA s j := by
  induction L generalizing s with
  | nil => rfl
  | cons b L ih => exact (ih (s := bgM s b)).trans (bgM_A hj)
theorem bgsM_F {s : St} {j : Nat} (hj : j ≠ 12) (L : List Int32) : sF (bgsM s L) j = sF s j := by
  induction L generalizing s with
  | nil => rfl
  | cons b L ih => exact (ih (s := bgM s b)).trans (bgM_F hj)
theorem cnt_ext {f : Nat → Bool} {a : Nat} : ∀ {b : Nat}, a ≤ b → (∀ j, a ≤ j → f j = false) → cnt f b = cnt f a
  | 0, h, _ => by rw [show a = 0 by omega]
  | b + 1, h, hf => by
    by_cases e : a = b + 1
    · rw [e]
    · show cnt f b + (if f b then 1 else 0) = _
      rw [cnt_ext (b := b) (by omega) hf, hf b (by omega)]
      rfl
theorem rn_le {N : NSt} (hw : NWf N) : 1 ≤ nR N * nL N ∧ nR N * nL N ≤ 36 := by
  have h1 := hw.2.1
  have h2 := hw.2.2.1
  exact ⟨Nat.mul_pos (by omega) (by omega), Nat.mul_le_mul h2.2 h1.2⟩
theorem nI_none {b : Nat} (h : b < 2 ^ 31) : nI b ≠ -1000000 := by
  intro q
  have := congrArg Int32.toInt q
  rw [nI_toInt h, show (-1000000 : Int32).toInt = -1000000 by decide] at this
  omega
theorem m_calls {N : NSt} {p : Nat} (hp : p < 6) {M : St} (hw : NWf N) (hm : MRep N p (sA M 5) (sA M 6) (sA M 7) (sA M 8) (sA M 9) (sA M 10)) {Q : Int32 → Prop} (h : Q (nI (cls N))) : pX6_calls M (nI p) Q := by
  obtain ⟨⟨m1, m2, m3⟩, m4, m5, m6⟩ := id hm
  have hr := rn_le hw
  have e36 : cls N = cnt (fun a => (nC N a).isSome) 36 := by
    unfold cls
    exact (cnt_ext hr.2 (fun j hj => by rw [hw.2.2.2.1 j hj]; rfl)).symm
  rw [e36] at h
  unfold pX6_calls lX6_calls_4
  refine lp_cnt 36 (by omega) (fun k => nI (cnt (fun a => (nC N a).isSome) k)) (fun k K hk hK => ?_) (fun K => ?_)
  · show bX6_calls_4 M (nI p) _ _ (nI _) (nI k)
    unfold bX6_calls_4
    rw [cl6 hp, m1, ix36, nI_clamp (by omega), m5 k hk]
    refine ⟨fun q => absurd q (nI_ge (b := 36) hk (by omega)), fun _ => ⟨in6 hp, fun q => absurd q (m_pos hw), fun _ => ⟨vp_in_nI (by omega) (by omega), fun q => ?_, fun q => ?_⟩⟩⟩
    · rintro _ rfl _ rfl
      have e : nC N k = none := by
        cases hd : nC N k with
        | none => rfl
        | some z =>
          rw [hd] at q
          obtain ⟨b, x⟩ := z
          have := (hw.2.2.2.2.1 k b x hd).1
          exact absurd q (nI_none (by omega))
      rw [show nI k + 1 = nI (k + 1) from nI_add k 1, show nI (cnt (fun a => (nC N a).isSome) k) + 0 = nI (cnt (fun a => (nC N a).isSome) (k + 1)) from by
        rw [show (0 : Int32) = nI 0 from rfl, nI_add]; show _ = nI (cnt (fun a => (nC N a).isSome) k + (if (nC N k).isSome = true then 1 else 0)); rw [e]; rfl]
      exact hK
    · rintro _ rfl _ rfl
      have e : (nC N k).isSome = true := by
        cases hd : nC N k with
        | none => rw [hd] at q; exact absurd rfl q
        | some z => rfl
      rw [show nI k + 1 = nI (k + 1) from nI_add k 1, show nI (cnt (fun a => (nC N a).isSome) k) + 1 = nI (cnt (fun a => (nC N a).isSome) (k + 1)) from by
        rw [show (1 : Int32) = nI 1 from rfl, nI_add]; show _ = nI (cnt (fun a => (nC N a).isSome) k + (if (nC N k).isSome = true then 1 else 0)); rw [e]; rfl]
      exact hK
  · show bX6_calls_4 M (nI p) _ _ (nI _) (nI _)
    unfold bX6_calls_4
    exact ⟨fun _ => h, fun q => absurd (nI_le (a := 36) (Nat.le_refl _) (by omega)) q⟩
