/-! going round, in numbers: o the order of n lines; 2 is a line that is not led yet -/
def xp (x : Nat) : Nat := if x % 2 = 0 then x + 1 else x - 1
theorem xp_I : ∀ x : Nat, x < 16 → nI x ^^^ 1 = nI (xp x) := by decide
theorem xp_xp (x : Nat) : xp (xp x) = x := by
  unfold xp
  split <;> split <;> omega
theorem xp_ne (x : Nat) : xp x ≠ x := by
  unfold xp
  split <;> omega
theorem xp_half (x : Nat) : xp x / 2 = x / 2 := by
  unfold xp
  split <;> omega
theorem xp_lt {x m : Nat} (h : x < 2 * m) : xp x < 2 * m := by
  unfold xp
  split <;> omega
theorem xp_par (x : Nat) : xp x % 2 = 1 - x % 2 := by
  unfold xp
  split <;> omega
def prm (n : Nat) (o : Nat → Nat) : Prop := (∀ i, i < n → o i < n) ∧ ∀ i j, i < n → j < n → o i = o j → i = j
theorem prm_sur {n : Nat} {o : Nat → Nat} (h : prm n o) {v : Nat} (hv : v < n) : ∃ i, i < n ∧ o i = v := by
  cases e : anyT (fun i => decide (o i = v)) n with
  | true =>
    obtain ⟨i, h1, h2⟩ := anyT_iff.mp e
    exact ⟨i, h1, of_decide_eq_true h2⟩
  | false =>
    have no : ∀ i, i < n → o i ≠ v := by
      intro i hi q
      have := (anyT_iff (P := fun i => decide (o i = v)) (n := n)).mpr ⟨i, hi, decide_eq_true q⟩
      rw [e] at this
      cases this
    have := pigeon (n - 1) n (fun i => if o i = n - 1 then v else o i) (fun i hi => ?_) (fun i j hi hj q => ?_)
    · omega
    · show (if o i = n - 1 then v else o i) < n - 1
      have a1 := h.1 i hi
      have a2 := no i hi
      by_cases q : o i = n - 1
      · rw [if_pos q]
        omega
      · rw [if_neg q]
        omega
    · have q' : (if o i = n - 1 then v else o i) = (if o j = n - 1 then v else o j) := q
      have a2 := no i hi
      have a3 := no j hj
      refine h.2 i j hi hj ?_
      by_cases q1 : o i = n - 1
      · by_cases q2 : o j = n - 1
        · omega
        · rw [if_pos q1, if_neg q2] at q'
          omega
      · by_cases q2 : o j = n - 1
        · rw [if_neg q1, if_pos q2] at q'
          omega
        · rw [if_neg q1, if_neg q2] at q'
          exact q'
/-- the line in that goes out at v -/
def iv (n : Nat) (o : Nat → Nat) (v : Nat) : Nat := (frs (fun i => decide (o i = v)) n).getD 0
theorem iv_spec {n : Nat} {o : Nat → Nat} (h : prm n o) {v : Nat} (hv : v < n) : iv n o v < n ∧ o (iv n o v) = v := by
  unfold iv
  cases e : frs (fun i => decide (o i = v)) n with
  | none =>
    obtain ⟨i, h1, h2⟩ := prm_sur h hv
    have := frs_none e i h1
    rw [decide_eq_true h2] at this
    cases this
  | some i =>
    obtain ⟨h1, h2⟩ := frs_some e
    exact ⟨h1, of_decide_eq_true h2⟩
theorem iv_eq {n : Nat} {o : Nat → Nat} (h : prm n o) {i : Nat} (hi : i < n) : iv n o (o i) = i := by
  obtain ⟨h1, h2⟩ := iv_spec h (h.1 i hi)
  exact h.2 _ _ h1 hi h2
/-- the line in that comes by the other line of its switch out -/
def tau (n : Nat) (o : Nat → Nat) (i : Nat) : Nat := iv n o (xp (o i))
def upN (h : Nat → Nat) (k v : Nat) : Nat → Nat := fun j => if j = k then v else h j
theorem upN_s (h : Nat → Nat) (k v : Nat) : upN h k v k = v := if_pos rfl
theorem upN_o (h : Nat → Nat) {k j : Nat} (v : Nat) (e : j ≠ k) : upN h k v j = h j := if_neg e
def stp (n : Nat) (o h : Nat → Nat) (a : Nat) : Nat → Nat := upN (upN h a 0) (tau n o a) 1
/-- one round from a, with so many steps at most -/
def rg (n : Nat) (o : Nat → Nat) : Nat → (Nat → Nat) → Nat → (Nat → Nat)
  | 0, h, _ => h
  | f + 1, h, a => if h a = 2 then rg n o f (stp n o h a) (xp (tau n o a)) else h
def gr (n : Nat) (o : Nat → Nat) : Nat → (Nat → Nat)
  | 0 => fun _ => 2
  | s + 1 => rg n o n (gr n o s) s
def hf (n : Nat) (o : Nat → Nat) : Nat → Nat := gr n o n
def unl (n : Nat) (h : Nat → Nat) : Nat := cnt (fun i => decide (h i = 2)) n
section TAU
variable {m : Nat} {o : Nat → Nat}
theorem tau_lt (h : prm (2 * m) o) {i : Nat} (hi : i < 2 * m) : tau (2 * m) o i < 2 * m := (iv_spec h (xp_lt (h.1 i hi))).1
theorem tau_o (h : prm (2 * m) o) {i : Nat} (hi : i < 2 * m) : o (tau (2 * m) o i) = xp (o i) := (iv_spec h (xp_lt (h.1 i hi))).2
theorem tau_tau (h : prm (2 * m) o) {i : Nat} (hi : i < 2 * m) : tau (2 * m) o (tau (2 * m) o i) = i := by
  show iv (2 * m) o (xp (o (tau (2 * m) o i))) = i
  rw [tau_o h hi, xp_xp, iv_eq h hi]
theorem tau_ne (h : prm (2 * m) o) {i : Nat} (hi : i < 2 * m) : tau (2 * m) o i ≠ i := by
  intro q
  have := tau_o h hi
  rw [q] at this
  exact xp_ne _ this.symm
/-- all that are led are led in pairs: by their first switch, and by their last one -/
def clo (m : Nat) (o h : Nat → Nat) : Prop := ∀ i, i < 2 * m → h i ≠ 2 → h i < 2 ∧ (h (xp i) = 1 - h i) ∧ h (tau (2 * m) o i) = 1 - h i
/-- within a round from s: the next is a -/
def mid (m : Nat) (o h : Nat → Nat) (s a : Nat) : Prop := s < 2 * m ∧ a < 2 * m ∧ h s = 0 ∧ h (xp a) = 1 ∧ (h a ≠ 2 → a = s) ∧ (∀ i, i < 2 * m → h i ≠ 2 → h i < 2 ∧ h (tau (2 * m) o i) = 1 - h i) ∧ ∀ i, i < 2 * m → h i ≠ 2 → i ≠ s → i ≠ xp a → h (xp i) = 1 - h i
theorem mid_end {h : Nat → Nat} {s a : Nat} (hm : mid m o h s a) (ha : h a ≠ 2) : clo m o h := by
  obtain ⟨m1, m2, m3, m4, m5, m6, m7⟩ := hm
  have e := m5 ha
  subst e
  intro i hi hl
  refine ⟨(m6 i hi hl).1, ?_, (m6 i hi hl).2⟩
  by_cases e1 : i = a
  · rw [e1, m3, m4]
  · by_cases e2 : i = xp a
    · rw [e2, xp_xp, m3, m4]
    · exact m7 i hi hl e1 e2
/-- a step: what was closed but for the start stays so -/
theorem stp_mid (ho : prm (2 * m) o) {h : Nat → Nat} {s a : Nat} (hs : s < 2 * m) (ha : a < 2 * m) (hu : h a = 2) (hst : a = s ∨ h s = 0) (ht : ∀ i, i < 2 * m → h i ≠ 2 → h i < 2 ∧ h (tau (2 * m) o i) = 1 - h i) (hp : ∀ i, i < 2 * m → h i ≠ 2 → i ≠ s → xp i ≠ a → h (xp i) = 1 - h i) (hx : a = s ∨ h (xp a) = 1) (hxs : a = s → h (xp a) = 2) : mid m o (stp (2 * m) o h a) s (xp (tau (2 * m) o a)) := by
  have tl := tau_lt ho ha
  have tne := tau_ne ho ha
  have tt := tau_tau ho ha
  have tu : h (tau (2 * m) o a) = 2 := by
    cases Nat.decEq (h (tau (2 * m) o a)) 2 with
    | isTrue q => exact q
    | isFalse q =>
      obtain ⟨q1, q2⟩ := ht _ tl q
      rw [tt, hu] at q2
      omega
  have ea : stp (2 * m) o h a a = 0 := by
    unfold stp
    rw [upN_o _ _ (fun q => tne q.symm), upN_s]
  have et : stp (2 * m) o h a (tau (2 * m) o a) = 1 := upN_s _ _ _
  have eo : ∀ i, i ≠ a → i ≠ tau (2 * m) o a → stp (2 * m) o h a i = h i := by
    intro i q1 q2
    unfold stp
    rw [upN_o _ _ q2, upN_o _ _ q1]
  have hs0 : stp (2 * m) o h a s = 0 := by
    by_cases q : s = a
    · rw [q]
      exact ea
    · rcases hst with q2 | q2
      · exact absurd q2.symm q
      · rw [eo s q (fun q3 => by rw [q3, tu] at q2; omega)]
        exact q2
  refine ⟨hs, xp_lt tl, hs0, ?_, fun q => ?_, fun i hi hl => ?_, fun i hi hl h1 h2 => ?_⟩
  · rw [xp_xp]
    exact et
  · -- the next is led: it is the start
    by_cases q1 : xp (tau (2 * m) o a) = s
    · exact q1
    · exfalso
      by_cases q2 : xp (tau (2 * m) o a) = a
      · -- then the other one of a's switch is the one just led
        have q3 : xp a = tau (2 * m) o a := by
          have := congrArg xp q2
          rw [xp_xp] at this
          exact this.symm
        rcases hx with q4 | q4
        · exact q1 (q2.trans q4)
        · rw [q3, tu] at q4
          omega
      · rw [eo _ q2 (xp_ne _)] at q
        have := hp _ (xp_lt tl) q q1 (by rw [xp_xp]; exact tne)
        rw [xp_xp, tu] at this
        have b := (ht _ (xp_lt tl) q).1
        omega
  · by_cases q1 : i = a
    · rw [q1, ea, et]
      exact ⟨by omega, rfl⟩
    · by_cases q2 : i = tau (2 * m) o a
      · rw [q2, tt, ea, et]
        exact ⟨by omega, rfl⟩
      · rw [eo i q1 q2] at hl ⊢
        obtain ⟨b1, b2⟩ := ht i hi hl
        refine ⟨b1, ?_⟩
        rw [eo _ (fun q3 => ?_) (fun q3 => ?_)]
        · exact b2
        · exact q2 (by rw [← q3, tau_tau ho hi])
        · have := congrArg (tau (2 * m) o) q3
          rw [tau_tau ho hi, tt] at this
          exact q1 this
  · rw [xp_xp] at h2
    by_cases q1 : i = a
    · rw [q1]
      rcases hx with q2 | q2
      · exact absurd (q1.trans q2) h1
      · rw [ea, eo (xp a) (xp_ne _) (fun q3 => by rw [q3, tu] at q2; omega)]
        exact q2
    · rw [eo i q1 h2] at hl ⊢
      by_cases q3 : xp i = a
      · rw [q3, ea]
        rcases hx with q4 | q4
        · have := hxs q4
          rw [← q3, xp_xp] at this
          exact absurd this hl
        · rw [← q3, xp_xp] at q4
          omega
      · have b := hp i hi hl h1 q3
        rw [eo _ q3 (fun q4 => ?_)]
        · exact b
        · rw [q4, tu] at b
          have := (ht i hi hl).1
          omega
theorem unl_stp (ho : prm (2 * m) o) {h : Nat → Nat} {a : Nat} (ha : a < 2 * m) (hu : h a = 2) : unl (2 * m) (stp (2 * m) o h a) < unl (2 * m) h := by
  have e1 : unl (2 * m) h = unl (2 * m) (upN h a 0) + 1 := by
    unfold unl
    refine cnt_up (f := fun i => decide (upN h a 0 i = 2)) (g := fun i => decide (h i = 2)) (x := a) ?_ ?_ ?_ (2 * m) ha
    · show decide (upN h a 0 a = 2) = false
      rw [upN_s]
      rfl
    · exact decide_eq_true hu
    · intro j hj
      show decide (h j = 2) = decide (upN h a 0 j = 2)
      rw [upN_o _ _ hj]
  have e2 : unl (2 * m) (stp (2 * m) o h a) ≤ unl (2 * m) (upN h a 0) := by
    have tl := tau_lt ho ha
    unfold unl
    cases q : decide (upN h a 0 (tau (2 * m) o a) = 2) with
    | true =>
      rw [cnt_up (f := fun i => decide (stp (2 * m) o h a i = 2)) (g := fun i => decide (upN h a 0 i = 2)) (x := tau (2 * m) o a) ?_ q ?_ (2 * m) tl]
      · omega
      · show decide (upN (upN h a 0) (tau (2 * m) o a) 1 (tau (2 * m) o a) = 2) = false
        rw [upN_s]
        rfl
      · intro j hj
        show decide (upN h a 0 j = 2) = decide (upN (upN h a 0) (tau (2 * m) o a) 1 j = 2)
        rw [upN_o (upN h a 0) _ hj]
    | false =>
      rw [cnt_same (f := fun i => decide (stp (2 * m) o h a i = 2)) (g := fun i => decide (upN h a 0 i = 2)) (2 * m) (fun j hj => ?_)]
      · exact Nat.le_refl _
      · show decide (upN (upN h a 0) (tau (2 * m) o a) 1 j = 2) = decide (upN h a 0 j = 2)
        by_cases q2 : j = tau (2 * m) o a
        · rw [q2, upN_s, q]
          rfl
        · rw [upN_o (upN h a 0) _ q2]
  omega
theorem unl_pos {n : Nat} {h : Nat → Nat} {a : Nat} (ha : a < n) (hu : h a = 2) : 0 < unl n h := by
  have e : cnt (fun i => decide (h i = 2)) (a + 1) = cnt (fun i => decide (h i = 2)) a + 1 := by
    rw [cnt_s]
    show _ + (if decide (h a = 2) = true then 1 else 0) = _
    rw [decide_eq_true hu]
    rfl
  have := cnt_mo (f := fun i => decide (h i = 2)) (show a + 1 ≤ n by omega)
  unfold unl
  omega
theorem unl_le (n : Nat) (h : Nat → Nat) : unl n h ≤ n := cnt_le _ _
theorem rg_mid (ho : prm (2 * m) o) {s : Nat} : ∀ (f : Nat) (h : Nat → Nat) (a : Nat), unl (2 * m) h ≤ f → mid m o h s a → clo m o (rg (2 * m) o f h a) ∧ rg (2 * m) o f h a s ≠ 2 ∧ ∀ i, i < 2 * m → h i ≠ 2 → rg (2 * m) o f h a i ≠ 2
  | 0, h, a, hf, hm => by
    have e : h a ≠ 2 := fun q => by have := unl_pos hm.2.1 q; omega
    refine ⟨mid_end hm e, ?_, fun i _ q => q⟩
    show h s ≠ 2
    have := hm.2.2.1
    omega
  | f + 1, h, a, hf, hm => by
    unfold rg
    by_cases e : h a = 2
    · rw [if_pos e]
      have hm2 := hm
      obtain ⟨m1, m2, m3, m4, m5, m6, m7⟩ := hm
      have as : a ≠ s := fun q => by rw [q, m3] at e; omega
      have hmid := stp_mid ho m1 m2 e (Or.inr m3) m6 (fun i hi hl h1 h2 => m7 i hi hl h1 (fun q => h2 (by rw [q, xp_xp]))) (Or.inr m4) (fun q => absurd q as)
      have hu := unl_stp ho m2 e
      obtain ⟨r1, r2, r3⟩ := rg_mid ho f _ _ (by omega) hmid
      refine ⟨r1, r2, fun i hi hl => r3 i hi ?_⟩
      unfold stp
      by_cases q : i = tau (2 * m) o a
      · rw [q, upN_s]
        omega
      · rw [upN_o _ _ q]
        by_cases q2 : i = a
        · rw [q2, upN_s]
          omega
        · rw [upN_o _ _ q2]
          exact hl
    · rw [if_neg e]
      refine ⟨mid_end hm e, ?_, fun i _ q => q⟩
      have := hm.2.2.1
      omega
theorem gr_clo (ho : prm (2 * m) o) : ∀ s, s ≤ 2 * m → clo m o (gr (2 * m) o s) ∧ ∀ i, i < s → gr (2 * m) o s i ≠ 2
  | 0, _ => ⟨fun i _ q => absurd rfl q, fun i hi => absurd hi (Nat.not_lt_zero _)⟩
  | s + 1, hs => by
    obtain ⟨c1, c2⟩ := gr_clo ho s (by omega)
    have hsl : s < 2 * m := by omega
    unfold gr
    obtain ⟨m', hm'⟩ : ∃ f, 2 * m = f + 1 := ⟨2 * m - 1, by omega⟩
    by_cases e : gr (2 * m) o s s = 2
    · have hmid := stp_mid ho hsl hsl e (Or.inl rfl) (fun i hi hl => ⟨(c1 i hi hl).1, (c1 i hi hl).2.2⟩) (fun i hi hl _ _ => (c1 i hi hl).2.1) (Or.inl rfl) (fun _ => by
        cases Nat.decEq (gr (2 * m) o s (xp s)) 2 with
        | isTrue q => exact q
        | isFalse q =>
          obtain ⟨q1, q2, _⟩ := c1 _ (xp_lt hsl) q
          rw [xp_xp, e] at q2
          omega)
      have hu := unl_stp ho hsl e
      have hul := unl_le (2 * m) (gr (2 * m) o s)
      have er : rg (2 * m) o (2 * m) (gr (2 * m) o s) s = rg (2 * m) o m' (stp (2 * m) o (gr (2 * m) o s) s) (xp (tau (2 * m) o s)) := by
        show rg (2 * m) o (2 * m) (gr (2 * m) o s) s = _
        have : rg (2 * m) o (m' + 1) (gr (2 * m) o s) s = rg (2 * m) o m' (stp (2 * m) o (gr (2 * m) o s) s) (xp (tau (2 * m) o s)) := if_pos e
        rw [← hm'] at this
        exact this
      rw [er]
      obtain ⟨r1, r2, r3⟩ := rg_mid ho m' _ _ (by omega) hmid
      refine ⟨r1, fun i hi => ?_⟩
      by_cases q : i = s
      · rw [q]
        exact r2
      · refine r3 i (by omega) ?_
        unfold stp
        by_cases q : i = tau (2 * m) o s
        · rw [q, upN_s]
          omega
        · rw [upN_o _ _ q]
          by_cases q2 : i = s
          · rw [q2, upN_s]
            omega
          · rw [upN_o _ _ q2]
            exact c2 i (by omega)
    · have er : rg (2 * m) o (2 * m) (gr (2 * m) o s) s = gr (2 * m) o s := by
        have : rg (2 * m) o (m' + 1) (gr (2 * m) o s) s = gr (2 * m) o s := if_neg e
        rw [← hm'] at this
        exact this
      rw [er]
      refine ⟨c1, fun i hi => ?_⟩
      by_cases q : i = s
      · rw [q]
        exact e
      · exact c2 i (by omega)
/-- every line is led, one of each switch by each half, on either side -/
theorem hf_spec (ho : prm (2 * m) o) {i : Nat} (hi : i < 2 * m) : hf (2 * m) o i < 2 ∧ hf (2 * m) o (xp i) = 1 - hf (2 * m) o i ∧ hf (2 * m) o (tau (2 * m) o i) = 1 - hf (2 * m) o i := by
  obtain ⟨c1, c2⟩ := gr_clo ho (2 * m) (Nat.le_refl _)
  exact c1 i hi (c2 i hi)
/-- what the halves are handed -/
def nx (m : Nat) (o : Nat → Nat) (p : Nat) : Nat := o (if hf (2 * m) o (2 * (p % m)) = p / m then 2 * (p % m) else 2 * (p % m) + 1) / 2
theorem nx_at (ho : prm (2 * m) o) {i : Nat} (hi : i < 2 * m) : nx m o (hf (2 * m) o i * m + i / 2) = o i / 2 := by
  obtain ⟨h1, h2, h3⟩ := hf_spec ho hi
  have e1 : (hf (2 * m) o i * m + i / 2) % m = i / 2 := by
    rw [Nat.mul_comm, Nat.mul_add_mod, Nat.mod_eq_of_lt (by omega)]
  have e2 : (hf (2 * m) o i * m + i / 2) / m = hf (2 * m) o i := by
    rw [Nat.mul_comm, Nat.mul_add_div (by omega), Nat.div_eq_of_lt (by omega), Nat.add_zero]
  unfold nx
  rw [e1, e2]
  congr 2
  obtain q | q : i % 2 = 0 ∨ i % 2 = 1 := by omega
  · have : 2 * (i / 2) = i := by omega
    rw [this, if_pos rfl]
  · have e3 : 2 * (i / 2) = xp i := by
      unfold xp
      rw [if_neg (by omega)]
      omega
    rw [e3, h2, if_neg (by omega), ← e3]
    omega
theorem nx_prm (ho : prm (2 * m) o) {h : Nat} (hh : h < 2) : prm m (fun q => nx m o (h * m + q)) := by
  have pick : ∀ q, q < m → ∃ i, i < 2 * m ∧ i / 2 = q ∧ hf (2 * m) o i = h := by
    intro q hq
    obtain ⟨h1, h2, h3⟩ := hf_spec ho (show 2 * q < 2 * m by omega)
    by_cases e : hf (2 * m) o (2 * q) = h
    · exact ⟨2 * q, by omega, by omega, e⟩
    · have ex : xp (2 * q) = 2 * q + 1 := by
        unfold xp
        rw [if_pos (by omega)]
      refine ⟨2 * q + 1, by omega, by omega, ?_⟩
      rw [← ex, h2]
      omega
  refine ⟨fun q hq => ?_, fun q r hq hr e => ?_⟩
  · obtain ⟨i, i1, i2, i3⟩ := pick q hq
    have := nx_at ho i1
    rw [i3, i2] at this
    show nx m o (h * m + q) < m
    rw [this]
    have := ho.1 i i1
    omega
  · obtain ⟨i, i1, i2, i3⟩ := pick q hq
    obtain ⟨j, j1, j2, j3⟩ := pick r hr
    have e1 := nx_at ho i1
    have e2 := nx_at ho j1
    rw [i3, i2] at e1
    rw [j3, j2] at e2
    have e' : nx m o (h * m + q) = nx m o (h * m + r) := e
    rw [e1, e2] at e'
    have : o i = o j ∨ o i = xp (o j) := by
      unfold xp
      by_cases q : o j % 2 = 0
      · rw [if_pos q]
        omega
      · rw [if_neg q]
        omega
    rcases this with q3 | q3
    · have := ho.2 i j i1 j1 q3
      rw [← i2, ← j2, this]
    · have q4 : i = tau (2 * m) o j := by
        refine ho.2 i _ i1 (tau_lt ho j1) ?_
        rw [tau_o ho j1]
        exact q3
      have := (hf_spec ho j1).2.2
      rw [← q4, i3, j3] at this
      omega
end TAU
