def wXF (cy : Nat → ClassId) (o : Nat) (ad ln : Nat → Nat) (s : St) : va_W := [(ad 0, .inl (cy 0, (ln 0), .inl (sA s 0)))]
theorem wXF_g0 (cy : Nat → ClassId) (o : Nat) (ad ln : Nat → Nat) (s : St) : (wXF cy o ad ln s)[0]? = some (ad 0, .inl (cy 0, (ln 0), .inl (sA s 0))) := rfl
theorem wXF_s0 (cy : Nat → ClassId) (o : Nat) (ad ln : Nat → Nat) (s : St) (f : Nat → Int32) : (wXF cy o ad ln s).set 0 (ad 0, .inl (cy 0, (ln 0), .inl f)) = wXF cy o ad ln (uA s 0 f) := rfl
def bJ7_fill_53178_5 (ln : Nat → Nat)  (x1 : Int32) (x3 : Int32) (k20 : St → Prop) (kH : St → Int32 → Prop) (s : St) (x2 : Int32) : Prop :=
  (x3 ≤ x2 → k20 s) ∧ (¬ x3 ≤ x2 → (vp_in x2 (ln 0)) ∧ ∀ s13 : St, s13 = (uA s 0 (upd (sA s 0) x2.toNatClampNeg x1)) → ∀ x2_14 : Int32, x2_14 = x2 + 1 → kH s13 x2_14)
def lJ7_fill_53178_5 (ln : Nat → Nat)  (x1 : Int32) (x3 : Int32) (k20 : St → Prop) (s : St) (x2 : Int32) : Prop := lp (σ := St × Int32) (fun K q => bJ7_fill_53178_5 ln x1 x3 k20 (fun s x2 => K (s, x2)) q.1 q.2) (s, x2)
def pJ7_fill_53178 (ln : Nat → Nat) (s : St) (x1 : Int32) (Q : St → Prop) : Prop :=
  ∀ x3_4 : Int32, x3_4 = (Int32.ofNat (ln 0)) → lJ7_fill_53178_5 ln x1 x3_4 (fun (s_20 : St) => Q s_20) s 0
