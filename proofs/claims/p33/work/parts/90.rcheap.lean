/-! ===== the reference's cheapest ways: one step ===== -/
section R90
variable {h g : LH} {n k M d : Nat}
theorem tia {x y : Int32} (h1 : -1000000000 ≤ x.toInt + y.toInt) (h2 : x.toInt + y.toInt ≤ 1000000000) : (x + y).toInt = x.toInt + y.toInt := by
  rw [Int32.toInt_add, Int.bmod_eq_of_le (by omega) (by omega)]
theorem tis {x y : Int32} (h1 : -1000000000 ≤ x.toInt - y.toInt) (h2 : x.toInt - y.toInt ≤ 1000000000) : (x - y).toInt = x.toInt - y.toInt := by
  rw [Int32.toInt_sub, Int.bmod_eq_of_le (by omega) (by omega)]
theorem tin {x : Int32} (h1 : -1000000000 ≤ x.toInt) (h2 : x.toInt ≤ 1000000000) : (-x).toInt = -x.toInt := by
  rw [Int32.toInt_neg, Int.bmod_eq_of_le (by omega) (by omega)]
theorem far_ti : (1000000 : Int32).toInt = 1000000 := rfl
theorem z_ti : (0 : Int32).toInt = 0 := rfl
theorem ti_far {x : Int32} (e : x.toInt < 1000000) : x ≠ 1000000 := fun z => by rw [z, far_ti] at e; omega
theorem ti_0 {x : Int32} (e : x.toInt = 0) : x = 0 := Int32.toInt_inj.mp e
/-- an arc as it goes (even) or back (odd): from, to, cost, room -/
def eF (h : LH) (r : Nat) : Nat := (if r % 2 = 0 then rm h (r / 2) 0 else rm h (r / 2) 1).toNatClampNeg
def eT (h : LH) (r : Nat) : Nat := (if r % 2 = 0 then rm h (r / 2) 1 else rm h (r / 2) 0).toNatClampNeg
def eC (h : LH) (r : Nat) : Int32 := if r % 2 = 0 then h.1 292 (r / 2) else -h.1 292 (r / 2)
def eR (h : LH) (r : Nat) : Int32 := if r % 2 = 0 then h.1 291 (r / 2) - h.1 293 (r / 2) else h.1 293 (r / 2)
/-- what is carried stands between 0 and the bounds -/
def CB (h : LH) (n k : Nat) : Prop := RM h n k ∧ (∀ a, a < k → 0 ≤ (h.1 293 a).toInt ∧ (h.1 293 a).toInt ≤ (h.1 291 a).toInt ∧ (h.1 291 a).toInt ≤ 100) ∧ (∀ a, a < k → -100 ≤ (h.1 292 a).toInt ∧ (h.1 292 a).toInt ≤ 100) ∧ ∀ p, p < n → -5000 ≤ (h.1 294 p).toInt ∧ (h.1 294 p).toInt ≤ 5000
theorem RM.eFT (H : RM h n k) {r : Nat} (hr : r < 2 * k) : And ((if r % 2 = 0 then rm h (r / 2) 0 else rm h (r / 2) 1) = nI (eF h r) ∧ eF h r < n) ((if r % 2 = 0 then rm h (r / 2) 1 else rm h (r / 2) 0) = nI (eT h r) ∧ eT h r < n) := by
  have hn := H.1
  obtain ⟨p, q, hp, hq, ep, eq⟩ := H.ends (a := r / 2) (by omega)
  unfold eF eT
  have cp : (nI p).toNatClampNeg = p := nI_clamp (by omega)
  have cq : (nI q).toNatClampNeg = q := nI_clamp (by omega)
  by_cases c : r % 2 = 0
  · rw [if_pos c, if_pos c, ep, eq, cp, cq]
    exact ⟨⟨rfl, hp⟩, rfl, hq⟩
  · rw [if_neg c, if_neg c, ep, eq, cp, cq]
    exact ⟨⟨rfl, hq⟩, rfl, hp⟩
theorem CB.eCI (B : CB h n k) {r : Nat} (hr : r < 2 * k) : -100 ≤ (eC h r).toInt ∧ (eC h r).toInt ≤ 100 := by
  have := B.2.2.1 (r / 2) (by omega)
  unfold eC
  by_cases c : r % 2 = 0
  · rw [if_pos c]
    exact this
  · rw [if_neg c, tin (by omega) (by omega)]
    omega
theorem CB.eRI (B : CB h n k) {r : Nat} (hr : r < 2 * k) : 0 ≤ (eR h r).toInt ∧ (eR h r).toInt ≤ 100 := by
  have := B.2.1 (r / 2) (by omega)
  unfold eR
  by_cases c : r % 2 = 0
  · rw [if_pos c, tis (by omega) (by omega)]
    omega
  · rw [if_neg c]
    omega
/-- prices by which none of the rest costs below 0 -/
def PT (h : LH) (k : Nat) (P : Nat → Int) : Prop := ∀ r, r < 2 * k → eR h r ≠ 0 → 0 ≤ (eC h r).toInt + P (eF h r) - P (eT h r)
/-- the cheapest so far: N steps gone, T tells when each was changed last -/
def BF (h : LH) (n k : Nat) (P : Nat → Int) (c b : Nat → Int32) (T : Nat → Nat) (N : Nat) : Prop := ∀ p, p < n → (c p = 1000000 ∧ b p = -1) ∨ (-(100 * (N : Int)) ≤ (c p).toInt ∧ (c p).toInt ≤ 100 * (N : Int) ∧ T p ≤ N ∧ ((b p = -1 ∧ ¬ h.1 294 p ≤ 0) ∨ ∃ r, r < 2 * k ∧ b p = nI r ∧ eR h r ≠ 0 ∧ eT h r = p ∧ c (eF h r) ≠ 1000000 ∧ (c (eF h r)).toInt + (eC h r).toInt ≤ (c p).toInt ∧ ((c (eF h r)).toInt - P (eF h r) < (c p).toInt - P p ∨ ((c (eF h r)).toInt - P (eF h r) = (c p).toInt - P p ∧ T (eF h r) < T p))))
def rxc (h : LH) (c : Nat → Int32) (r : Nat) : Prop := eR h r ≠ 0 ∧ c (eF h r) ≠ 1000000 ∧ c (eF h r) + eC h r < c (eT h r)
theorem BF.in' {P : Nat → Int} {c b : Nat → Int32} {T : Nat → Nat} {N p : Nat} (B : BF h n k P c b T N) (hp : p < n) (hc : c p ≠ 1000000) : -(100 * (N : Int)) ≤ (c p).toInt ∧ (c p).toInt ≤ 100 * (N : Int) := by
  rcases B p hp with ⟨z, -⟩ | ⟨h1, h2, -⟩
  · exact absurd z hc
  · exact ⟨h1, h2⟩
theorem BF.step (B0 : CB h n k) {P : Nat → Int} (Pt : PT h k P) {c b : Nat → Int32} {T : Nat → Nat} {N r : Nat} (B : BF h n k P c b T N) (hN : N ≤ 1000) (hr : r < 2 * k) (X : rxc h c r) : BF h n k P (fun p => if p = eT h r then c (eF h r) + eC h r else c p) (fun p => if p = eT h r then nI r else b p) (fun p => if p = eT h r then N + 1 else T p) (N + 1) ∧ eF h r ≠ eT h r ∧ (c (eF h r) + eC h r).toInt = (c (eF h r)).toInt + (eC h r).toInt ∧ (c (eF h r)).toInt + (eC h r).toInt < (c (eT h r)).toInt := by
  obtain ⟨x1, x2, x3⟩ := X
  obtain ⟨⟨-, hF⟩, -, hT⟩ := B0.1.eFT hr
  have kc := B0.eCI hr
  have bF := B.in' hF x2
  have es : (c (eF h r) + eC h r).toInt = (c (eF h r)).toInt + (eC h r).toInt := tia (by omega) (by omega)
  have lt : (c (eF h r)).toInt + (eC h r).toInt < (c (eT h r)).toInt := by
    rw [Int32.lt_iff_toInt_lt, es] at x3
    exact x3
  have pt := Pt r hr x1
  have ne : eF h r ≠ eT h r := by
    intro z
    rw [z] at lt pt
    omega
  refine ⟨fun p hp => ?_, ne, es, lt⟩
  have cN : ((N + 1 : Nat) : Int) = (N : Int) + 1 := by omega
  by_cases e : p = eT h r
  · refine Or.inr ?_
    simp only [if_pos e]
    rw [es, cN]
    refine ⟨by omega, by omega, by omega, Or.inr ⟨r, hr, rfl, x1, e.symm, ?_, ?_, ?_⟩⟩
    · simp only [if_neg ne]
      exact x2
    · simp only [if_neg ne]
      omega
    · simp only [if_neg ne]
      rw [e]
      have tF : T (eF h r) ≤ N := by
        rcases B (eF h r) hF with ⟨z, -⟩ | ⟨-, -, h3, -⟩
        · exact absurd z x2
        · exact h3
      rcases Int.lt_or_eq_of_le pt with z | z
      · exact Or.inl (by omega)
      · exact Or.inr ⟨by omega, by omega⟩
  · simp only [if_neg e]
    rcases B p hp with z | ⟨h1, h2, h3, h4⟩
    · exact Or.inl z
    · refine Or.inr ⟨by rw [cN]; omega, by rw [cN]; omega, by omega, ?_⟩
      rcases h4 with z | ⟨r2, q1, q2, q3, q4, q5, q6, q7⟩
      · exact Or.inl z
      · refine Or.inr ⟨r2, q1, q2, q3, q4, ?_⟩
        by_cases e2 : eF h r2 = eT h r
        · simp only [if_pos e2]
          rw [e2] at q5 q6 q7 ⊢
          rw [es]
          refine ⟨ti_far (by rw [es]; omega), by omega, Or.inl ?_⟩
          rcases q7 with z | z <;> omega
        · simp only [if_neg e2]
          exact ⟨q5, q6, q7⟩
/-! the Java of one step -/
theorem sx_rx (B : CB h n k) {r : Nat} (hr : r < 2 * k) {x1 x2 : Int32} (e1 : x1 = nI (r / 2)) (e2 : x2 = nI (r % 2)) {Q : tf_Q} (q1 : rxc h (h.1 295) r → Q (.int 1) (w1 (w1 h 295 (eT h r) (h.1 295 (eF h r) + eC h r)) 296 (eT h r) (nI r))) (q2 : ¬ rxc h (h.1 295) r → Q (.int 0) h) : tf_Cd 298 (d + 2) 96 [.ref 270, .int x1, .int x2] h Q := by
  have hn := B.1.1
  obtain ⟨⟨fF, hF⟩, fT, hT⟩ := B.1.eFT hr
  have v14 : vp_in x1 14 := by rw [e1]; exact vi_of (by omega) (by omega)
  have c1 : x1.toNatClampNeg = r / 2 := by rw [e1]; exact nI_clamp (by omega)
  have vF : vp_in (nI (eF h r)) 7 := vi_of (by omega) (by omega)
  have vT : vp_in (nI (eT h r)) 7 := vi_of (by omega) (by omega)
  have cF : (nI (eF h r)).toNatClampNeg = eF h r := nI_clamp (by omega)
  have cT : (nI (eT h r)).toNatClampNeg = eT h r := nI_clamp (by omega)
  have r2 : (2 : Int32) * x1 + x2 = nI r := by
    rw [e1, e2, show (2 : Int32) = nI 2 from rfl, nI_mul, nI_add]
    congr 1
    omega
  have e118 : ¬ rxc h (h.1 295) r → ∀ x3 x4 x5 x6 : Int32, lx_X9_relaxes 298 (tf_Cd 298 (d + 1)) Q 118 [.ref 270, .int x1, .int x2, .int x3, .int x4, .int x5, .int x6] [] h := fun z _ _ _ _ => go_X9_relaxes_118 (by decide) (q2 z)
  have e79 : lx_X9_relaxes 298 (tf_Cd 298 (d + 1)) Q 79 [.ref 270, .int x1, .int x2, .int (eR h r), .int (nI (eF h r)), .int (nI (eT h r)), tf_z] [.int (eC h r)] h := by
    refine go_X9_relaxes_79 (by decide) ⟨fun z => e118 (fun x => x.1 z) _ _ _ _, fun z => ⟨vF, ?_⟩⟩
    rw [cF, cT]
    refine ⟨fun z2 => e118 (fun x => x.2.1 z2) _ _ _ _, fun z2 => ⟨vF, vT, fun z3 => go_X9_relaxes_120 (by decide) ⟨vF, vT, vT, ?_⟩, fun z3 => e118 (fun x => z3 x.2.2) _ _ _ _⟩⟩
    rw [cF, cT, r2]
    exact q1 ⟨z, z2, z3⟩
  refine en_X9_relaxes (by decide) (go_X9_relaxes_0 (by decide) ⟨fun z => ?_, fun z => ?_⟩)
  · have r0 : r % 2 = 0 := by
      rw [e2] at z
      exact (nI_eq (a := r % 2) (b := 0) (by omega) (by omega)).mp z
    unfold eR eC at e79
    rw [if_pos r0] at e79 fF fT
    rw [if_pos r0] at e79
    refine ⟨v14, v14, ?_⟩
    rw [c1]
    refine go_X9_relaxes_26 (by decide) ⟨fun _ => go_X9_relaxes_38 (by decide) (sx_of (d := d) (r / 2) 0 e1 rfl (by omega) (by omega) _ (go_X9_relaxes_41 (by decide) ⟨fun _ => go_X9_relaxes_54 (by decide) (sx_of (d := d) (r / 2) 1 e1 rfl (by omega) (by omega) _ (go_X9_relaxes_57 (by decide) ⟨fun _ => ⟨v14, ?_⟩, fun y => absurd z y⟩)), fun y => absurd z y⟩)), fun y => absurd z y⟩
    rw [c1, fF, fT]
    exact e79
  · have r0 : ¬ r % 2 = 0 := fun y => z (by rw [e2, y]; rfl)
    unfold eR eC at e79
    rw [if_neg r0] at e79 fF fT
    rw [if_neg r0] at e79
    refine go_X9_relaxes_20 (by decide) ⟨v14, ?_⟩
    rw [c1]
    refine go_X9_relaxes_26 (by decide) ⟨fun y => absurd y z, fun _ => go_X9_relaxes_37 (by decide) (go_X9_relaxes_38 (by decide) (sx_of (d := d) (r / 2) 1 e1 rfl (by omega) (by omega) _ (go_X9_relaxes_41 (by decide) ⟨fun y => absurd y z, fun _ => go_X9_relaxes_53 (by decide) (go_X9_relaxes_54 (by decide) (sx_of (d := d) (r / 2) 0 e1 rfl (by omega) (by omega) _ (go_X9_relaxes_57 (by decide) ⟨fun y => absurd y z, fun _ => go_X9_relaxes_72 (by decide) ⟨v14, ?_⟩⟩)))⟩)))⟩
    rw [c1, fF, fT]
    exact e79
end R90
