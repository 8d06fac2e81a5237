/-! ===== the reference's ways and cycles ===== -/
section RC
variable {g : LH} {n k d : Nat}
/-- an edge's name: an arc or a loan -/
def VI (id : Int32) : Prop := (∃ a, a < 14 ∧ id = nI a) ∨ ∃ p, p < 7 ∧ id = nI (100 + p)
theorem EG.vi {p q : Nat} {id : Int32} (hn : n ≤ 7) (hk : k ≤ 14) (hp : p < n) (E : EG g n k p q id) : VI id := by
  rcases E with ⟨-, e, -⟩ | ⟨-, a, ha, e, -⟩
  · exact Or.inr ⟨p, by omega, e⟩
  · exact Or.inl ⟨a, by omega, e⟩
theorem loan_a {a : Nat} (ha : a < 14) : rf_loan (nI a) = false := by
  have : nI a < 100 := nI_lt (b := 100) (by omega) (by omega)
  simp [rf_loan, this]
theorem loan_p {p : Nat} (hp : p < 7) : rf_loan (nI (100 + p)) = true := by
  have : ¬ nI (100 + p) < 100 := nI_nlt (b := 100) (by omega) (by omega)
  simp [rf_loan, this]
theorem loan_ix {c p : Nat} : nI c + nI (100 + p) - 100 = nI (c + p) := by
  rw [nI_add, show (100 : Int32) = nI 100 from rfl, nI_sub (by omega)]
  congr 1
  omega
def rf_al (g : LH) (id fr : Int32) : Bool := if rf_loan id = true then (decide (g.1 271 (58 + id - 100 : Int32).toNatClampNeg = 1) == !decide (fr = g.1 271 0)) else decide (rm g id.toNatClampNeg 0 = fr)
theorem sx_al {id : Int32} (V : VI id) (fr : Int32) : tf_Rt (d + 2) 37 [.ref 270, .int id, .int fr] g (.int (bI (rf_al g id fr))) g := by
  intro Q q
  have s0 := sx_isLoan (h := g) (d := d) id
  have e67 : ∀ b : Bool, rf_al g id fr = b → lx_X9_isAlong 298 (tf_Cd 298 (d + 1)) Q 67 [.ref 270, .int id, .int fr] [.int (bI b)] g := fun b e => go_X9_isAlong_67 (by decide) ⟨bI_nar b, by rw [e] at q; exact q⟩
  refine en_X9_isAlong (by decide) (go_X9_isAlong_0 (by decide) (s0 _ (go_X9_isAlong_4 (by decide) ⟨fun c => ?_, fun c => ?_⟩)))
  · rw [bI_0] at c
    rcases V with ⟨a, ha, e⟩ | ⟨p, hp, e⟩
    · have hcl : id.toNatClampNeg = a := by rw [e]; exact nI_clamp (by omega)
      refine go_X9_isAlong_52 (by decide) (sx_of (d := d) a 0 e rfl ha (by omega) _ (go_X9_isAlong_58 (by decide) ⟨fun c2 => e67 true ?_, fun c2 => go_X9_isAlong_66 (by decide) (e67 false ?_)⟩))
      · simp [rf_al, c, hcl, c2]
      · simp [rf_al, c, hcl, c2]
    · rw [e, loan_p hp] at c
      cases c
  · rw [bI_0, Bool.not_eq_false] at c
    rcases V with ⟨a, ha, e⟩ | ⟨p, hp, e⟩
    · rw [e, loan_a ha] at c
      cases c
    · have hix : (58 : Int32) + id - 100 = nI (58 + p) := by rw [e]; exact loan_ix (c := 58)
      rw [hix]
      have e28 : ∀ b : Bool, decide (g.1 271 (nI (58 + p)).toNatClampNeg = 1) = b → lx_X9_isAlong 298 (tf_Cd 298 (d + 1)) Q 28 [.ref 270, .int id, .int fr] [.int (bI b)] g := by
        intro b hb
        have e41 : ∀ b2 : Bool, (!decide (fr = g.1 271 0)) = b2 → lx_X9_isAlong 298 (tf_Cd 298 (d + 1)) Q 41 [.ref 270, .int id, .int fr] [.int (bI b2), .int (bI b)] g := by
          intro b2 hb2
          have hv : rf_al g id fr = (b == b2) := by
            unfold rf_al
            rw [if_pos c, hix, hb, hb2]
          refine go_X9_isAlong_41 (by decide) ⟨fun z => e67 true ?_, fun z => go_X9_isAlong_48 (by decide) (e67 false ?_)⟩
          · rw [hv]
            cases b <;> cases b2 <;> simp_all [bI]
          · rw [hv]
            cases b <;> cases b2 <;> simp_all [bI]
        refine go_X9_isAlong_28 (by decide) (sx_root (d := d) _ (go_X9_isAlong_33 (by decide) ⟨fun z => go_X9_isAlong_40 (by decide) (e41 false ?_), fun z => e41 true ?_⟩))
        · simp [z]
        · simp [z]
      refine ⟨vi_of (by omega) (by omega), fun c2 => e28 true ?_, fun c2 => go_X9_isAlong_27 (by decide) (e28 false ?_)⟩
      · simp [c2]
      · simp [c2]
/-- a step is added -/
def as1 (g : LH) (c : Nat) (id fr : Int32) : LH := w1 (w1 (w1 g 285 c id) 286 c (vp_nar .boolean (bI (rf_al g id fr)))) 270 30 (nI (c + 1))
theorem as1_lo {c : Nat} {id fr : Int32} : (∀ e, e ≠ 285 → e ≠ 286 → e ≠ 270 → (as1 g c id fr).1 e = g.1 e) ∧ (as1 g c id fr).2 = g.2 ∧ (∀ i, i ≠ 30 → (as1 g c id fr).1 270 i = g.1 270 i) := ⟨fun e h1 h2 h3 => by unfold as1; rw [w1_ne h3, w1_ne h2, w1_ne h1], rfl, fun i hi => by unfold as1; rw [w1_at hi, w1_ne (by decide), w1_ne (by decide)]⟩
/-- the cycle has c steps, each an edge -/
def CY (g : LH) (c : Nat) : Prop := g.1 270 30 = nI c ∧ c ≤ 16 ∧ ∀ i, i < c → VI (g.1 285 i)
theorem CY.as1 {c : Nat} {id fr : Int32} (Y : CY g c) (hc : c < 16) (V : VI id) : CY (as1 g c id fr) (c + 1) := by
  obtain ⟨-, -, y⟩ := Y
  refine ⟨?_, by omega, fun i hi => ?_⟩
  · show (w1 _ 270 30 (nI (c + 1))).1 270 30 = nI (c + 1)
    rw [w1_eq]
  · show VI ((w1 (w1 (w1 g 285 c id) 286 c _) 270 30 (nI (c + 1))).1 285 i)
    rw [w1_ne (by decide), w1_ne (by decide)]
    by_cases e : i = c
    · rw [e, w1_eq]
      exact V
    · rw [w1_at e]
      exact y i (by omega)
theorem sx_as {c : Nat} {id : Int32} (Y : CY g c) (hc : c < 16) (V : VI id) (fr : Int32) : tf_Rt (d + 3) 38 [.ref 270, .int id, .int fr] g tf_z (as1 g c id fr) := by
  intro Q q
  have hcl : (nI c).toNatClampNeg = c := nI_clamp (by omega)
  have K : tf_K 286 = 11 := by decide +kernel
  have N : tf_N 286 = 16 := by decide +kernel
  refine en_X9_addsStep (by decide) (go_X9_addsStep_0 (by decide) ?_)
  rw [Y.1, hcl]
  have r30 : (tf_up g.1 285 c id) 270 30 = nI c := by
    have := w1_ne (h := g) (c := 285) (i := c) (v := id) (e := 270) (by decide)
    rw [← Y.1]
    exact congrFun this 30
  rw [r30]
  refine ⟨vi_of (by omega) (by omega), sx_al (g := w1 g 285 c id) V fr _ (go_X9_addsStep_24 (by decide) K (ny0 := 16) N (by decide) ?_)⟩
  rw [hcl]
  refine ⟨vi_of (by omega) (by omega), ?_⟩
  have r2 : (tf_up (w1 g 285 c id).1 286 c (vp_nar .boolean (bI (rf_al (w1 g 285 c id) id fr)))) 270 30 = nI c := by
    have := w1_ne (h := w1 g 285 c id) (c := 286) (i := c) (v := vp_nar .boolean (bI (rf_al (w1 g 285 c id) id fr))) (e := 270) (by decide)
    rw [← r30]
    exact congrFun this 30
  rw [r2, nI_1]
  have ral : rf_al (w1 g 285 c id) id fr = rf_al g id fr := by
    unfold rf_al rm
    rw [w1_ne (by decide)]
  rw [ral]
  exact q
theorem LT.same {g2 : LH} (T : LT g n k) (e1 : g2.1 271 = g.1 271) (e2 : g2.1 281 = g.1 281) (e3 : g2.1 282 = g.1 282) (e4 : g2.1 283 = g.1 283) : LT g2 n k := by
  obtain ⟨H, TT, al⟩ := T
  have hct : ∀ m, ct g2 m = ct g m := fun m => ct_same m (fun p _ => by rw [e2])
  refine ⟨H.fl e1, ⟨by rw [e4]; exact TT.1, fun p hp => ?_⟩, fun p hp => by rw [e2]; exact al p hp⟩
  rcases TT.2 p hp with z | ⟨q, e, h1, h2, h3, h4, h5, h6, h7⟩
  · exact Or.inl (by rw [e2]; exact z)
  · exact Or.inr ⟨q, e, by rw [hct]; exact h1, h2, by rw [e2]; exact h3, by rw [e2]; exact h4, by rw [e4]; exact h5, by rw [e4]; exact h6, by rw [e3]; exact h7.fl e1⟩
theorem LT.as1 {c : Nat} {id fr : Int32} (T : LT g n k) : LT (as1 g c id fr) n k := T.same (as1_lo.1 271 (by decide) (by decide) (by decide)) (as1_lo.1 281 (by decide) (by decide) (by decide)) (as1_lo.1 282 (by decide) (by decide) (by decide)) (as1_lo.1 283 (by decide) (by decide) (by decide))
theorem uf_as1 {c : Nat} {id fr : Int32} (p : Nat) : uf (as1 g c id fr) p = uf g p ∧ df (as1 g c id fr) p = df g p := by
  unfold uf df
  rw [as1_lo.1 281 (by decide) (by decide) (by decide), as1_lo.1 283 (by decide) (by decide) (by decide)]
  exact ⟨rfl, rfl⟩
end RC
