/-! ===== the reference's least: what is sent keeps what each one has; less is left each time ===== -/
section UBS
variable {h g g1 : LH} {n k M d : Nat} {P : Nat → Int}
theorem dv_w {t u : Nat → Nat} {f f2 : Nat → Int} {r p : Nat} {δ : Int} (e : f2 r = f r + δ) : ∀ k, (∀ a, a < k → a ≠ r → f2 a = f a) → dv t u f2 k p = dv t u f k p + (if r < k then ((if t r = p then δ else 0) - (if u r = p then δ else 0)) else 0)
  | 0, _ => rfl
  | k + 1, ne => by
    have ih := dv_w (t := t) (u := u) (p := p) e k (fun a ha => ne a (by omega))
    unfold dv at ih ⊢
    rw [fs, fs, ih]
    by_cases c : r = k
    · rw [if_neg (show ¬ r < k by omega), if_pos (show r < k + 1 by omega), ← c, e]
      by_cases z1 : t r = p <;> by_cases z2 : u r = p <;> simp only [z1, z2, if_true, if_false] <;> omega
    · rw [ne k (by omega) (fun z => c z.symm)]
      by_cases c2 : r < k
      · rw [if_pos c2, if_pos (show r < k + 1 by omega)]
        omega
      · rw [if_neg c2, if_neg (show ¬ r < k + 1 by omega)]
        omega
def dvg (g : LH) (k p : Nat) : Int := dv (fun a => (rm g a 0).toNatClampNeg) (fun a => (rm g a 1).toNatClampNeg) (fun a => (g.1 293 a).toInt) k p
theorem dvg_w {r : Nat} {δ : Int} (hr : r < k) (tt : ∀ a, (rm g1 a 0).toNatClampNeg = (rm g a 0).toNatClampNeg ∧ (rm g1 a 1).toNatClampNeg = (rm g a 1).toNatClampNeg) (ne : ∀ a, a < k → a ≠ r → g1.1 293 a = g.1 293 a) (e : (g1.1 293 r).toInt = (g.1 293 r).toInt + δ) (p : Nat) : dvg g1 k p = dvg g k p + ((if (rm g r 0).toNatClampNeg = p then δ else 0) - (if (rm g r 1).toNatClampNeg = p then δ else 0)) := by
  unfold dvg
  have e1 : (fun a => (rm g1 a 0).toNatClampNeg) = (fun a => (rm g a 0).toNatClampNeg) := funext fun a => (tt a).1
  have e2 : (fun a => (rm g1 a 1).toNatClampNeg) = (fun a => (rm g a 1).toNatClampNeg) := funext fun a => (tt a).2
  rw [e1, e2, dv_w (r := r) (δ := δ) (f := fun a => (g.1 293 a).toInt) (f2 := fun a => (g1.1 293 a).toInt) e k (fun a ha h2 => by show (g1.1 293 a).toInt = _; rw [ne a ha h2]), if_pos hr]
/-- what is too much, all in all -/
def psv (g : LH) (n : Nat) : Int := fs (fun p => if 0 < (g.1 294 p).toInt then (g.1 294 p).toInt else 0) n
theorem xsd_1 {M0 : Nat} {R : Nat → Nat} (B : CB g n k) (C : CH g n k R P) {t : Nat} {x1 : Int32} {Q : tf_Q} (q : ∀ (J m : Nat) (x4 : Value), 1 ≤ m → m ≤ 5000 → m ≤ M0 → pw g J t < n → g.1 296 (pw g J t) = -1 → ¬ g.1 294 (pw g J t) ≤ 0 → (∀ i, i < J → pw g i t < n ∧ g.1 295 (pw g i t) ≠ 1000000 ∧ g.1 296 (pw g i t) ≠ -1 ∧ (m : Int) ≤ (eR g (bn g (pw g i t))).toInt) → lx_X9_sendsTo 298 (tf_Cd 298 (d + 2)) Q 80 [.ref 270, .int x1, .int (nI m), .int (nI (pw g J t)), x4] [] g) : ∀ (f j m : Nat) (x4 : Value), R (pw g j t) < f → 1 ≤ m → m ≤ 5000 → m ≤ M0 → pw g j t < n → g.1 295 (pw g j t) ≠ 1000000 → (∀ i, i < j → pw g i t < n ∧ g.1 295 (pw g i t) ≠ 1000000 ∧ g.1 296 (pw g i t) ≠ -1 ∧ (m : Int) ≤ (eR g (bn g (pw g i t))).toInt) → lx_X9_sendsTo 298 (tf_Cd 298 (d + 2)) Q 10 [.ref 270, .int x1, .int (nI m), .int (nI (pw g j t)), x4] [] g
  | 0, j, m, x4, hf, h1, h2, hM, h3, h4, h5 => absurd hf (by omega)
  | f + 1, j, m, x4, hf, h1, h2, hM, h3, h4, h5 => by
    have hn := B.1.1
    have v7 : vp_in (nI (pw g j t)) 7 := vi_of (by omega) (by omega)
    have cp : (nI (pw g j t)).toNatClampNeg = pw g j t := nI_clamp (by omega)
    refine go_X9_sendsTo_10 (by decide) ⟨v7, ?_⟩
    rw [cp]
    rcases C.1 (pw g j t) h3 h4 with ⟨z1, z2⟩ | ⟨r, hr, er, ho, eT', cF, lt, -⟩
    · exact ⟨fun _ => q j m _ h1 h2 hM h3 z1 z2 h5, fun z => absurd z1 z⟩
    · have ebn : bn g (pw g j t) = r := by unfold bn; rw [er]; exact nI_clamp (by omega)
      obtain ⟨⟨-, hF⟩, -⟩ := B.1.eFT hr
      have rb := B.eRI hr
      have nr : ¬ nI r = -1 := nI_neg1 (by omega)
      have i1 : nI r / 2 = nI (r / 2) := pk_div (d := 2) (by omega) (by omega) (by omega)
      have i2 : nI r - nI r / 2 * 2 = nI (r % 2) := pk_rem (d := 2) (by omega) (by omega) (by omega)
      have v14 : vp_in (nI (r / 2)) 14 := vi_of (by omega) (by omega)
      have c2 : (nI (r / 2)).toNatClampNeg = r / 2 := nI_clamp (by omega)
      have rpos : ∃ m2 : Nat, 1 ≤ m2 ∧ m2 ≤ 100 ∧ eR g r = nI m2 := by
        have hp0 : ¬ eR g r < 0 := by
          rw [Int32.lt_iff_toInt_lt, z_ti]
          omega
        obtain ⟨m2, hm2, em2⟩ := nI_of hp0
        have ti := congrArg Int32.toInt em2
        rw [nI_toInt hm2] at ti
        refine ⟨m2, ?_, by omega, em2⟩
        rcases Nat.eq_zero_or_pos m2 with y | y
        · exact absurd (by rw [em2, y]; rfl) ho
        · exact y
      obtain ⟨m2, a1, a2, a3⟩ := rpos
      have e67 : lx_X9_sendsTo 298 (tf_Cd 298 (d + 2)) Q 67 [.ref 270, .int x1, .int (nI m), .int (nI (pw g j t)), .int (nI (r / 2))] [.int (eR g r), .int (nI m)] g := by
        refine go_X9_sendsTo_67 (by decide) (sx_lesser (d := d + 1) _ _ _ (go_X9_sendsTo_70 (by decide) (sx_bb (d := d) B.1 (by omega) hr er _ (go_X9_sendsTo_76 (by decide) ?_))))
        have mn : ∃ m3 : Nat, 1 ≤ m3 ∧ m3 ≤ m ∧ m3 ≤ m2 ∧ rf_le (nI m) (eR g r) = nI m3 := by
          unfold rf_le
          rw [a3]
          by_cases c : nI m2 ≤ nI m
          · rw [if_pos c]
            exact ⟨m2, a1, (nI_leI (by omega) (by omega)).mp c, Nat.le_refl _, rfl⟩
          · rw [if_neg c]
            have : ¬ m2 ≤ m := fun z => c (nI_le z (by omega))
            exact ⟨m, h1, Nat.le_refl _, by omega, rfl⟩
        obtain ⟨m3, b1, b2, b3, b4⟩ := mn
        have pj : pw g (j + 1) t = eF g r := by
          show eF g (bn g (pw g j t)) = _
          rw [ebn]
        rw [b4, ← pj]
        refine xsd_1 B C q f (j + 1) m3 _ (by rw [pj]; omega) b1 (by omega) (by omega) (by rw [pj]; exact hF) (by rw [pj]; exact cF) (fun i hi => ?_)
        by_cases e : i = j
        · subst e
          refine ⟨h3, h4, by rw [er]; exact nr, ?_⟩
          rw [ebn, a3, nI_toInt (by omega)]
          omega
        · obtain ⟨u1, u2, u3, u4⟩ := h5 i (by omega)
          exact ⟨u1, u2, u3, by omega⟩
      rw [er, i2, i1, c2]
      refine ⟨fun z => absurd z nr, fun _ => ⟨v7, v7, fun z => ⟨v14, v14, ?_⟩, fun z => go_X9_sendsTo_60 (by decide) ⟨v14, ?_⟩⟩⟩
      · have r0 : r % 2 = 0 := (nI_eq (b := 0) (by omega) (by omega)).mp z
        unfold eR at e67
        rw [if_pos r0] at e67
        exact e67
      · have r0 : ¬ r % 2 = 0 := fun y => z (by rw [y]; rfl)
        unfold eR at e67
        rw [if_neg r0] at e67
        rw [c2]
        exact e67
theorem xsd_2 {Z : Nat → Int32} {R : Nat → Nat} (B : CB g n k) (C : CH g n k R P) {t J m : Nat} {x1 : Int32} (hm : 1 ≤ m) (hm2 : m ≤ 5000) (tn : ∀ i, i ≤ J → pw g i t < n) (last : g.1 296 (pw g J t) = -1) (st : ∀ i, i < J → pw g i t < n ∧ g.1 295 (pw g i t) ≠ 1000000 ∧ g.1 296 (pw g i t) ≠ -1 ∧ (m : Int) ≤ (eR g (bn g (pw g i t))).toInt) {Q : tf_Q} (q : ∀ g2, F3c g g2 → (∀ p, p < n → -5000 ≤ (g2.1 294 p).toInt ∧ (g2.1 294 p).toInt ≤ 5000) → (∀ a, a < k → 0 ≤ (g2.1 293 a).toInt ∧ (g2.1 293 a).toInt ≤ (g.1 291 a).toInt) → (∀ a, a < k → g2.1 293 a = g.1 293 a ∨ ∃ i, i < J ∧ bn g (pw g i t) / 2 = a) → (∀ p, dvg g2 k p = dvg g k p + ((if pw g J t = p then (m : Int) else 0) - (if t = p then (m : Int) else 0))) → g2.1 294 = Z → Q tf_z g2) : ∀ (f j : Nat) (x4 : Value) (g2 : LH), j + f = J → F3c g g2 → (∀ p, p < n → -5000 ≤ (g2.1 294 p).toInt ∧ (g2.1 294 p).toInt ≤ 5000) → (∀ a, a < k → 0 ≤ (g2.1 293 a).toInt ∧ (g2.1 293 a).toInt ≤ (g.1 291 a).toInt) → (∀ a, a < k → g2.1 293 a = g.1 293 a ∨ ∃ i, i < j ∧ bn g (pw g i t) / 2 = a) → (∀ p, dvg g2 k p = dvg g k p + ((if pw g j t = p then (m : Int) else 0) - (if t = p then (m : Int) else 0))) → g2.1 294 = Z → lx_X9_sendsTo 298 (tf_Cd 298 (d + 2)) Q 113 [.ref 270, .int x1, .int (nI m), .int (nI (pw g j t)), x4] [] g2 := by
  have hn := B.1.1
  obtain ⟨one, dif⟩ := pw_ne C B.1 (t := t) (J := J) (fun i hi => ⟨(st i hi).1, (st i hi).2.1, (st i hi).2.2.1⟩)
  intro f
  induction f with
  | zero =>
    intro j x4 g2 hj F s1 s2 s3 s4 s5
    have e : j = J := by omega
    subst e
    have v7 : vp_in (nI (pw g j t)) 7 := vi_of (by have := tn j (Nat.le_refl _); omega) (by omega)
    have cp : (nI (pw g j t)).toNatClampNeg = pw g j t := nI_clamp (by have := tn j (Nat.le_refl _); omega)
    refine go_X9_sendsTo_113 (by decide) ⟨v7, ?_⟩
    rw [cp, F 296 (by decide) (by decide)]
    exact ⟨fun _ => go_X9_sendsTo_165 (by decide) (q g2 F s1 s2 s3 s4 s5), fun z => absurd last z⟩
  | succ f ih =>
    intro j x4 g2 hj F s1 s2 s3 s4 s5
    have K : tf_K 293 = 8 := by decide +kernel
    have Nn : tf_N 293 = 14 := by decide +kernel
    have htn := tn j (by omega)
    have v7 : vp_in (nI (pw g j t)) 7 := vi_of (by omega) (by omega)
    have cp : (nI (pw g j t)).toNatClampNeg = pw g j t := nI_clamp (by omega)
    obtain ⟨hr, er, ho, eT', -, -⟩ := one j (by omega)
    have eTn := eT'
    have room := (st j (by omega)).2.2.2
    have nr := (st j (by omega)).2.2.1
    generalize hrr : bn g (pw g j t) = r at *
    have i1 : nI r / 2 = nI (r / 2) := pk_div (d := 2) (by omega) (by omega) (by omega)
    have i2 : nI r - nI r / 2 * 2 = nI (r % 2) := pk_rem (d := 2) (by omega) (by omega) (by omega)
    have v14 : vp_in (nI (r / 2)) 14 := vi_of (by omega) (by omega)
    have c2 : (nI (r / 2)).toNatClampNeg = r / 2 := nI_clamp (by omega)
    have un : g2.1 293 (r / 2) = g.1 293 (r / 2) := by
      rcases s3 (r / 2) (by omega) with z | ⟨i, hi, ei⟩
      · exact z
      · have := dif i j hi (by omega)
        rw [hrr] at this
        exact absurd ei this
    have bb := B.2.1 (r / 2) (by omega)
    have tm : (nI m).toInt = (m : Int) := nI_toInt (by omega)
    have e154 : ∀ y3 : Int32, y3.toInt = (if r % 2 = 0 then (m : Int) else -(m : Int)) → 0 ≤ (g2.1 293 (r / 2) + y3).toInt → (g2.1 293 (r / 2) + y3).toInt ≤ (g.1 291 (r / 2)).toInt → lx_X9_sendsTo 298 (tf_Cd 298 (d + 2)) Q 154 [.ref 270, .int x1, .int (nI m), .int (nI (pw g j t)), x4] [.int y3, .int (g2.1 293 (r / 2)), .int (nI (r / 2)), .ref 293] g2 := by
      intro y3 l0 l1 l2
      refine go_X9_sendsTo_154 (by decide) K (ny0 := 14) Nn (by decide) ⟨v14, ?_⟩
      rw [c2]
      show tf_Cd 298 (d + 2) _ _ (w1 g2 293 (r / 2) (g2.1 293 (r / 2) + y3)) _
      have u1 : ∀ e, e ≠ 293 → (w1 g2 293 (r / 2) (g2.1 293 (r / 2) + y3)).1 e = g2.1 e := fun e he => w1_ne he
      have u2 : (w1 g2 293 (r / 2) (g2.1 293 (r / 2) + y3)).1 293 (r / 2) = g2.1 293 (r / 2) + y3 := w1_eq
      have u3 : ∀ a, a ≠ r / 2 → (w1 g2 293 (r / 2) (g2.1 293 (r / 2) + y3)).1 293 a = g2.1 293 a := fun a ha => w1_at ha
      generalize w1 g2 293 (r / 2) (g2.1 293 (r / 2) + y3) = g3 at *
      have F3 : F3c g g3 := fun e h1 h2 => by rw [u1 e h1]; exact F e h1 h2
      have eF3 : eF g3 r = eF g r := by unfold eF rm; rw [F3 271 (by decide) (by decide)]
      refine sx_bb (g := g3) (d := d) (n := n) (k := k) (B.1.fl (F3 271 (by decide) (by decide))) (by omega) hr (by rw [F3 296 (by decide) (by decide)]; exact er) _ (go_X9_sendsTo_161 (by decide) ?_)
      have pj : pw g (j + 1) t = eF g r := by
        show eF g (bn g (pw g j t)) = _
        rw [hrr]
      rw [eF3, ← pj]
      refine ih (j + 1) _ g3 (by omega) F3 (fun p hp => by rw [u1 294 (by decide)]; exact s1 p hp) (fun a ha => ?_) (fun a ha => ?_) (fun p => ?_) (by rw [u1 294 (by decide)]; exact s5)
      · by_cases e : a = r / 2
        · rw [e, u2]
          exact ⟨l1, l2⟩
        · rw [u3 a e]
          exact s2 a ha
      · by_cases e : a = r / 2
        · exact Or.inr ⟨j, by omega, by rw [hrr, e]⟩
        · rw [u3 a e]
          rcases s3 a ha with z | ⟨i, hi, ei⟩
          · exact Or.inl z
          · exact Or.inr ⟨i, by omega, ei⟩
      · have tt : ∀ a, (rm g3 a 0).toNatClampNeg = (rm g2 a 0).toNatClampNeg ∧ (rm g3 a 1).toNatClampNeg = (rm g2 a 1).toNatClampNeg := fun a => by
          unfold rm
          rw [u1 271 (by decide)]
          exact ⟨rfl, rfl⟩
        have yb : -5000 ≤ y3.toInt ∧ y3.toInt ≤ 5000 := by
          rw [l0]
          split <;> omega
        have sum : (g2.1 293 (r / 2) + y3).toInt = (g2.1 293 (r / 2)).toInt + y3.toInt := by
          have := s2 (r / 2) (by omega)
          exact tia (by omega) (by omega)
        have up := dvg_w (g := g2) (g1 := g3) (k := k) (r := r / 2) (δ := y3.toInt) (by omega) tt (fun a ha ha2 => by rw [u3 a ha2]) (by rw [u2, sum]) p
        have eg : rm g2 (r / 2) = rm g (r / 2) := by
          funext w
          unfold rm
          rw [F 271 (by decide) (by decide)]
        rw [up, s4 p, eg, pj]
        unfold eT at eT'
        unfold eF
        by_cases r0 : r % 2 = 0
        · rw [if_pos r0] at l0 eT' ⊢
          rw [l0, eT']
          omega
        · rw [if_neg r0] at l0 eT' ⊢
          rw [l0, eT']
          by_cases z1 : (rm g (r / 2) 1).toNatClampNeg = p <;> by_cases z2 : pw g j t = p <;> by_cases z3 : t = p <;> simp only [z1, z2, z3, if_true, if_false] <;> omega
    refine go_X9_sendsTo_113 (by decide) ⟨v7, ?_⟩
    rw [cp, F 296 (by decide) (by decide)]
    refine ⟨fun z => absurd z nr, fun _ => ?_⟩
    rw [er, i2, i1, c2]
    refine ⟨v7, v14, v7, fun z => e154 _ ?_ ?_ ?_, fun z => go_X9_sendsTo_152 (by decide) K (ny0 := 14) Nn (by decide) (e154 _ ?_ ?_ ?_)⟩
    · have r0 : r % 2 = 0 := (nI_eq (b := 0) (by omega) (by omega)).mp z
      rw [if_pos r0, tm]
    · rw [un, tia (by omega) (by omega)]
      omega
    · have r0 : r % 2 = 0 := (nI_eq (b := 0) (by omega) (by omega)).mp z
      unfold eR at room
      rw [if_pos r0, tis (by omega) (by omega)] at room
      rw [un, tia (by omega) (by omega)]
      omega
    · have r0 : ¬ r % 2 = 0 := fun y => z (by rw [y]; rfl)
      rw [if_neg r0, tin (by omega) (by omega), tm]
    · have r0 : ¬ r % 2 = 0 := fun y => z (by rw [y]; rfl)
      unfold eR at room
      rw [if_neg r0] at room
      have tn2 : (-nI m).toInt = -(m : Int) := by rw [tin (by omega) (by omega), tm]
      rw [un, tia (by omega) (by omega), tn2]
      omega
    · have r0 : ¬ r % 2 = 0 := fun y => z (by rw [y]; rfl)
      have tn2 : (-nI m).toInt = -(m : Int) := by rw [tin (by omega) (by omega), tm]
      rw [un, tia (by omega) (by omega), tn2]
      omega
theorem xsp_sd {R : Nat → Nat} (B : CB g n k) (C : CH g n k R P) {t : Nat} (ht : t < n) (neg : ¬ 0 ≤ g.1 294 t) (re : g.1 295 t ≠ 1000000) : tf_Sp (d + 3) 100 [.ref 270, .int (nI t)] g (fun _ g2 => CB g2 n k ∧ PT g2 k P ∧ ScF g g2 ∧ g2.1 291 = g.1 291 ∧ g2.1 292 = g.1 292 ∧ (∀ p, p < n → (g2.1 294 p).toInt + dvg g2 k p = (g.1 294 p).toInt + dvg g k p) ∧ psv g2 n + 1 ≤ psv g n) := by
  intro Q q
  have hn := B.1.1
  have v7 : vp_in (nI t) 7 := vi_of (by omega) (by omega)
  have ct : (nI t).toNatClampNeg = t := nI_clamp (by omega)
  have sb := B.2.2.2 t ht
  have sneg : (g.1 294 t).toInt < 0 := by
    rw [Int32.not_le, Int32.lt_iff_toInt_lt, z_ti] at neg
    exact neg
  have hm : ∃ m : Nat, 1 ≤ m ∧ m ≤ 5000 ∧ -(g.1 294 t) = nI m ∧ (m : Int) = -(g.1 294 t).toInt := by
    have e1 := tin (x := g.1 294 t) (by omega) (by omega)
    have hp0 : ¬ -(g.1 294 t) < 0 := by
      rw [Int32.lt_iff_toInt_lt, z_ti]
      omega
    obtain ⟨m2, hm2, em2⟩ := nI_of hp0
    have ti := congrArg Int32.toInt em2
    rw [nI_toInt hm2] at ti
    exact ⟨m2, by omega, by omega, em2, by omega⟩
  obtain ⟨m, hm1, hm2, em, mt⟩ := hm
  refine en_X9_sendsTo (by decide) (go_X9_sendsTo_0 (by decide) ⟨v7, ?_⟩)
  rw [ct, em]
  refine xsd_1 (d := d) (M0 := m) B C (t := t) (fun J m1 x4 hm1 hm2 hM0 hJn last pos st => ?_) (R t + 1) 0 m _ (show R t < R t + 1 by omega) hm1 hm2 (Nat.le_refl _) ht re (fun i hi => absurd hi (by omega))
  have vJ : vp_in (nI (pw g J t)) 7 := vi_of (by omega) (by omega)
  have cJ : (nI (pw g J t)).toNatClampNeg = pw g J t := nI_clamp (by omega)
  refine go_X9_sendsTo_80 (by decide) ⟨vJ, sx_lesser (d := d + 1) _ _ _ (go_X9_sendsTo_90 (by decide) ?_)⟩
  rw [cJ, ct]
  have sJ := B.2.2.2 _ hJn
  have spos : 0 < (g.1 294 (pw g J t)).toInt := by
    rw [Int32.not_le, Int32.lt_iff_toInt_lt, z_ti] at pos
    exact pos
  have neJ : pw g J t ≠ t := fun z => by
    rw [z] at spos
    omega
  have mn : ∃ m3 : Nat, 1 ≤ m3 ∧ m3 ≤ m1 ∧ (m3 : Int) ≤ (g.1 294 (pw g J t)).toInt ∧ rf_le (nI m1) (g.1 294 (pw g J t)) = nI m3 := by
    obtain ⟨s, hs, es⟩ := nI_of (x := g.1 294 (pw g J t)) (by rw [Int32.lt_iff_toInt_lt, z_ti]; omega)
    have ti := congrArg Int32.toInt es
    rw [nI_toInt hs] at ti
    unfold rf_le
    rw [es]
    by_cases c : nI s ≤ nI m1
    · rw [if_pos c]
      exact ⟨s, by omega, (nI_leI hs (by omega)).mp c, by rw [nI_toInt hs]; omega, rfl⟩
    · rw [if_neg c]
      have : ¬ s ≤ m1 := fun z => c (nI_le z (by omega))
      exact ⟨m1, hm1, Nat.le_refl _, by rw [nI_toInt hs]; omega, rfl⟩
  obtain ⟨m3, b1, b2, b3, b4⟩ := mn
  rw [b4]
  refine ⟨vJ, vJ, v7, v7, ?_⟩
  show lx_X9_sendsTo 298 (tf_Cd 298 (d + 2)) Q 113 _ [] (w1 (w1 g 294 (pw g J t) (g.1 294 (pw g J t) - nI m3)) 294 t ((w1 g 294 (pw g J t) (g.1 294 (pw g J t) - nI m3)).1 294 t + nI m3))
  have x1 : (w1 g 294 (pw g J t) (g.1 294 (pw g J t) - nI m3)).1 294 t = g.1 294 t := w1_at (fun z => neJ z.symm)
  rw [x1]
  have y0 : ∀ e, e ≠ 294 → (w1 (w1 g 294 (pw g J t) (g.1 294 (pw g J t) - nI m3)) 294 t (g.1 294 t + nI m3)).1 e = g.1 e := fun e he => by rw [w1_ne he, w1_ne he]
  have y1 : (w1 (w1 g 294 (pw g J t) (g.1 294 (pw g J t) - nI m3)) 294 t (g.1 294 t + nI m3)).1 294 t = g.1 294 t + nI m3 := w1_eq
  have y2 : (w1 (w1 g 294 (pw g J t) (g.1 294 (pw g J t) - nI m3)) 294 t (g.1 294 t + nI m3)).1 294 (pw g J t) = g.1 294 (pw g J t) - nI m3 := (w1_at neJ).trans w1_eq
  have y3 : ∀ p, p ≠ t → p ≠ pw g J t → (w1 (w1 g 294 (pw g J t) (g.1 294 (pw g J t) - nI m3)) 294 t (g.1 294 t + nI m3)).1 294 p = g.1 294 p := fun p h1 h2 => (w1_at h1).trans (w1_at h2)
  generalize w1 (w1 g 294 (pw g J t) (g.1 294 (pw g J t) - nI m3)) 294 t (g.1 294 t + nI m3) = g2 at *
  have tm : (nI m3).toInt = (m3 : Int) := nI_toInt (by omega)
  have st2 : ∀ i, i < J → pw g i t < n ∧ g.1 295 (pw g i t) ≠ 1000000 ∧ g.1 296 (pw g i t) ≠ -1 ∧ (m3 : Int) ≤ (eR g (bn g (pw g i t))).toInt := fun i hi => by
    obtain ⟨u1, u2, u3, u4⟩ := st i hi
    exact ⟨u1, u2, u3, by omega⟩
  obtain ⟨one, -⟩ := pw_ne C B.1 (t := t) (J := J) (fun i hi => ⟨(st2 i hi).1, (st2 i hi).2.1, (st2 i hi).2.2.1⟩)
  refine xsd_2 (d := d) B C (t := t) (J := J) (m := m3) b1 (by omega) (fun i hi => ?_) last st2 (fun g3 F3 s1 s2 s3 s4 s5 => q _ _ ⟨⟨B.1.fl (F3 271 (by decide) (by decide)), fun a ha => ?_, fun a ha => ?_, s1⟩, fun r hr ho => ?_, ⟨fun e h1 h2 => F3 e (by omega) (by omega), by rw [F3 270 (by decide) (by decide)]⟩, F3 291 (by decide) (by decide), F3 292 (by decide) (by decide), fun p hp => ?_, ?_⟩) J 0 _ g2 (by omega) (fun e h1 h2 => y0 e h2) (fun p hp => ?_) (fun a ha => ?_) (fun a ha => Or.inl (by rw [y0 293 (by decide)])) (fun p => ?_) rfl
  · by_cases e : i = J
    · rw [e]
      exact hJn
    · exact (st i (by omega)).1
  · rw [F3 291 (by decide) (by decide)]
    have := B.2.1 a ha
    have := s2 a ha
    omega
  · rw [F3 292 (by decide) (by decide)]
    exact B.2.2.1 a ha
  · have hF : eF g3 = eF g := by
      funext r
      unfold eF rm
      rw [F3 271 (by decide) (by decide)]
    have hT : eT g3 = eT g := by
      funext r
      unfold eT rm
      rw [F3 271 (by decide) (by decide)]
    have hC : eC g3 = eC g := by
      funext r
      unfold eC
      rw [F3 292 (by decide) (by decide)]
    rw [hF, hT, hC]
    rcases s3 (r / 2) (by omega) with z | ⟨i, hi, ei⟩
    · refine C.2 r hr (fun y => ho ?_)
      unfold eR at y ⊢
      rw [z, F3 291 (by decide) (by decide)]
      exact y
    · obtain ⟨a1, -, -, -, -, tg⟩ := one i hi
      generalize bn g (pw g i t) = r0 at *
      by_cases e : r0 = r
      · rw [e] at tg
        omega
      · have kc := B.2.2.1 (r / 2) (by omega)
        have ng := tin (x := g.1 292 (r / 2)) (by omega) (by omega)
        unfold eC eF eT at tg ⊢
        rw [ei] at tg
        rcases Nat.mod_two_eq_zero_or_one r with m1 | m1 <;> rcases Nat.mod_two_eq_zero_or_one r0 with m2 | m2
        · omega
        · rw [if_neg (by omega), if_neg (by omega), if_neg (by omega)] at tg
          rw [if_pos m1, if_pos m1, if_pos m1]
          omega
        · rw [if_pos m2, if_pos m2, if_pos m2] at tg
          rw [if_neg (by omega), if_neg (by omega), if_neg (by omega)]
          omega
        · omega
  · rw [s5, s4 p]
    by_cases e1 : p = t
    · rw [e1, y1, tia (by omega) (by omega), if_neg neJ, if_pos rfl]
      omega
    · by_cases e2 : p = pw g J t
      · rw [e2, y2, tis (by omega) (by omega), if_pos rfl, if_neg (fun z => neJ z.symm)]
        omega
      · rw [y3 p e1 e2, if_neg (fun z => e2 z.symm), if_neg (fun z => e1 z.symm)]
        omega
  · unfold psv
    refine fs_lt (b := pw g J t) n (fun p hp => ?_) hJn ?_
    · rw [s5]
      by_cases e1 : p = t
      · rw [e1, y1, tia (by omega) (by omega), if_neg (by omega), if_neg (by omega)]
        omega
      · by_cases e2 : p = pw g J t
        · rw [e2, y2, tis (by omega) (by omega), if_pos spos]
          split <;> omega
        · rw [y3 p e1 e2]
          exact Int.le_refl _
    · rw [s5, y2, tis (by omega) (by omega), if_pos spos]
      split <;> omega
  · by_cases e1 : p = t
    · rw [e1, y1, tia (by omega) (by omega)]
      omega
    · by_cases e2 : p = pw g J t
      · rw [e2, y2, tis (by omega) (by omega)]
        omega
      · rw [y3 p e1 e2]
        exact B.2.2.2 p hp
  · rw [y0 293 (by decide)]
    have := B.2.1 a ha
    omega
  · have p0 : pw g 0 t = t := rfl
    have eg : dvg g2 k p = dvg g k p := by
      unfold dvg rm
      rw [y0 293 (by decide), y0 271 (by decide)]
    rw [p0, eg]
    omega
end UBS
