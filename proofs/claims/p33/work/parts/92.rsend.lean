/-! ===== the reference sends along the cheapest ways ===== -/
section R92
variable {h g : LH} {n k M d : Nat} {P : Nat → Int}
theorem cv_lt {V W : Nat → Bool} {q : Nat} : ∀ m, (∀ p, p < m → V p = true → W p = true) → cv V m ≤ cv W m ∧ (q < m → V q = false → W q = true → cv V m < cv W m)
  | 0, _ => ⟨Nat.le_refl _, fun hq => absurd hq (by omega)⟩
  | m + 1, hs => by
    obtain ⟨i1, i2⟩ := cv_lt (q := q) m (fun p hp => hs p (by omega))
    have hm := hs m (by omega)
    refine ⟨?_, fun hq h1 h2 => ?_⟩
    · unfold cv
      by_cases c : V m = true
      · rw [if_pos c, if_pos (hm c)]
        omega
      · rw [if_neg c]
        split <;> omega
    · unfold cv
      by_cases e : q = m
      · subst e
        rw [h1, h2, if_neg Bool.false_ne_true, if_pos rfl]
        omega
      · have := i2 (by omega) h1 h2
        by_cases c : V m = true
        · rw [if_pos c, if_pos (hm c)]
          omega
        · rw [if_neg c]
          split <;> omega
theorem bnd (P : Nat → Int) : ∀ m : Nat, ∃ B : Int, 0 ≤ B ∧ ∀ p, p < m → -B ≤ P p ∧ P p ≤ B
  | 0 => ⟨0, by omega, fun p hp => absurd hp (by omega)⟩
  | m + 1 => by
    obtain ⟨B, h0, hB⟩ := bnd P m
    refine ⟨B + (if P m < 0 then -P m else P m), by split <;> omega, fun p hp => ?_⟩
    by_cases e : p = m
    · rw [e]
      split <;> omega
    · have := hB p (by omega)
      split <;> omega
/-- each one reached has a way back to one that has too much; prices by which these ways cost nothing -/
def CH (g : LH) (n k : Nat) (R : Nat → Nat) (P : Nat → Int) : Prop := (∀ p, p < n → g.1 295 p ≠ 1000000 → (g.1 296 p = -1 ∧ ¬ g.1 294 p ≤ 0) ∨ ∃ r, r < 2 * k ∧ g.1 296 p = nI r ∧ eR g r ≠ 0 ∧ eT g r = p ∧ g.1 295 (eF g r) ≠ 1000000 ∧ R (eF g r) < R p ∧ (eC g r).toInt + P (eF g r) - P (eT g r) = 0) ∧ PT g k P
theorem cw_ch (B0 : CB h n k) (Pt : PT h k P) (F : F2c h g) (W : CW h n k P g) : ∃ R P2, CH g n k R P2 := by
  obtain ⟨T, N, BB, hN, fx⟩ := W
  obtain ⟨f1, f2, f3, f4⟩ := F.e
  obtain ⟨B, b0, hB⟩ := bnd P n
  have f294 : g.1 294 = h.1 294 := F.1 294 (by decide) (by decide)
  refine ⟨fun p => cv (fun q => decide ((g.1 295 q).toInt - P q < (g.1 295 p).toInt - P p ∨ ((g.1 295 q).toInt - P q = (g.1 295 p).toInt - P p ∧ T q < T p))) n, fun p => if g.1 295 p = 1000000 then P p + (2 * B + 1000000) else (g.1 295 p).toInt, ?_, ?_⟩
  · intro p hp hc
    rw [f1, f2, f3, f4, f294]
    rcases BB p hp with ⟨z, -⟩ | ⟨h1, h2, h3, h4⟩
    · exact absurd z hc
    · rcases h4 with z | ⟨r, q1, q2, q3, q4, q5, q6, q7⟩
      · exact Or.inl z
      · refine Or.inr ⟨r, q1, q2, q3, q4, q5, ?_, ?_⟩
        · obtain ⟨⟨-, hF⟩, -⟩ := B0.1.eFT q1
          refine (cv_lt (q := eF h r) n (fun q hq hl => ?_)).2 hF ?_ ?_
          · have hl2 := of_decide_eq_true hl
            apply decide_eq_true
            rcases hl2 with z1 | ⟨z1, z2⟩ <;> rcases q7 with y1 | ⟨y1, y2⟩
            · exact Or.inl (by omega)
            · exact Or.inl (by omega)
            · exact Or.inl (by omega)
            · exact Or.inr ⟨by omega, by omega⟩
          · apply decide_eq_false
            intro z
            rcases z with z1 | ⟨-, z2⟩
            · omega
            · omega
          · exact decide_eq_true q7
        · have t := fx r q1 q3 q5
          rw [q4] at t ⊢
          simp only [if_neg hc, if_neg q5]
          omega
  · intro r hr ho
    rw [f4] at ho
    rw [f1, f2, f3]
    obtain ⟨⟨-, hF⟩, -, hT⟩ := B0.1.eFT hr
    have kc := B0.eCI hr
    have bF := hB _ hF
    have bT := hB _ hT
    have pt := Pt r hr ho
    by_cases c1 : g.1 295 (eF h r) = 1000000
    · by_cases c2 : g.1 295 (eT h r) = 1000000
      · simp only [if_pos c1, if_pos c2]
        omega
      · have := BB.in' hT c2
        simp only [if_pos c1, if_neg c2]
        omega
    · have t := fx r hr ho c1
      simp only [if_neg c1, if_neg t.1]
      omega
theorem sp_waL (H : RM g n k) {Q : tf_Q} (q : ∀ v, (v = .int (-1) ∨ ∃ p, p < n ∧ v = .int (nI p) ∧ ¬ 0 ≤ g.1 294 p ∧ g.1 295 p ≠ 1000000) → Q v g) : ∀ (f p : Nat) (x1 : Int32), p + f = n → (x1 = -1 ∨ ∃ p, p < n ∧ x1 = nI p ∧ ¬ 0 ≤ g.1 294 p ∧ g.1 295 p ≠ 1000000) → lx_X9_wanting 298 (tf_Cd 298 d) Q 4 [.ref 270, .int x1, .int (nI p)] [] g
  | 0, p, x1, hp, hx => by
    have hn := H.1
    refine go_X9_wanting_4 (by decide) ⟨fun _ => go_X9_wanting_63 (by decide) (q _ ?_), fun z => absurd (H.n2 (by omega) (by omega)) z⟩
    rcases hx with e | ⟨o, ho, e, w⟩
    · exact Or.inl (by rw [e])
    · exact Or.inr ⟨o, ho, by rw [e], w⟩
  | f + 1, p, x1, hp, hx => by
    have hn := H.1
    have v7 : vp_in (nI p) 7 := vi_of (by omega) (by omega)
    have cp : (nI p).toNatClampNeg = p := nI_clamp (by omega)
    have e57 : ∀ x1 : Int32, (x1 = -1 ∨ ∃ p, p < n ∧ x1 = nI p ∧ ¬ 0 ≤ g.1 294 p ∧ g.1 295 p ≠ 1000000) → lx_X9_wanting 298 (tf_Cd 298 d) Q 57 [.ref 270, .int x1, .int (nI p)] [] g := fun x1 hx => go_X9_wanting_57 (by decide) (by rw [nI_1]; exact sp_waL H q f (p + 1) x1 (by omega) hx)
    have e55 : ¬ 0 ≤ g.1 294 p → ¬ 1000000 ≤ g.1 295 p → lx_X9_wanting 298 (tf_Cd 298 d) Q 55 [.ref 270, .int x1, .int (nI p)] [] g := fun c1 c2 => go_X9_wanting_55 (by decide) (e57 _ (Or.inr ⟨p, by omega, rfl, c1, fun z => c2 (by rw [z]; exact Int32.le_refl _)⟩))
    refine go_X9_wanting_4 (by decide) ⟨fun z => absurd z (H.n1 (by omega)), fun _ => ⟨v7, ?_⟩⟩
    rw [cp]
    refine ⟨fun _ => e57 _ hx, fun c1 => ⟨v7, fun _ => e57 _ hx, fun c2 => ⟨fun _ => e55 c1 c2, fun c3 => ⟨v7, ?_, fun _ => e57 _ hx, fun _ => e55 c1 c2⟩⟩⟩⟩
    rcases hx with e | ⟨o, ho, e, -⟩
    · exact absurd e c3
    · rw [e]
      exact vi_of (by omega) (by omega)
theorem sp_wa (H : RM g n k) : tf_Sp (d + 1) 98 [.ref 270] g (fun v g2 => g2 = g ∧ (v = .int (-1) ∨ ∃ p, p < n ∧ v = .int (nI p) ∧ ¬ 0 ≤ g.1 294 p ∧ g.1 295 p ≠ 1000000)) := fun Q q => en_X9_wanting (by decide) (go_X9_wanting_0 (by decide) (sp_waL H (fun v hv => q v g ⟨rfl, hv⟩) n 0 _ (by omega) (Or.inl rfl)))
theorem sx_bb (H : RM g n k) {p r : Nat} (hp : p < 7) (hr : r < 2 * k) (e : g.1 296 p = nI r) : tf_Rt (d + 2) 99 [.ref 270, .int (nI p)] g (.int (nI (eF g r))) g := by
  intro Q q
  have hn := H.1
  obtain ⟨⟨fF, -⟩, -⟩ := H.eFT hr
  have v7 : vp_in (nI p) 7 := vi_of (by omega) (by omega)
  have cp : (nI p).toNatClampNeg = p := nI_clamp (by omega)
  have i1 : nI r / 2 = nI (r / 2) := pk_div (d := 2) (by omega) (by omega) (by omega)
  have i2 : nI r - nI r / 2 * 2 = nI (r % 2) := pk_rem (d := 2) (by omega) (by omega) (by omega)
  refine en_X9_backBy (by decide) (go_X9_backBy_0 (by decide) ⟨v7, v7, ?_⟩)
  rw [cp, e, i2, i1]
  refine ⟨fun c => go_X9_backBy_25 (by decide) ?_, fun c => go_X9_backBy_24 (by decide) (go_X9_backBy_25 (by decide) ?_)⟩
  · have r0 : r % 2 = 0 := (nI_eq (b := 0) (by omega) (by omega)).mp c
    rw [if_pos r0] at fF
    refine sx_of (d := d) (r / 2) 0 rfl rfl (by omega) (by omega) _ (go_X9_backBy_28 (by decide) ?_)
    rw [fF]
    exact q
  · have r0 : ¬ r % 2 = 0 := fun z => c (by rw [z]; rfl)
    rw [if_neg r0] at fF
    refine sx_of (d := d) (r / 2) 1 rfl rfl (by omega) (by omega) _ (go_X9_backBy_28 (by decide) ?_)
    rw [fF]
    exact q
def bn (g : LH) (p : Nat) : Nat := (g.1 296 p).toNatClampNeg
/-- j steps back along the way -/
def pw (g : LH) : Nat → Nat → Nat
  | 0, p => p
  | j + 1, p => eF g (bn g (pw g j p))
theorem sd_1 {R : Nat → Nat} (B : CB g n k) (C : CH g n k R P) {t : Nat} {x1 : Int32} {Q : tf_Q} (q : ∀ (J m : Nat) (x4 : Value), 1 ≤ m → m ≤ 5000 → pw g J t < n → g.1 296 (pw g J t) = -1 → ¬ g.1 294 (pw g J t) ≤ 0 → (∀ i, i < J → pw g i t < n ∧ g.1 295 (pw g i t) ≠ 1000000 ∧ g.1 296 (pw g i t) ≠ -1 ∧ (m : Int) ≤ (eR g (bn g (pw g i t))).toInt) → lx_X9_sendsTo 298 (tf_Cd 298 (d + 2)) Q 80 [.ref 270, .int x1, .int (nI m), .int (nI (pw g J t)), x4] [] g) : ∀ (f j m : Nat) (x4 : Value), R (pw g j t) < f → 1 ≤ m → m ≤ 5000 → pw g j t < n → g.1 295 (pw g j t) ≠ 1000000 → (∀ i, i < j → pw g i t < n ∧ g.1 295 (pw g i t) ≠ 1000000 ∧ g.1 296 (pw g i t) ≠ -1 ∧ (m : Int) ≤ (eR g (bn g (pw g i t))).toInt) → lx_X9_sendsTo 298 (tf_Cd 298 (d + 2)) Q 10 [.ref 270, .int x1, .int (nI m), .int (nI (pw g j t)), x4] [] g
  | 0, j, m, x4, hf, h1, h2, h3, h4, h5 => absurd hf (by omega)
  | f + 1, j, m, x4, hf, h1, h2, h3, h4, h5 => by
    have hn := B.1.1
    have v7 : vp_in (nI (pw g j t)) 7 := vi_of (by omega) (by omega)
    have cp : (nI (pw g j t)).toNatClampNeg = pw g j t := nI_clamp (by omega)
    refine go_X9_sendsTo_10 (by decide) ⟨v7, ?_⟩
    rw [cp]
    rcases C.1 (pw g j t) h3 h4 with ⟨z1, z2⟩ | ⟨r, hr, er, ho, eT', cF, lt, -⟩
    · exact ⟨fun _ => q j m _ h1 h2 h3 z1 z2 h5, fun z => absurd z1 z⟩
    · have ebn : bn g (pw g j t) = r := by unfold bn; rw [er]; exact nI_clamp (by omega)
      obtain ⟨⟨-, hF⟩, -⟩ := B.1.eFT hr
      have rb := B.eRI hr
      have nr : ¬ nI r = -1 := nI_neg1 (by omega)
      have i1 : nI r / 2 = nI (r / 2) := pk_div (d := 2) (by omega) (by omega) (by omega)
      have i2 : nI r - nI r / 2 * 2 = nI (r % 2) := pk_rem (d := 2) (by omega) (by omega) (by omega)
      have v14 : vp_in (nI (r / 2)) 14 := vi_of (by omega) (by omega)
      have c2 : (nI (r / 2)).toNatClampNeg = r / 2 := nI_clamp (by omega)
      have rpos : ∃ m2 : Nat, 1 ≤ m2 ∧ m2 ≤ 100 ∧ eR g r = nI m2 := by
        have hp0 : ¬ eR g r < 0 := by
          rw [Int32.lt_iff_toInt_lt, z_ti]
          omega
        obtain ⟨m2, hm2, em2⟩ := nI_of hp0
        have ti := congrArg Int32.toInt em2
        rw [nI_toInt hm2] at ti
        refine ⟨m2, ?_, by omega, em2⟩
        rcases Nat.eq_zero_or_pos m2 with y | y
        · exact absurd (by rw [em2, y]; rfl) ho
        · exact y
      obtain ⟨m2, a1, a2, a3⟩ := rpos
      have e67 : lx_X9_sendsTo 298 (tf_Cd 298 (d + 2)) Q 67 [.ref 270, .int x1, .int (nI m), .int (nI (pw g j t)), .int (nI (r / 2))] [.int (eR g r), .int (nI m)] g := by
        refine go_X9_sendsTo_67 (by decide) (sx_lesser (d := d + 1) _ _ _ (go_X9_sendsTo_70 (by decide) (sx_bb (d := d) B.1 (by omega) hr er _ (go_X9_sendsTo_76 (by decide) ?_))))
        have mn : ∃ m3 : Nat, 1 ≤ m3 ∧ m3 ≤ m ∧ m3 ≤ m2 ∧ rf_le (nI m) (eR g r) = nI m3 := by
          unfold rf_le
          rw [a3]
          by_cases c : nI m2 ≤ nI m
          · rw [if_pos c]
            exact ⟨m2, a1, (nI_leI (by omega) (by omega)).mp c, Nat.le_refl _, rfl⟩
          · rw [if_neg c]
            have : ¬ m2 ≤ m := fun z => c (nI_le z (by omega))
            exact ⟨m, h1, Nat.le_refl _, by omega, rfl⟩
        obtain ⟨m3, b1, b2, b3, b4⟩ := mn
        have pj : pw g (j + 1) t = eF g r := by
          show eF g (bn g (pw g j t)) = _
          rw [ebn]
        rw [b4, ← pj]
        refine sd_1 B C q f (j + 1) m3 _ (by rw [pj]; omega) b1 (by omega) (by rw [pj]; exact hF) (by rw [pj]; exact cF) (fun i hi => ?_)
        by_cases e : i = j
        · subst e
          refine ⟨h3, h4, by rw [er]; exact nr, ?_⟩
          rw [ebn, a3, nI_toInt (by omega)]
          omega
        · obtain ⟨u1, u2, u3, u4⟩ := h5 i (by omega)
          exact ⟨u1, u2, u3, by omega⟩
      rw [er, i2, i1, c2]
      refine ⟨fun z => absurd z nr, fun _ => ⟨v7, v7, fun z => ⟨v14, v14, ?_⟩, fun z => go_X9_sendsTo_60 (by decide) ⟨v14, ?_⟩⟩⟩
      · have r0 : r % 2 = 0 := (nI_eq (b := 0) (by omega) (by omega)).mp z
        unfold eR at e67
        rw [if_pos r0] at e67
        exact e67
      · have r0 : ¬ r % 2 = 0 := fun y => z (by rw [y]; rfl)
        unfold eR at e67
        rw [if_neg r0] at e67
        rw [c2]
        exact e67
/-- the arcs of a way differ -/
theorem pw_ne {R : Nat → Nat} (C : CH g n k R P) (H : RM g n k) {t J : Nat} (st : ∀ i, i < J → pw g i t < n ∧ g.1 295 (pw g i t) ≠ 1000000 ∧ g.1 296 (pw g i t) ≠ -1) : (∀ i, i < J → bn g (pw g i t) < 2 * k ∧ g.1 296 (pw g i t) = nI (bn g (pw g i t)) ∧ eR g (bn g (pw g i t)) ≠ 0 ∧ eT g (bn g (pw g i t)) = pw g i t ∧ R (pw g (i + 1) t) < R (pw g i t) ∧ (eC g (bn g (pw g i t))).toInt + P (eF g (bn g (pw g i t))) - P (eT g (bn g (pw g i t))) = 0) ∧ ∀ i j, i < j → j < J → bn g (pw g i t) / 2 ≠ bn g (pw g j t) / 2 := by
  have hn := H.1
  have one : ∀ i, i < J → bn g (pw g i t) < 2 * k ∧ g.1 296 (pw g i t) = nI (bn g (pw g i t)) ∧ eR g (bn g (pw g i t)) ≠ 0 ∧ eT g (bn g (pw g i t)) = pw g i t ∧ R (pw g (i + 1) t) < R (pw g i t) ∧ (eC g (bn g (pw g i t))).toInt + P (eF g (bn g (pw g i t))) - P (eT g (bn g (pw g i t))) = 0 := by
    intro i hi
    obtain ⟨u1, u2, u3⟩ := st i hi
    rcases C.1 (pw g i t) u1 u2 with ⟨z1, -⟩ | ⟨r, hr, er, ho, eT', cF, lt, tg⟩
    · exact absurd z1 u3
    · have ebn : bn g (pw g i t) = r := by unfold bn; rw [er]; exact nI_clamp (by omega)
      have pj : pw g (i + 1) t = eF g r := by
        show eF g (bn g (pw g i t)) = _
        rw [ebn]
      rw [pj, ebn]
      exact ⟨hr, er, ho, eT', lt, tg⟩
  have dec : ∀ i j, i < j → j ≤ J → R (pw g j t) < R (pw g i t) := by
    intro i j hij hj
    induction j with
    | zero => omega
    | succ j ih =>
      have s := (one j (by omega)).2.2.2.2.1
      by_cases e : i = j
      · rw [e]
        exact s
      · have := ih (by omega) (by omega)
        omega
  refine ⟨one, fun i j hij hj e => ?_⟩
  obtain ⟨a1, a2, a3, a4, a5, -⟩ := one i (by omega)
  obtain ⟨b1, b2, b3, b4, b5, -⟩ := one j hj
  have dij := dec i j hij (by omega)
  by_cases c : bn g (pw g i t) = bn g (pw g j t)
  · rw [c, b4] at a4
    rw [a4] at dij
    omega
  · have fl : eT g (bn g (pw g j t)) = eF g (bn g (pw g i t)) ∧ eF g (bn g (pw g j t)) = eT g (bn g (pw g i t)) := by
      unfold eT eF
      rw [← e]
      rcases Nat.mod_two_eq_zero_or_one (bn g (pw g i t)) with m1 | m1 <;> rcases Nat.mod_two_eq_zero_or_one (bn g (pw g j t)) with m2 | m2
      · omega
      · rw [m1, m2]
        exact ⟨rfl, rfl⟩
      · rw [m1, m2]
        exact ⟨rfl, rfl⟩
      · omega
    have p1 : pw g j t = pw g (i + 1) t := b4.symm.trans fl.1
    have p2 : pw g (j + 1) t = pw g i t := fl.2.trans a4
    rw [p2] at b5
    omega
/-- only what is carried and what is left over have changed -/
def F3c (h g : LH) : Prop := (∀ e, e ≠ 293 → e ≠ 294 → g.1 e = h.1 e)
theorem sd_2 {R : Nat → Nat} (B : CB g n k) (C : CH g n k R P) {t J m : Nat} {x1 : Int32} (hm : 1 ≤ m) (hm2 : m ≤ 5000) (tn : ∀ i, i ≤ J → pw g i t < n) (last : g.1 296 (pw g J t) = -1) (st : ∀ i, i < J → pw g i t < n ∧ g.1 295 (pw g i t) ≠ 1000000 ∧ g.1 296 (pw g i t) ≠ -1 ∧ (m : Int) ≤ (eR g (bn g (pw g i t))).toInt) {Q : tf_Q} (q : ∀ g2, F3c g g2 → (∀ p, p < n → -5000 ≤ (g2.1 294 p).toInt ∧ (g2.1 294 p).toInt ≤ 5000) → (∀ a, a < k → 0 ≤ (g2.1 293 a).toInt ∧ (g2.1 293 a).toInt ≤ (g.1 291 a).toInt) → (∀ a, a < k → g2.1 293 a = g.1 293 a ∨ ∃ i, i < J ∧ bn g (pw g i t) / 2 = a) → Q tf_z g2) : ∀ (f j : Nat) (x4 : Value) (g2 : LH), j + f = J → F3c g g2 → (∀ p, p < n → -5000 ≤ (g2.1 294 p).toInt ∧ (g2.1 294 p).toInt ≤ 5000) → (∀ a, a < k → 0 ≤ (g2.1 293 a).toInt ∧ (g2.1 293 a).toInt ≤ (g.1 291 a).toInt) → (∀ a, a < k → g2.1 293 a = g.1 293 a ∨ ∃ i, i < j ∧ bn g (pw g i t) / 2 = a) → lx_X9_sendsTo 298 (tf_Cd 298 (d + 2)) Q 113 [.ref 270, .int x1, .int (nI m), .int (nI (pw g j t)), x4] [] g2 := by
  have hn := B.1.1
  obtain ⟨one, dif⟩ := pw_ne C B.1 (t := t) (J := J) (fun i hi => ⟨(st i hi).1, (st i hi).2.1, (st i hi).2.2.1⟩)
  intro f
  induction f with
  | zero =>
    intro j x4 g2 hj F s1 s2 s3
    have e : j = J := by omega
    subst e
    have v7 : vp_in (nI (pw g j t)) 7 := vi_of (by have := tn j (Nat.le_refl _); omega) (by omega)
    have cp : (nI (pw g j t)).toNatClampNeg = pw g j t := nI_clamp (by have := tn j (Nat.le_refl _); omega)
    refine go_X9_sendsTo_113 (by decide) ⟨v7, ?_⟩
    rw [cp, F 296 (by decide) (by decide)]
    exact ⟨fun _ => go_X9_sendsTo_165 (by decide) (q g2 F s1 s2 s3), fun z => absurd last z⟩
  | succ f ih =>
    intro j x4 g2 hj F s1 s2 s3
    have K : tf_K 293 = 8 := by decide +kernel
    have Nn : tf_N 293 = 14 := by decide +kernel
    have htn := tn j (by omega)
    have v7 : vp_in (nI (pw g j t)) 7 := vi_of (by omega) (by omega)
    have cp : (nI (pw g j t)).toNatClampNeg = pw g j t := nI_clamp (by omega)
    obtain ⟨hr, er, ho, eT', -, -⟩ := one j (by omega)
    have room := (st j (by omega)).2.2.2
    have nr := (st j (by omega)).2.2.1
    generalize hrr : bn g (pw g j t) = r at *
    have i1 : nI r / 2 = nI (r / 2) := pk_div (d := 2) (by omega) (by omega) (by omega)
    have i2 : nI r - nI r / 2 * 2 = nI (r % 2) := pk_rem (d := 2) (by omega) (by omega) (by omega)
    have v14 : vp_in (nI (r / 2)) 14 := vi_of (by omega) (by omega)
    have c2 : (nI (r / 2)).toNatClampNeg = r / 2 := nI_clamp (by omega)
    have un : g2.1 293 (r / 2) = g.1 293 (r / 2) := by
      rcases s3 (r / 2) (by omega) with z | ⟨i, hi, ei⟩
      · exact z
      · have := dif i j hi (by omega)
        rw [hrr] at this
        exact absurd ei this
    have bb := B.2.1 (r / 2) (by omega)
    have tm : (nI m).toInt = (m : Int) := nI_toInt (by omega)
    have e154 : ∀ y3 : Int32, 0 ≤ (g2.1 293 (r / 2) + y3).toInt → (g2.1 293 (r / 2) + y3).toInt ≤ (g.1 291 (r / 2)).toInt → lx_X9_sendsTo 298 (tf_Cd 298 (d + 2)) Q 154 [.ref 270, .int x1, .int (nI m), .int (nI (pw g j t)), x4] [.int y3, .int (g2.1 293 (r / 2)), .int (nI (r / 2)), .ref 293] g2 := by
      intro y3 l1 l2
      refine go_X9_sendsTo_154 (by decide) K (ny0 := 14) Nn (by decide) ⟨v14, ?_⟩
      rw [c2]
      show tf_Cd 298 (d + 2) _ _ (w1 g2 293 (r / 2) (g2.1 293 (r / 2) + y3)) _
      have u1 : ∀ e, e ≠ 293 → (w1 g2 293 (r / 2) (g2.1 293 (r / 2) + y3)).1 e = g2.1 e := fun e he => w1_ne he
      have u2 : (w1 g2 293 (r / 2) (g2.1 293 (r / 2) + y3)).1 293 (r / 2) = g2.1 293 (r / 2) + y3 := w1_eq
      have u3 : ∀ a, a ≠ r / 2 → (w1 g2 293 (r / 2) (g2.1 293 (r / 2) + y3)).1 293 a = g2.1 293 a := fun a ha => w1_at ha
      generalize w1 g2 293 (r / 2) (g2.1 293 (r / 2) + y3) = g3 at *
      have F3 : F3c g g3 := fun e h1 h2 => by rw [u1 e h1]; exact F e h1 h2
      have eF3 : eF g3 r = eF g r := by unfold eF rm; rw [F3 271 (by decide) (by decide)]
      refine sx_bb (g := g3) (d := d) (n := n) (k := k) (B.1.fl (F3 271 (by decide) (by decide))) (by omega) hr (by rw [F3 296 (by decide) (by decide)]; exact er) _ (go_X9_sendsTo_161 (by decide) ?_)
      have pj : pw g (j + 1) t = eF g r := by
        show eF g (bn g (pw g j t)) = _
        rw [hrr]
      rw [eF3, ← pj]
      refine ih (j + 1) _ g3 (by omega) F3 (fun p hp => by rw [u1 294 (by decide)]; exact s1 p hp) (fun a ha => ?_) (fun a ha => ?_)
      · by_cases e : a = r / 2
        · rw [e, u2]
          exact ⟨l1, l2⟩
        · rw [u3 a e]
          exact s2 a ha
      · by_cases e : a = r / 2
        · exact Or.inr ⟨j, by omega, by rw [hrr, e]⟩
        · rw [u3 a e]
          rcases s3 a ha with z | ⟨i, hi, ei⟩
          · exact Or.inl z
          · exact Or.inr ⟨i, by omega, ei⟩
    refine go_X9_sendsTo_113 (by decide) ⟨v7, ?_⟩
    rw [cp, F 296 (by decide) (by decide)]
    refine ⟨fun z => absurd z nr, fun _ => ?_⟩
    rw [er, i2, i1, c2]
    refine ⟨v7, v14, v7, fun z => e154 _ ?_ ?_, fun z => go_X9_sendsTo_152 (by decide) K (ny0 := 14) Nn (by decide) (e154 _ ?_ ?_)⟩
    · rw [un, tia (by omega) (by omega)]
      omega
    · have r0 : r % 2 = 0 := (nI_eq (b := 0) (by omega) (by omega)).mp z
      unfold eR at room
      rw [if_pos r0, tis (by omega) (by omega)] at room
      rw [un, tia (by omega) (by omega)]
      omega
    · have r0 : ¬ r % 2 = 0 := fun y => z (by rw [y]; rfl)
      unfold eR at room
      rw [if_neg r0] at room
      have tn2 : (-nI m).toInt = -(m : Int) := by rw [tin (by omega) (by omega), tm]
      rw [un, tia (by omega) (by omega), tn2]
      omega
    · have r0 : ¬ r % 2 = 0 := fun y => z (by rw [y]; rfl)
      have tn2 : (-nI m).toInt = -(m : Int) := by rw [tin (by omega) (by omega), tm]
      rw [un, tia (by omega) (by omega), tn2]
      omega
end R92
