/-! ===== a pivot keeps a strongly feasible tree ===== -/
section VJS
variable {T T2 : LH} {n k M : Nat}
theorem nI_posn {v : Nat} (h : 0 < v) (h2 : v < 2 ^ 31) : ¬ nI v ≤ 0 := nI_nle h h2
theorem pos_nI {v : Nat} (h2 : v < 2 ^ 31) (h : ¬ nI v ≤ 0) : 0 < v := by
  rcases Nat.eq_zero_or_pos v with z | z
  · rw [z] at h
    exact absurd (by decide) h
  · exact z
set_option maxHeartbeats 2000000 in
theorem sf_piv (L : LT T n k) (GT : GI T n k M) (hM : M ≤ 20000000) {a x y mm : Nat} (ha : a < k) (hx : x < n) (hy : y < n) (ho : rf_off T a = true) (ex : (if rm T a 5 = 0 then rm T a 0 else rm T a 1) = nI x) (ey : (if rm T a 5 = 0 then rm T a 1 else rm T a 0) = nI y) (hm : mm < lc_n T x y) (er : rr (lc T a x y) mm = rlr (lc T a x y) (lc_n T x y) 0 1000000) (last : ∀ i, mm < i → i < lc_n T x y → rr (lc T a x y) i ≠ rlr (lc T a x y) (lc_n T x y) 0 1000000) (S : TS T n k) (SF : SFT T n k) (eT : T2.1 271 = (tn5 T a x y mm).1 271) (L2 : LT T2 n k) (S2 : TS T2 n k) : SFT T2 n k := by
  have n7 := L.1.1.2.1
  have k14 := L.1.1.2.2
  have xn := Nat.le_of_lt hx
  have yn := Nat.le_of_lt hy
  obtain ⟨-, Cp, Rs, Fb, Ag, Db, Gn⟩ := id GT
  have A := Ag.1
  have W : ∀ p, p < n → T.1 271 (58 + p) = 1 ∨ T.1 271 (58 + p) = -1 := fun p hp => by
    obtain ⟨v, -, -, w⟩ := Db p hp
    exact w
  obtain ⟨dl, hdl, edl, all⟩ := lc_dl L Ag Db hM ha xn yn hm er
  rw [edl] at er last
  obtain ⟨h1, h2, h3, kx, fl⟩ := tn5_hang L GT hM ha hx hy ho ex ey hm (er.trans edl.symm) eT
  have kxa : ∀ c w, w < 7 → w ≠ 4 → w ≠ 5 → rm T2 c w = rm T c w := fun c w q1 q2 q3 => kx _ (Or.inr (Or.inr (Or.inr (Or.inr ⟨c, w, rfl, q1, q2, q3⟩))))
  have fla : ∀ c, c < k → rm T2 c 4 = rm (tn3 T a x y) c 4 := fun c hc => fl _ (Or.inr ⟨c, by omega, rfl⟩)
  have flp : ∀ p, p < n → T2.1 271 (65 + p) = (tn3 T a x y).1 271 (65 + p) := fun p hp => fl _ (Or.inl (by omega))
  have k58 : ∀ p, p < n → T2.1 271 (58 + p) = T.1 271 (58 + p) := fun p hp => kx _ (Or.inr (Or.inr (Or.inl (by omega))))
  have A2 : ∀ c, c < k → rm T2 c 0 ≠ rm T2 c 1 := fun c hc => by
    rw [kxa c 0 (by omega) (by omega) (by omega), kxa c 1 (by omega) (by omega) (by omega)]
    exact A c hc
  have eC := lc_271 L ha xn yn (a := a) (x := x) (y := y)
  have go := fun m (hm : m < lc_n T x y) => lc_go L A W ha hx hy ex ey hm
  have tlC : tlv (lc T a x y) = tlv T := funext fun b => by unfold tlv rm; rw [eC]
  have hdC : hdv (lc T a x y) = hdv T := funext fun b => by unfold hdv rm; rw [eC]
  unfold GO at go
  rw [tlC, hdC, eC] at go
  have inj : ∀ i j, i < lc_n T x y → j < lc_n T x y → (lc T a x y).1 285 i = (lc T a x y).1 285 j → i = j := fun i j q1 q2 e => lc_inj L ha xn yn ho q1 q2 e
  obtain ⟨I, J, eI, eJ, hI, hJ, eIJ, -⟩ := lc_branch L xn yn
  have cn : lc_n T x y = I + 1 + J := by unfold lc_n; rw [eI, eJ]
  have closed : nu T x y 0 = nu T x y (lc_n T x y) := by
    unfold nu
    rw [cn, eI, if_pos (by omega), if_neg (by omega), show I - 0 = I by omega, show I + 1 + J - I - 1 = J by omega]
    exact eIJ
  have atI : (lc T a x y).1 285 I = nI a := by
    rcases lc_pos (g := T) (a := a) (x := x) (y := y) (m := I) (by omega) with ⟨p1, -⟩ | ⟨-, p2⟩ | ⟨j0, p1, -⟩
    · rw [eI] at p1
      omega
    · exact p2
    · rw [eI] at p1
      omega
  -- edges of the cycle hang afterwards, but for the one that leaves
  have hang2 : ∀ b, b < k → ∀ m, m < lc_n T x y → m ≠ mm → (lc T a x y).1 285 m = nI b → rf_hangs T2 b = true := by
    intro b hb m q1 q2 q3
    have ne : (lc T a x y).1 285 mm ≠ nI b := fun z => q2 (inj m mm q1 hm (q3.trans z.symm))
    by_cases c : b = a
    · rw [c] at ne ⊢
      exact h2.mpr ne
    · exact (h1 b hb c).mpr ⟨lc_hang L ha xn yn q1 hb q3 c, ne⟩
  have hc : ∀ m, m < lc_n T x y → m ≠ mm → (nu T x y m < n ∧ EG T2 n k (nu T x y m) (nu T x y (m + 1)) ((lc T a x y).1 285 m)) ∨ (nu T x y (m + 1) < n ∧ EG T2 n k (nu T x y (m + 1)) (nu T x y m) ((lc T a x y).1 285 m)) := by
    intro m q1 q2
    rcases go m q1 with ⟨b, hb, e, en⟩ | ⟨q, hq, e, -, en⟩
    · obtain ⟨t1, t2, t3, t4⟩ := L.1.te hb
      have hg := hang2 b hb m q1 q2 e
      have r0 := kxa b 0 (by omega) (by omega) (by omega)
      have r1 := kxa b 1 (by omega) (by omega) (by omega)
      rcases en with ⟨-, u1, u2⟩ | ⟨-, u1, u2⟩
      · rw [← u1, ← u2]
        exact Or.inl ⟨t3, Or.inr ⟨t4, b, hb, e, hg, Or.inl ⟨r0.trans t1, r1.trans t2⟩⟩⟩
      · rw [← u1, ← u2]
        exact Or.inl ⟨t4, Or.inr ⟨t3, b, hb, e, hg, Or.inr ⟨r1.trans t2, r0.trans t1⟩⟩⟩
    · have ln := lc_lent L ha xn yn q1 hq e
      have ln2 : T2.1 271 (51 + q) = 1 := (h3 q hq).mpr ⟨ln, fun z => q2 (inj m mm q1 hm (e.trans z.symm))⟩
      rcases en with ⟨u1, u2, -⟩ | ⟨u1, u2, -⟩
      · rw [u1, u2]
        exact Or.inl ⟨hq, Or.inl ⟨rfl, e, ln2⟩⟩
      · rw [u1, u2]
        exact Or.inr ⟨hq, Or.inl ⟨rfl, e, ln2⟩⟩
  have hT : ∀ w, w < n → T.1 282 w ≠ (lc T a x y).1 285 mm → EG T2 n k w (uf T w) (T.1 282 w) := by
    intro w hw ne
    rcases (L.at hw).2.2.2.2.2 with ⟨e1, e2, e3⟩ | ⟨e1, b, hb, e2, e3, e4⟩
    · exact Or.inl ⟨e1, e2, (h3 w hw).mpr ⟨e3, fun z => ne (by rw [e2, z])⟩⟩
    · have bna : b ≠ a := fun z => by
        have := by_nea L ha ho hw
        rw [e2, z] at this
        exact this rfl
      refine Or.inr ⟨e1, b, hb, e2, (h1 b hb bna).mpr ⟨e3, fun z => ne (by rw [e2, z])⟩, ?_⟩
      rw [kxa b 0 (by omega) (by omega) (by omega), kxa b 1 (by omega) (by omega) (by omega)]
      exact e4
  have hback : ∀ u v id, u < n → EG T2 n k u v id → (∀ m, m < lc_n T x y → id ≠ (lc T a x y).1 285 m) → EG T n k u v id := by
    intro u v id hu E off
    rcases E with ⟨e1, e2, e3⟩ | ⟨e1, b, hb, e2, e3, e4⟩
    · exact Or.inl ⟨e1, e2, ((h3 u hu).mp e3).1⟩
    · have bna : b ≠ a := fun z => off I (by omega) (by rw [e2, z, atI])
      rw [kxa b 0 (by omega) (by omega) (by omega), kxa b 1 (by omega) (by omega) (by omega)] at e4
      exact Or.inr ⟨e1, b, hb, e2, ((h1 b hb bna).mp e3).1, e4⟩
  have hout : ∀ w, w < n → T.1 282 w = (lc T a x y).1 285 mm → (w = nu T x y mm ∧ uf T w = nu T x y (mm + 1)) ∨ (w = nu T x y (mm + 1) ∧ uf T w = nu T x y mm) := by
    intro w hw e
    have F := (L.at hw).2.2.2.2.2
    rw [e] at F
    rcases go mm hm with ⟨b, hb, e2, en⟩ | ⟨q, hq, e2, -, en⟩
    · obtain ⟨t1, t2, t3, t4⟩ := L.1.te hb
      rcases F with ⟨-, f2, -⟩ | ⟨f1, b2, hb2, f2, f3, f4⟩
      · have := (nI_eq (by omega) (by omega)).mp (f2.symm.trans e2)
        omega
      · have : b2 = b := (nI_eq (by omega) (by omega)).mp (f2.symm.trans e2)
        subst this
        rw [t1, t2] at f4
        have g : (tlv T b2 = w ∧ hdv T b2 = uf T w) ∨ (hdv T b2 = w ∧ tlv T b2 = uf T w) := by
          rcases f4 with ⟨m1, m2⟩ | ⟨m1, m2⟩
          · exact Or.inl ⟨(nI_eq (by omega) (by omega)).mp m1, (nI_eq (by omega) (by omega)).mp m2⟩
          · exact Or.inr ⟨(nI_eq (by omega) (by omega)).mp m1, (nI_eq (by omega) (by omega)).mp m2⟩
        rcases en with ⟨-, u1, u2⟩ | ⟨-, u1, u2⟩ <;> omega
    · rcases F with ⟨f1, f2, -⟩ | ⟨f1, b2, hb2, f2, -, -⟩
      · have : 100 + w = 100 + q := (nI_eq (by omega) (by omega)).mp (f2.symm.trans e2)
        rcases en with ⟨u1, u2, -⟩ | ⟨u1, u2, -⟩ <;> omega
      · have := (nI_eq (by omega) (by omega)).mp (f2.symm.trans e2)
        omega
  -- nothing flows: then something on the way down leaves
  have zero : dl = 0 → mm < I := by
    intro d0
    rcases Nat.lt_or_ge mm I with z | z
    · exact z
    · exfalso
      rcases Nat.eq_or_lt_of_le z with z | z
      · -- the arc itself
        have e : (lc T a x y).1 285 mm = nI a := by rw [← z]; exact atI
        obtain ⟨v, bd, q1, q2, q3, q4, q5, -, -⟩ := tn3_ab L Ag Db hM ha xn yn ho edl all ha hm e
        rw [er] at q5
        have q6 := (nI_eq (by omega) (by split <;> omega)).mp q5
        have al := lc_al (g := T) (a := a) (x := x) (y := y) (by omega)
        rw [eI, z] at al
        have bpos : ¬ rm T a 2 ≤ 0 := by
          intro w
          unfold rf_off at ho
          rw [decide_eq_true w] at ho
          simp at ho
        rw [q4] at bpos
        have bp := pos_nI (by omega) bpos
        obtain ⟨-, f0, f1⟩ := Fb a ha
        rcases off_w ho with w | w
        · have fz := f0 w
          rw [q3] at fz
          have v0 : v = 0 := (nI_eq (b := 0) (by omega) (by omega)).mp fz
          rw [if_pos w] at ex
          rw [decide_eq_true ex] at al
          rw [al, if_neg (by decide)] at q6
          omega
        · have fz := f1 w
          rw [q3, q4] at fz
          have v0 : v = bd := (nI_eq (by omega) (by omega)).mp fz
          rw [if_neg (by rw [w]; decide)] at ex
          rw [decide_eq_false (fun q => A a ha (q.trans ex.symm))] at al
          rw [al, if_pos (by decide)] at q6
          omega
      · -- on the way up
        rcases lc_pos (g := T) (a := a) (x := x) (y := y) hm with ⟨p1, -⟩ | ⟨p1, -⟩ | ⟨j0, p1, p2, p3⟩
        · rw [eI] at p1
          omega
        · rw [eI] at p1
          omega
        · rw [eI] at p1
          rw [eJ] at p2
          have tq := L.tu j0 y yn (by omega)
          have hq := L.lt tq.1 (by omega)
          have nq : nu T x y mm = tw T j0 y := by
            unfold nu
            rw [eI, if_neg (by omega), show mm - I - 1 = j0 by omega]
          have sf := SF _ hq
          rcases go mm hm with ⟨b, hb, e, en⟩ | ⟨q, hq2, e, wy, en⟩
          · obtain ⟨t1, t2, t3, t4⟩ := L.1.te hb
            obtain ⟨v, bd, q1, q2, q3, q4, q5, -, -⟩ := tn3_ab L Ag Db hM ha xn yn ho edl all hb hm e
            rw [er] at q5
            have q6 := (nI_eq (by omega) (by split <;> omega)).mp q5
            obtain ⟨s1, s2⟩ := sf.1 b hb (p3.symm.trans e)
            rcases en with ⟨f0, u1, -⟩ | ⟨f0, u1, -⟩
            · have s3 := s1 (by rw [t1, u1, nq])
              rw [q3, q4] at s3
              have := (nI_ltI (by omega) (by omega)).mp s3
              rw [if_neg f0] at q6
              omega
            · have s3 := s2 (by rw [t2, u1, nq])
              rw [q3] at s3
              have := pos_nI (by omega) s3
              rw [if_pos f0] at q6
              omega
          · obtain ⟨v, q1, q2, q3, -, -⟩ := tn3_pb L Ag Db hM ha xn yn ho hdl edl all hq2 hm e
            rw [er] at q3
            have q6 := (nI_eq (by omega) (by split <;> omega)).mp q3
            rcases en with ⟨u1, -, f0⟩ | ⟨u1, -, -⟩
            · rw [nq] at u1
              by_cases c : (lc T a x y).1 286 mm = 0
              · rw [if_pos c] at q6
                have w1' := f0.mp c
                have := sf.2 (p3.symm.trans (e.trans (by rw [u1]))) (by rw [u1, q2, ← q6, d0]; rfl)
                rw [u1, w1'] at this
                exact absurd this (by decide)
              · rw [if_neg c] at q6
                omega
            · rw [nq] at u1
              omega
  intro p hp
  have F := (L2.at hp).2.2.2.2.2
  by_cases cyc : ∃ e, e < lc_n T x y ∧ T2.1 282 p = (lc T a x y).1 285 e
  · obtain ⟨e, he, ep⟩ := cyc
    have hem : e ≠ mm := by
      intro z
      rw [z] at ep
      rcases F with ⟨f1, f2, f3⟩ | ⟨f1, b, hb, f2, f3, -⟩
      · exact ((h3 p hp).mp f3).2 (ep.symm.trans f2)
      · by_cases c : b = a
        · rw [c] at f2 f3
          exact h2.mp f3 (ep.symm.trans f2)
        · exact ((h1 b hb c).mp f3).2 (ep.symm.trans f2)
    have z0 := z_out L L2 S2 A2 (c := lc_n T x y) (mm := mm) (e := e) (p := p) (z := nu T x y 0) (ids := fun m => (lc T a x y).1 285 m) hT (by
      unfold nu
      rw [eI, if_pos (by omega)]
      exact (L.tu (I - 0) x xn (by omega)).1) (fun j m q1 q2 => lc_above L ha xn yn ho q2 q1) hm he hp ep
    obtain ⟨before, behind⟩ := cyc_side L L2 S2 A2 (c := lc_n T x y) (mm := mm) (e := e) (p := p) (ids := fun m => (lc T a x y).1 285 m) (ν := nu T x y) hc inj closed hm he hem hp ep z0
    -- with nothing flowing, p hung by this edge before
    have was : e < mm → dl = 0 → T.1 282 p = (lc T a x y).1 285 e := by
      intro q1 d0
      have mI := zero d0
      rcases lc_pos (g := T) (a := a) (x := x) (y := y) he with ⟨p1, p2⟩ | ⟨p1, -⟩ | ⟨j0, p1, -⟩
      · rw [eI] at p1 p2
        have := (before q1).1
        unfold nu at this
        rw [eI, if_pos (by omega), show I - (e + 1) = I - 1 - e by omega] at this
        rw [← this]
        exact p2.symm
      · rw [eI] at p1
        omega
      · rw [eI] at p1
        omega
    have sf := SF p hp
    constructor
    · intro b hb eb
      have e1 : (lc T a x y).1 285 e = nI b := ep.symm.trans eb
      obtain ⟨v, bd, q1, q2, q3, q4, q5, q6, q7⟩ := tn3_ab L Ag Db hM ha xn yn ho edl all hb he e1
      obtain ⟨t1, t2, t3, t4⟩ := L.1.te hb
      rw [kxa b 0 (by omega) (by omega) (by omega), kxa b 1 (by omega) (by omega) (by omega), kxa b 2 (by omega) (by omega) (by omega), fla b hb, q7, q4, t1, t2]
      have ne : tlv T b ≠ hdv T b := fun z => A b hb (by rw [t1, t2, z])
      have g0 : ((lc T a x y).1 286 e ≠ 0 ∧ tlv T b = nu T x y e ∧ hdv T b = nu T x y (e + 1)) ∨ ((lc T a x y).1 286 e = 0 ∧ hdv T b = nu T x y e ∧ tlv T b = nu T x y (e + 1)) := by
        rcases go e he with ⟨b2, hb2, e2, en⟩ | ⟨q, hq, e2, -⟩
        · have : b2 = b := (nI_eq (by omega) (by omega)).mp (e2.symm.trans e1)
          subst this
          exact en
        · have := (nI_eq (by omega) (by omega)).mp (e2.symm.trans e1)
          omega
      have nin : ∀ {w : Nat}, w < n → (nI w = nI p ↔ w = p) := fun hw => nI_eq (by omega) (by omega)
      rw [nin t3, nin t4]
      rcases Nat.lt_or_ge e mm with c | c
      · obtain ⟨u1, u2⟩ := before c
        have old : dl = 0 → (tlv T b = p → v < bd) ∧ (hdv T b = p → 0 < v) := fun d0 => by
          obtain ⟨s1, s2⟩ := sf.1 b hb ((was c d0).trans e1)
          rw [t1, q3, q4] at s1
          rw [t2, q3] at s2
          exact ⟨fun z => (nI_ltI (by omega) (by omega)).mp (s1 (by rw [z])), fun z => pos_nI (by omega) (s2 (by rw [z]))⟩
        rcases g0 with ⟨f0, g1, g2⟩ | ⟨f0, g1, g2⟩
        · rw [if_neg f0] at q6 ⊢
          refine ⟨fun z => by omega, fun z => nI_posn ?_ (by omega)⟩
          rcases Nat.eq_zero_or_pos dl with d0 | d0
          · have := (old d0).2 z
            omega
          · omega
        · rw [if_pos f0] at q6 ⊢
          refine ⟨fun z => nI_lt ?_ (by omega), fun z => by omega⟩
          rcases Nat.eq_zero_or_pos dl with d0 | d0
          · have := (old d0).1 z
            omega
          · omega
      · obtain ⟨u1, u2⟩ := behind (by omega)
        have st := last e (by omega) he
        rw [q5] at st
        rcases g0 with ⟨f0, g1, g2⟩ | ⟨f0, g1, g2⟩
        · rw [if_neg f0] at q6 st ⊢
          have : bd - v ≠ dl := fun z => st (by rw [z])
          exact ⟨fun z => nI_lt (by omega) (by omega), fun z => by omega⟩
        · rw [if_pos f0] at q6 st ⊢
          have : v ≠ dl := fun z => st (by rw [z])
          exact ⟨fun z => by omega, fun z => nI_posn (by omega) (by omega)⟩
    · intro eb dz
      have e1 : (lc T a x y).1 285 e = nI (100 + p) := ep.symm.trans eb
      obtain ⟨v, q1, q2, q3, q4, q5⟩ := tn3_pb L Ag Db hM ha xn yn ho hdl edl all hp he e1
      rw [flp p hp, q5] at dz
      rw [k58 p hp]
      have g0 : (nu T x y e = p ∧ nu T x y (e + 1) = n ∧ ((lc T a x y).1 286 e = 0 ↔ T.1 271 (58 + p) = -1)) ∨ (nu T x y e = n ∧ nu T x y (e + 1) = p ∧ ((lc T a x y).1 286 e = 0 ↔ T.1 271 (58 + p) = 1)) := by
        rcases go e he with ⟨b2, hb2, e2, en⟩ | ⟨q, hq, e2, -, en⟩
        · have := (nI_eq (by omega) (by omega)).mp (e2.symm.trans e1)
          omega
        · have : 100 + q = 100 + p := (nI_eq (by omega) (by omega)).mp (e2.symm.trans e1)
          have : q = p := by omega
          subst this
          exact en
      rcases W p hp with w | w
      · exact w
      · exfalso
        rcases Nat.lt_or_ge e mm with c | c
        · obtain ⟨u1, u2⟩ := before c
          rcases g0 with ⟨g1, g2, g3⟩ | ⟨g1, g2, g3⟩
          · omega
          · have f0 : ¬ (lc T a x y).1 286 e = 0 := fun z => by
              have := g3.mp z
              rw [w] at this
              exact absurd this (by decide)
            rw [if_neg f0] at dz
            have := (nI_eq (b := 0) (by omega) (by omega)).mp dz
            have := sf.2 ((was c (by omega)).trans e1) (by rw [q2, show v = 0 by omega]; rfl)
            rw [w] at this
            exact absurd this (by decide)
        · obtain ⟨u1, u2⟩ := behind (by omega)
          have st := last e (by omega) he
          rw [q3] at st
          rcases g0 with ⟨g1, g2, g3⟩ | ⟨g1, g2, g3⟩
          · have f0 := g3.mpr w
            rw [if_pos f0] at q4 st dz
            have := (nI_eq (b := 0) (by omega) (by omega)).mp dz
            have : v ≠ dl := fun z => st (by rw [z])
            omega
          · omega
  · have off : ∀ m, m < lc_n T x y → T2.1 282 p ≠ (lc T a x y).1 285 m := fun m q1 q2 => cyc ⟨m, q1, q2⟩
    obtain ⟨o1, o2⟩ := off_side L S A L2 S2 A2 (c := lc_n T x y) (mm := mm) (p := p) (ids := fun m => (lc T a x y).1 285 m) (ν := nu T x y) hc hT hback hout closed hm hp off
    have sf := SF p hp
    constructor
    · intro b hb eb
      have fx1 := tn3_off L (a := a) (x := x) (y := y) (id := nI b) ha xn yn (Or.inl ⟨b, hb, rfl⟩) (fun i hi z => off i hi (eb.trans z.symm))
      rw [fx_a (by omega)] at fx1
      rw [kxa b 0 (by omega) (by omega) (by omega), kxa b 1 (by omega) (by omega) (by omega), kxa b 2 (by omega) (by omega) (by omega), fla b hb, show rm (tn3 T a x y) b 4 = rm T b 4 from fx1]
      exact sf.1 b hb (o1.trans eb)
    · intro eb dz
      have fx1 := tn3_off L (a := a) (x := x) (y := y) (id := nI (100 + p)) ha xn yn (Or.inr ⟨p, hp, rfl⟩) (fun i hi z => off i hi (eb.trans z.symm))
      rw [fx_p (by omega)] at fx1
      rw [flp p hp, fx1] at dz
      rw [k58 p hp]
      exact sf.2 (o1.trans eb) dz
end VJS
