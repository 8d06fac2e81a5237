/-! ===== what a begin and a pivot keep, for the row of the trial ===== -/
section WS1
variable {h g T : LH} {b n k : Nat}
/-- a price is not far from 0 -/
theorem pr_bdW (P : PR T n k) (L : LT T n k) (A : ∀ a, a < k → ∃ c, c ≤ 199 ∧ rm T a 3 + 99 = nI c) : ∀ (d p : Nat), p ≤ n → df T p ≤ d → -(10000 + 100 * (d : Int)) ≤ (T.1 284 p).toInt ∧ (T.1 284 p).toInt ≤ 10000 + 100 * (d : Int)
  | 0, p, hp, hd => by
    have : p = n := (L.d0 hp).mp (by omega)
    rw [this, P.1]
    have : (0 : Int32).toInt = 0 := rfl
    omega
  | d + 1, p, hp, hd => by
    rcases Nat.lt_or_ge p n with z | z
    · have up := L.up z
      rcases P.at L z with ⟨-, -, e⟩ | ⟨u, -, a, ha, -, e⟩
      · rw [e]
        have e1 : (-10000 : Int32).toInt = -10000 := by decide
        have e2 : (10000 : Int32).toInt = 10000 := by decide
        split <;> omega
      · have ih := pr_bdW P L A d (uf T p) up.1 (by omega)
        have n7 := L.1.1.2.1
        have d7 : (d : Int) ≤ 7 ∨ 8 ≤ d := by omega
        obtain ⟨c, hc, ec⟩ := A a ha
        have ci : (rm T a 3).toInt = (c : Int) - 99 := by
          have : rm T a 3 = nI c - nI 99 := by
            rw [← ec]
            show rm T a 3 = rm T a 3 + 99 - 99
            rw [Int32.add_sub_cancel]
          rw [this, pk_sub_toInt (by omega) (by omega)]
          rfl
        have dd := (L.at z).2.2.2.1
        have ihd := pr_bdW P L A (df T (uf T p)) (uf T p) up.1 (Nat.le_refl _)
        have w : df T (uf T p) ≤ 6 := by omega
        have w2 : ((df T (uf T p) : Nat) : Int) ≤ 6 := by omega
        rcases e with ⟨-, -, e⟩ | ⟨-, -, e⟩
        · have : (T.1 284 p).toInt = (T.1 284 (uf T p)).toInt + (rm T a 3).toInt := by
            rw [e, Int32.toInt_add]
            apply Int.bmod_eq_of_le <;> omega
          omega
        · have : (T.1 284 p).toInt = (T.1 284 (uf T p)).toInt - (rm T a 3).toInt := by
            rw [e, Int32.toInt_sub]
            apply Int.bmod_eq_of_le <;> omega
          omega
    · have : p = n := by omega
      rw [this, P.1]
      have : (0 : Int32).toInt = 0 := rfl
      omega
end WS1
section WS2
variable {h g T : LH} {b n k : Nat}
theorem red_bdW (L : LT T n k) (P : PR T n k) (A : ∀ a, a < k → ∃ c, c ≤ 199 ∧ rm T a 3 + 99 = nI c) {a : Nat} (ha : a < k) : -100000 ≤ (rf_red T a).toInt ∧ (rf_red T a).toInt ≤ 100000 := by
  have k14 := L.1.1.2.2
  have n7 := L.1.1.2.1
  obtain ⟨p, q, hp, hq, ep, eq⟩ := L.1.ends ha
  obtain ⟨c, hc, ec⟩ := A a ha
  have ci : (rm T a 3).toInt = (c : Int) - 99 := by
    have : rm T a 3 = nI c - nI 99 := by
      rw [← ec]
      show rm T a 3 = rm T a 3 + 99 - 99
      rw [Int32.add_sub_cancel]
    rw [this, pk_sub_toInt (by omega) (by omega)]
    rfl
  have b1 := pr_bdW P L A 7 p (Nat.le_of_lt hp) ((L.at hp).2.2.2.1)
  have b2 := pr_bdW P L A 7 q (Nat.le_of_lt hq) ((L.at hq).2.2.2.1)
  unfold rf_red
  rw [ep, eq, nI_clamp (by omega), nI_clamp (by omega)]
  have s1 : (rm T a 3 + T.1 284 p).toInt = (rm T a 3).toInt + (T.1 284 p).toInt := by
    rw [Int32.toInt_add]
    apply Int.bmod_eq_of_le <;> omega
  have s2 : (rm T a 3 + T.1 284 p - T.1 284 q).toInt = (rm T a 3).toInt + (T.1 284 p).toInt - (T.1 284 q).toInt := by
    rw [Int32.toInt_sub, s1]
    apply Int.bmod_eq_of_le <;> omega
  omega
theorem off_eqW (L : LT T n k) (P : PR T n k) (A : ∀ a, a < k → ∃ c, c ≤ 199 ∧ rm T a 3 + 99 = nI c) (E : TLe h b T n k) (F : FLe h b T n k) (C : COe h b T n k) (Pe : PRe h b T n) (S : SRe h b T k) {a : Nat} (ha : a < k) : (rf_off T a = true → nt_off h b (nI a) = rf_far T a ∧ 0 < rf_far T a) ∧ (rf_off T a = false → nt_off h b (nI a) = 0) := by
  have k14 := L.1.1.2.2
  have rb := red_bdW L P A ha
  have ng := neg_i rb
  have z0 : (0 : Int32).toInt = 0 := rfl
  have ca : (nI a).toNatClampNeg = a := nI_clamp (by omega)
  unfold nt_off nt_may
  rw [red_eq L E C Pe ha, ca, (F.1 a ha).1]
  rcases S a ha with ⟨s6, s7, s5⟩ | ⟨s6, s7, s5⟩
  · rw [s7]
    unfold rf_off rf_far nt_max0
    rw [s6]
    obtain ⟨j, hj, ej⟩ := vi_nI s5
    rw [ej]
    have c01 : ∀ j, j < 3 → (j = 0 ∧ nI j = 0) ∨ (j = 1 ∧ nI j = 1) ∨ (j = 2 ∧ nI j = 2) := by decide
    by_cases bp : rm T a 2 ≤ 0
    · have e : ∀ u : Bool, (u && !decide (rm T a 2 ≤ 0)) = false := fun u => by simp [bp]
      rw [e, if_neg (by decide)]
      simp [bp]
    · rcases c01 j hj with ⟨-, e⟩ | ⟨-, e⟩ | ⟨-, e⟩
      · rw [e]
        have t : (decide ((0 : Int32) = 0) || decide ((0 : Int32) = 1)) && !decide (rm T a 2 ≤ 0) := by simp [bp]
        rw [if_pos t, if_pos rfl]
        by_cases rl : rf_red T a < 0
        · have nn : ¬ 0 ≤ rf_red T a := Int32.not_le.mpr rl
          have pos : (0 : Int32) < -rf_red T a := by
            rw [Int32.lt_iff_toInt_lt] at rl ⊢
            omega
          rw [if_neg nn, if_pos pos]
          refine ⟨fun _ => ⟨rfl, pos⟩, fun y => ?_⟩
          simp [bp, rl] at y
        · have np : ¬ (0 : Int32) < -rf_red T a := by
            rw [Int32.lt_iff_toInt_lt] at rl ⊢
            omega
          rw [if_neg np]
          refine ⟨fun y => ?_, fun _ => rfl⟩
          simp [bp, rl] at y
      · rw [e]
        have t : (decide ((1 : Int32) = 0) || decide ((1 : Int32) = 1)) && !decide (rm T a 2 ≤ 0) := by simp [bp]
        rw [if_pos t, if_neg (by decide)]
        by_cases rl : rf_red T a ≤ 0
        · have np : ¬ (0 : Int32) < rf_red T a := Int32.not_lt.mpr rl
          rw [if_neg np]
          refine ⟨fun y => ?_, fun _ => rfl⟩
          simp [bp, rl] at y
        · have pos : (0 : Int32) < rf_red T a := Int32.not_le.mp rl
          rw [if_pos pos, if_pos (Int32.le_of_lt pos)]
          refine ⟨fun _ => ⟨rfl, pos⟩, fun y => ?_⟩
          simp [bp, rl] at y
      · rw [e]
        have t : ¬ ((decide ((2 : Int32) = 0) || decide ((2 : Int32) = 1)) && !decide (rm T a 2 ≤ 0)) = true := by simp
        rw [if_neg t]
        refine ⟨fun y => ?_, fun _ => rfl⟩
        simp at y
  · rw [s7]
    have t : ¬ ((decide ((3 : Int32) = 0) || decide ((3 : Int32) = 1)) && !decide (rm T a 2 ≤ 0)) = true := by simp
    rw [if_neg t]
    refine ⟨fun y => ?_, fun _ => rfl⟩
    unfold rf_off at y
    rw [s6] at y
    simp at y
end WS2
section WS3
variable {h g g1 T r : LH} {n k M d : Nat}
theorem cons_begW (B : BIW g n k) (w : Int32) : CONS (bgn g n k w) n k := by
  have hn := B.1.1
  have F := ba_fb (w := w) k 0 g (by omega)
  have B2 := B.fb F
  exact bp_cons hn.2.2 B2.2.2.2.1 n 0 (ba w k 0 g) (by omega) B2.1 (fun _ _ => rfl) (fun q hq => absurd hq (by omega))
theorem cons_pivW (L : LT T n k) (GT : GIW T n k M) (K : CONS T n k) {a x y mm : Nat} (ha : a < k) (hx : x < n) (hy : y < n) (ex : (if rm T a 5 = 0 then rm T a 0 else rm T a 1) = nI x) (ey : (if rm T a 5 = 0 then rm T a 1 else rm T a 0) = nI y) (hm : mm < lc_n T x y) : CONS (tn5 T a x y mm) n k := by
  intro p hp
  have n7 := L.1.1.2.1
  have k14 := L.1.1.2.2
  have W : ∀ p, p < n → T.1 271 (58 + p) = 1 ∨ T.1 271 (58 + p) = -1 := fun p hp => by
    obtain ⟨v, -, -, w⟩ := GT.2.2.2.2.2.1 p hp
    exact w
  have c3 := cq_tn3 L GT.2.2.2.2.1.1 W ha hx hy ex ey hp
  have ed := lc_ed L ha (Nat.le_of_lt hx) (Nat.le_of_lt hy) hm
  have t4 := (tn4_lo (g := tn3 T a x y) ed n7 k14 ha).2.2.1
  have fp := (ip_fp (g := tn4 (tn3 T a x y) a ((lc T a x y).1 285 mm)) (x := nI a) (y := (lc T a x y).1 285 mm) (z := rlr (lc T a x y) (lc_n T x y) 0 1000000)).2.2
  have lcs := lc_271 L ha (Nat.le_of_lt hx) (Nat.le_of_lt hy) (a := a) (x := x) (y := y)
  have s44 : (tn3 T a x y).1 271 (44 + p) = T.1 271 (44 + p) := by
    unfold tn3
    rw [fls_out _ _ _ (fun m _ hm2 => ?_), lcs]
    rcases lc_ed L ha (Nat.le_of_lt hx) (Nat.le_of_lt hy) (m := m) (by omega) with ⟨b, hb, e⟩ | ⟨q, hq, e⟩
    · rw [e, fx_a (by omega)]
      omega
    · rw [e, fx_p (by omega)]
      omega
  have same : ∀ ix, (44 ≤ ix ∧ ix < 51) ∨ (58 ≤ ix ∧ ix < 72) ∨ (∃ b w, ix = 72 + 7 * b + w ∧ (w = 0 ∨ w = 1 ∨ w = 4)) → (tn5 T a x y mm).1 271 ix = (tn3 T a x y).1 271 ix := fun ix hx => by
    unfold tn5
    rw [fp ix (Or.inr (by rcases hx with z | z | ⟨b, w, z, -⟩ <;> omega)), t4 ix (by rcases hx with z | z | ⟨b, w, z, -⟩ <;> omega) (fun b hb => by rcases hx with z | z | ⟨b2, w, z, zw⟩ <;> omega)]
  rw [same (44 + p) (by omega), s44, cq_c (g := tn3 T a x y) (fun b w hw => same _ (Or.inr (Or.inr ⟨b, w, rfl, hw⟩))) (same _ (by omega)) (same _ (by omega)), c3, K p hp]
end WS3
section WS4
variable {T : LH} {n k M : Nat}
theorem tn5_hangW (L : LT T n k) (GT : GIW T n k M) (hM : M ≤ 20000000) {a x y mm : Nat} (ha : a < k) (hx : x < n) (hy : y < n) (ho : rf_off T a = true) (ex : (if rm T a 5 = 0 then rm T a 0 else rm T a 1) = nI x) (ey : (if rm T a 5 = 0 then rm T a 1 else rm T a 0) = nI y) (hm : mm < lc_n T x y) (er : rr (lc T a x y) mm = rlr (lc T a x y) (lc_n T x y) 0 1000000) {T2 : LH} (eT : T2.1 271 = (tn5 T a x y mm).1 271) : (∀ c, c < k → c ≠ a → (rf_hangs T2 c = true ↔ rf_hangs T c = true ∧ (lc T a x y).1 285 mm ≠ nI c)) ∧ (rf_hangs T2 a = true ↔ (lc T a x y).1 285 mm ≠ nI a) ∧ (∀ p, p < n → (T2.1 271 (51 + p) = 1 ↔ T.1 271 (51 + p) = 1 ∧ (lc T a x y).1 285 mm ≠ nI (100 + p))) ∧ (∀ ix, KX ix → T2.1 271 ix = T.1 271 ix) ∧ ∀ ix, IXF ix → T2.1 271 ix = (tn3 T a x y).1 271 ix := by
  obtain ⟨-, Cp, Rs, Fb, Ag, Db, Gn⟩ := id GT
  have n7 := L.1.1.2.1
  have k14 := L.1.1.2.2
  have xn := Nat.le_of_lt hx
  have yn := Nat.le_of_lt hy
  have tk := tn_keepW L Cp Fb Ag Db Gn hM ha hx hy ho ex ey hm er
  have w5 := off_w ho
  have lc271 := lc_271 L ha xn yn (a := a) (x := x) (y := y)
  have D := lc_ed L ha xn yn hm
  have r3r : ∀ ix, ¬ IXF ix → (tn3 T a x y).1 271 ix = T.1 271 ix := fun ix hix => by
    unfold tn3
    rw [(fls_fw _ 0 _ (lc_ok L ha xn yn).1 (by omega)).2.2 ix hix, lc271]
  have nix5 : ∀ c, ¬ IXF (72 + 7 * c + 5) := fun c z => by
    rcases z with z | ⟨q, -, z⟩ <;> omega
  have nixl : ∀ ix, ix < 65 → ¬ IXF ix := fun ix hix z => by
    rcases z with z | ⟨q, -, z⟩ <;> omega
  have r35 : ∀ c, rm (tn3 T a x y) c 5 = rm T c 5 := fun c => r3r _ (nix5 c)
  obtain ⟨q1, q2, q3, q4, q5, q6, q7, q8⟩ := tn4_lo (g := tn3 T a x y) D n7 k14 ha
  have r5i : ∀ ix, ix < 3 ∨ 44 ≤ ix → (tn5 T a x y mm).1 271 ix = (tn4 (tn3 T a x y) a ((lc T a x y).1 285 mm)).1 271 ix := fun ix hix => (ip_fp (g := tn4 (tn3 T a x y) a ((lc T a x y).1 285 mm))).2.2 ix hix
  have r55 : ∀ c, rm (tn5 T a x y mm) c 5 = rm (tn4 (tn3 T a x y) a ((lc T a x y).1 285 mm)) c 5 := fun c => r5i _ (by omega)
  have rT : ∀ c w, rm T2 c w = rm (tn5 T a x y mm) c w := fun c w => by unfold rm; rw [eT]
  have h5 : ∀ z : Int32, (decide (z = 2) = true) ↔ z = 2 := fun z => decide_eq_true_iff
  refine ⟨fun c hc cA => ?_, ?_, fun p hp => ?_, fun ix hix => by rw [eT]; exact tk.2.1 ix hix, fun ix hix => ?_⟩
  · unfold rf_hangs
    rw [rT, r55]
    by_cases z : (lc T a x y).1 285 mm = nI c
    · rw [q7 c cA hc z]
      constructor
      · intro w
        split at w <;> cases w
      · exact fun w => absurd z w.2
    · rw [q6 c cA hc z, r35]
      exact ⟨fun w => ⟨w, z⟩, fun w => w.1⟩
  · unfold rf_hangs
    rw [rT, r55]
    by_cases z : (lc T a x y).1 285 mm = nI a
    · rw [q5 z, r35]
      constructor
      · intro w
        rcases w5 with u | u <;> rw [u] at w <;> cases w
      · exact fun w => absurd z w
    · rw [q4 z]
      exact ⟨fun _ => z, fun _ => rfl⟩
  · rw [eT, r5i _ (by omega)]
    by_cases z : (lc T a x y).1 285 mm = nI (100 + p)
    · constructor
      · intro w
        exfalso
        have zne : ¬ nI (100 + p) = nI a := fun q => by
          have := (nI_eq (by omega) (by omega)).mp q
          omega
        unfold tn4 at w
        rw [z, if_neg zne] at w
        unfold go_o at w
        rw [if_pos (loan_p (by omega)), show (51 : Int32) = nI 51 from rfl, loan_ix, nI_clamp (by omega), w1_eq] at w
        cases w
      · exact fun w => absurd z w.2
    · rw [q8 p hp z, r3r _ (nixl _ (by omega))]
      exact ⟨fun w => ⟨w, z⟩, fun w => w.1⟩
  · rw [eT, r5i ix (by rcases hix with z | ⟨q, -, z⟩ <;> omega), q3 ix (by rcases hix with z | ⟨q, -, z⟩ <;> omega) (fun d _ => by rcases hix with z | ⟨q, -, z⟩ <;> omega)]
end WS4
section WS5
variable {T T2 : LH} {n k M : Nat}
theorem tn3_abW (L : LT T n k) (A : AGW T n k) (D : DBW T n M) (hM : M ≤ 20000000) {a x y dl i b : Nat} (ha : a < k) (hx : x ≤ n) (hy : y ≤ n) (ho : rf_off T a = true) (edl : rlr (lc T a x y) (lc_n T x y) 0 1000000 = nI dl) (all : ∀ i r, i < lc_n T x y → r < 2 ^ 31 → rr (lc T a x y) i = nI r → dl ≤ r) (hb : b < k) (hi : i < lc_n T x y) (ei : (lc T a x y).1 285 i = nI b) : ∃ v bd, v ≤ bd ∧ bd < 101 ∧ rm T b 4 = nI v ∧ rm T b 2 = nI bd ∧ rr (lc T a x y) i = nI (if (lc T a x y).1 286 i = 0 then v else bd - v) ∧ dl ≤ (if (lc T a x y).1 286 i = 0 then v else bd - v) ∧ rm (tn3 T a x y) b 4 = nI (if (lc T a x y).1 286 i = 0 then v - dl else v + dl) := by
  have hn := L.1.1
  have e271 := lc_271 L ha hx hy (a := a) (x := x) (y := y)
  have hinj : ∀ m1 m2, m1 < lc_n T x y → m2 < lc_n T x y → fx ((lc T a x y).1 285 m1) = fx ((lc T a x y).1 285 m2) → m1 = m2 := fun m1 m2 q1 q2 e => lc_inj L ha hx hy ho q1 q2 (fx_inj hn.2.1 hn.2.2 (lc_ed L ha hx hy q1) (lc_ed L ha hx hy q2) e)
  have fi : fx ((lc T a x y).1 285 i) = 72 + 7 * b + 4 := by rw [ei]; exact fx_a (by omega)
  have val := fls_at (dl := nI dl) (m := i) (lc_n T x y) 0 (lc T a x y) (Nat.zero_le _) (by omega) (fun m2 _ q2 e => hinj m2 i (by omega) hi e)
  rw [fi, e271] at val
  have val2 : rm (tn3 T a x y) b 4 = rm T b 4 + (if (lc T a x y).1 286 i = 0 then -nI dl else nI dl) := by
    unfold tn3
    rw [edl]
    exact val
  rcases lc_roomW L A D hM ha hx hy hi with ⟨b2, hb2, q0, v, bd, q1, q2, q3, q4, q5⟩ | ⟨p, hp, q0, -⟩
  · have : b2 = b := (nI_eq (by omega) (by omega)).mp (q0.symm.trans ei)
    subst this
    have le := all i _ hi (by split <;> omega) q5
    refine ⟨v, bd, q1, q2, q3, q4, q5, le, ?_⟩
    rw [val2, q3]
    by_cases c : (lc T a x y).1 286 i = 0
    · rw [if_pos c] at le ⊢
      rw [if_pos c, nI_subneg le]
    · rw [if_neg c, if_neg c, nI_add]
  · have := (nI_eq (by omega) (by omega)).mp (q0.symm.trans ei)
    omega
theorem tn3_pbW (L : LT T n k) (A : AGW T n k) (D : DBW T n M) (hM : M ≤ 20000000) {a x y dl i p : Nat} (ha : a < k) (hx : x ≤ n) (hy : y ≤ n) (ho : rf_off T a = true) (hdl : dl ≤ 100) (edl : rlr (lc T a x y) (lc_n T x y) 0 1000000 = nI dl) (all : ∀ i r, i < lc_n T x y → r < 2 ^ 31 → rr (lc T a x y) i = nI r → dl ≤ r) (hp : p < n) (hi : i < lc_n T x y) (ei : (lc T a x y).1 285 i = nI (100 + p)) : ∃ v, v ≤ 2000 + 100 * M ∧ T.1 271 (65 + p) = nI v ∧ rr (lc T a x y) i = nI (if (lc T a x y).1 286 i = 0 then v else 1000000) ∧ dl ≤ (if (lc T a x y).1 286 i = 0 then v else 1000000) ∧ (tn3 T a x y).1 271 (65 + p) = nI (if (lc T a x y).1 286 i = 0 then v - dl else v + dl) := by
  have hn := L.1.1
  have e271 := lc_271 L ha hx hy (a := a) (x := x) (y := y)
  have hinj : ∀ m1 m2, m1 < lc_n T x y → m2 < lc_n T x y → fx ((lc T a x y).1 285 m1) = fx ((lc T a x y).1 285 m2) → m1 = m2 := fun m1 m2 q1 q2 e => lc_inj L ha hx hy ho q1 q2 (fx_inj hn.2.1 hn.2.2 (lc_ed L ha hx hy q1) (lc_ed L ha hx hy q2) e)
  have fi : fx ((lc T a x y).1 285 i) = 65 + p := by rw [ei]; exact fx_p (by omega)
  have val := fls_at (dl := nI dl) (m := i) (lc_n T x y) 0 (lc T a x y) (Nat.zero_le _) (by omega) (fun m2 _ q2 e => hinj m2 i (by omega) hi e)
  rw [fi, e271] at val
  have val2 : (tn3 T a x y).1 271 (65 + p) = T.1 271 (65 + p) + (if (lc T a x y).1 286 i = 0 then -nI dl else nI dl) := by
    unfold tn3
    rw [edl]
    exact val
  rcases lc_roomW L A D hM ha hx hy hi with ⟨b2, hb2, q0, -⟩ | ⟨p2, hp2, q0, v, q1, q2, q3⟩
  · have := (nI_eq (by omega) (by omega)).mp (q0.symm.trans ei)
    omega
  · have : p2 = p := by
      have := (nI_eq (by omega) (by omega)).mp (q0.symm.trans ei)
      omega
    subst this
    have le := all i _ hi (by split <;> omega) q3
    refine ⟨v, q1, q2, q3, le, ?_⟩
    rw [val2, q2]
    by_cases c : (lc T a x y).1 286 i = 0
    · rw [if_pos c] at le ⊢
      rw [if_pos c, nI_subneg le]
    · rw [if_neg c, if_neg c, nI_add]
end WS5
section WS6
variable {T T2 : LH} {n k M : Nat}
set_option maxHeartbeats 2000000 in
theorem sf_pivW (L : LT T n k) (GT : GIW T n k M) (hM : M ≤ 20000000) {a x y mm : Nat} (ha : a < k) (hx : x < n) (hy : y < n) (ho : rf_off T a = true) (ex : (if rm T a 5 = 0 then rm T a 0 else rm T a 1) = nI x) (ey : (if rm T a 5 = 0 then rm T a 1 else rm T a 0) = nI y) (hm : mm < lc_n T x y) (er : rr (lc T a x y) mm = rlr (lc T a x y) (lc_n T x y) 0 1000000) (last : ∀ i, mm < i → i < lc_n T x y → rr (lc T a x y) i ≠ rlr (lc T a x y) (lc_n T x y) 0 1000000) (S : TS T n k) (SF : SFT T n k) (eT : T2.1 271 = (tn5 T a x y mm).1 271) (L2 : LT T2 n k) (S2 : TS T2 n k) : SFT T2 n k := by
  have n7 := L.1.1.2.1
  have k14 := L.1.1.2.2
  have xn := Nat.le_of_lt hx
  have yn := Nat.le_of_lt hy
  obtain ⟨-, Cp, Rs, Fb, Ag, Db, Gn⟩ := id GT
  have A := Ag.1
  have W : ∀ p, p < n → T.1 271 (58 + p) = 1 ∨ T.1 271 (58 + p) = -1 := fun p hp => by
    obtain ⟨v, -, -, w⟩ := Db p hp
    exact w
  obtain ⟨dl, hdl, edl, all⟩ := lc_dlW L Ag Db hM ha xn yn hm er
  rw [edl] at er last
  obtain ⟨h1, h2, h3, kx, fl⟩ := tn5_hangW L GT hM ha hx hy ho ex ey hm (er.trans edl.symm) eT
  have kxa : ∀ c w, w < 7 → w ≠ 4 → w ≠ 5 → rm T2 c w = rm T c w := fun c w q1 q2 q3 => kx _ (Or.inr (Or.inr (Or.inr (Or.inr ⟨c, w, rfl, q1, q2, q3⟩))))
  have fla : ∀ c, c < k → rm T2 c 4 = rm (tn3 T a x y) c 4 := fun c hc => fl _ (Or.inr ⟨c, by omega, rfl⟩)
  have flp : ∀ p, p < n → T2.1 271 (65 + p) = (tn3 T a x y).1 271 (65 + p) := fun p hp => fl _ (Or.inl (by omega))
  have k58 : ∀ p, p < n → T2.1 271 (58 + p) = T.1 271 (58 + p) := fun p hp => kx _ (Or.inr (Or.inr (Or.inl (by omega))))
  have A2 : ∀ c, c < k → rm T2 c 0 ≠ rm T2 c 1 := fun c hc => by
    rw [kxa c 0 (by omega) (by omega) (by omega), kxa c 1 (by omega) (by omega) (by omega)]
    exact A c hc
  have eC := lc_271 L ha xn yn (a := a) (x := x) (y := y)
  have go := fun m (hm : m < lc_n T x y) => lc_go L A W ha hx hy ex ey hm
  have tlC : tlv (lc T a x y) = tlv T := funext fun b => by unfold tlv rm; rw [eC]
  have hdC : hdv (lc T a x y) = hdv T := funext fun b => by unfold hdv rm; rw [eC]
  unfold GO at go
  rw [tlC, hdC, eC] at go
  have inj : ∀ i j, i < lc_n T x y → j < lc_n T x y → (lc T a x y).1 285 i = (lc T a x y).1 285 j → i = j := fun i j q1 q2 e => lc_inj L ha xn yn ho q1 q2 e
  obtain ⟨I, J, eI, eJ, hI, hJ, eIJ, -⟩ := lc_branch L xn yn
  have cn : lc_n T x y = I + 1 + J := by unfold lc_n; rw [eI, eJ]
  have closed : nu T x y 0 = nu T x y (lc_n T x y) := by
    unfold nu
    rw [cn, eI, if_pos (by omega), if_neg (by omega), show I - 0 = I by omega, show I + 1 + J - I - 1 = J by omega]
    exact eIJ
  have atI : (lc T a x y).1 285 I = nI a := by
    rcases lc_pos (g := T) (a := a) (x := x) (y := y) (m := I) (by omega) with ⟨p1, -⟩ | ⟨-, p2⟩ | ⟨j0, p1, -⟩
    · rw [eI] at p1
      omega
    · exact p2
    · rw [eI] at p1
      omega
  -- edges of the cycle hang afterwards, but for the one that leaves
  have hang2 : ∀ b, b < k → ∀ m, m < lc_n T x y → m ≠ mm → (lc T a x y).1 285 m = nI b → rf_hangs T2 b = true := by
    intro b hb m q1 q2 q3
    have ne : (lc T a x y).1 285 mm ≠ nI b := fun z => q2 (inj m mm q1 hm (q3.trans z.symm))
    by_cases c : b = a
    · rw [c] at ne ⊢
      exact h2.mpr ne
    · exact (h1 b hb c).mpr ⟨lc_hang L ha xn yn q1 hb q3 c, ne⟩
  have hc : ∀ m, m < lc_n T x y → m ≠ mm → (nu T x y m < n ∧ EG T2 n k (nu T x y m) (nu T x y (m + 1)) ((lc T a x y).1 285 m)) ∨ (nu T x y (m + 1) < n ∧ EG T2 n k (nu T x y (m + 1)) (nu T x y m) ((lc T a x y).1 285 m)) := by
    intro m q1 q2
    rcases go m q1 with ⟨b, hb, e, en⟩ | ⟨q, hq, e, -, en⟩
    · obtain ⟨t1, t2, t3, t4⟩ := L.1.te hb
      have hg := hang2 b hb m q1 q2 e
      have r0 := kxa b 0 (by omega) (by omega) (by omega)
      have r1 := kxa b 1 (by omega) (by omega) (by omega)
      rcases en with ⟨-, u1, u2⟩ | ⟨-, u1, u2⟩
      · rw [← u1, ← u2]
        exact Or.inl ⟨t3, Or.inr ⟨t4, b, hb, e, hg, Or.inl ⟨r0.trans t1, r1.trans t2⟩⟩⟩
      · rw [← u1, ← u2]
        exact Or.inl ⟨t4, Or.inr ⟨t3, b, hb, e, hg, Or.inr ⟨r1.trans t2, r0.trans t1⟩⟩⟩
    · have ln := lc_lent L ha xn yn q1 hq e
      have ln2 : T2.1 271 (51 + q) = 1 := (h3 q hq).mpr ⟨ln, fun z => q2 (inj m mm q1 hm (e.trans z.symm))⟩
      rcases en with ⟨u1, u2, -⟩ | ⟨u1, u2, -⟩
      · rw [u1, u2]
        exact Or.inl ⟨hq, Or.inl ⟨rfl, e, ln2⟩⟩
      · rw [u1, u2]
        exact Or.inr ⟨hq, Or.inl ⟨rfl, e, ln2⟩⟩
  have hT : ∀ w, w < n → T.1 282 w ≠ (lc T a x y).1 285 mm → EG T2 n k w (uf T w) (T.1 282 w) := by
    intro w hw ne
    rcases (L.at hw).2.2.2.2.2 with ⟨e1, e2, e3⟩ | ⟨e1, b, hb, e2, e3, e4⟩
    · exact Or.inl ⟨e1, e2, (h3 w hw).mpr ⟨e3, fun z => ne (by rw [e2, z])⟩⟩
    · have bna : b ≠ a := fun z => by
        have := by_nea L ha ho hw
        rw [e2, z] at this
        exact this rfl
      refine Or.inr ⟨e1, b, hb, e2, (h1 b hb bna).mpr ⟨e3, fun z => ne (by rw [e2, z])⟩, ?_⟩
      rw [kxa b 0 (by omega) (by omega) (by omega), kxa b 1 (by omega) (by omega) (by omega)]
      exact e4
  have hback : ∀ u v id, u < n → EG T2 n k u v id → (∀ m, m < lc_n T x y → id ≠ (lc T a x y).1 285 m) → EG T n k u v id := by
    intro u v id hu E off
    rcases E with ⟨e1, e2, e3⟩ | ⟨e1, b, hb, e2, e3, e4⟩
    · exact Or.inl ⟨e1, e2, ((h3 u hu).mp e3).1⟩
    · have bna : b ≠ a := fun z => off I (by omega) (by rw [e2, z, atI])
      rw [kxa b 0 (by omega) (by omega) (by omega), kxa b 1 (by omega) (by omega) (by omega)] at e4
      exact Or.inr ⟨e1, b, hb, e2, ((h1 b hb bna).mp e3).1, e4⟩
  have hout : ∀ w, w < n → T.1 282 w = (lc T a x y).1 285 mm → (w = nu T x y mm ∧ uf T w = nu T x y (mm + 1)) ∨ (w = nu T x y (mm + 1) ∧ uf T w = nu T x y mm) := by
    intro w hw e
    have F := (L.at hw).2.2.2.2.2
    rw [e] at F
    rcases go mm hm with ⟨b, hb, e2, en⟩ | ⟨q, hq, e2, -, en⟩
    · obtain ⟨t1, t2, t3, t4⟩ := L.1.te hb
      rcases F with ⟨-, f2, -⟩ | ⟨f1, b2, hb2, f2, f3, f4⟩
      · have := (nI_eq (by omega) (by omega)).mp (f2.symm.trans e2)
        omega
      · have : b2 = b := (nI_eq (by omega) (by omega)).mp (f2.symm.trans e2)
        subst this
        rw [t1, t2] at f4
        have g : (tlv T b2 = w ∧ hdv T b2 = uf T w) ∨ (hdv T b2 = w ∧ tlv T b2 = uf T w) := by
          rcases f4 with ⟨m1, m2⟩ | ⟨m1, m2⟩
          · exact Or.inl ⟨(nI_eq (by omega) (by omega)).mp m1, (nI_eq (by omega) (by omega)).mp m2⟩
          · exact Or.inr ⟨(nI_eq (by omega) (by omega)).mp m1, (nI_eq (by omega) (by omega)).mp m2⟩
        rcases en with ⟨-, u1, u2⟩ | ⟨-, u1, u2⟩ <;> omega
    · rcases F with ⟨f1, f2, -⟩ | ⟨f1, b2, hb2, f2, -, -⟩
      · have : 100 + w = 100 + q := (nI_eq (by omega) (by omega)).mp (f2.symm.trans e2)
        rcases en with ⟨u1, u2, -⟩ | ⟨u1, u2, -⟩ <;> omega
      · have := (nI_eq (by omega) (by omega)).mp (f2.symm.trans e2)
        omega
  -- nothing flows: then something on the way down leaves
  have zero : dl = 0 → mm < I := by
    intro d0
    rcases Nat.lt_or_ge mm I with z | z
    · exact z
    · exfalso
      rcases Nat.eq_or_lt_of_le z with z | z
      · -- the arc itself
        have e : (lc T a x y).1 285 mm = nI a := by rw [← z]; exact atI
        obtain ⟨v, bd, q1, q2, q3, q4, q5, -, -⟩ := tn3_abW L Ag Db hM ha xn yn ho edl all ha hm e
        rw [er] at q5
        have q6 := (nI_eq (by omega) (by split <;> omega)).mp q5
        have al := lc_al (g := T) (a := a) (x := x) (y := y) (by omega)
        rw [eI, z] at al
        have bpos : ¬ rm T a 2 ≤ 0 := by
          intro w
          unfold rf_off at ho
          rw [decide_eq_true w] at ho
          simp at ho
        rw [q4] at bpos
        have bp := pos_nI (by omega) bpos
        obtain ⟨-, f0, f1⟩ := Fb a ha
        rcases off_w ho with w | w
        · have fz := f0 w
          rw [q3] at fz
          have v0 : v = 0 := (nI_eq (b := 0) (by omega) (by omega)).mp fz
          rw [if_pos w] at ex
          rw [decide_eq_true ex] at al
          rw [al, if_neg (by decide)] at q6
          omega
        · have fz := f1 w
          rw [q3, q4] at fz
          have v0 : v = bd := (nI_eq (by omega) (by omega)).mp fz
          rw [if_neg (by rw [w]; decide)] at ex
          rw [decide_eq_false (fun q => A a ha (q.trans ex.symm))] at al
          rw [al, if_pos (by decide)] at q6
          omega
      · -- on the way up
        rcases lc_pos (g := T) (a := a) (x := x) (y := y) hm with ⟨p1, -⟩ | ⟨p1, -⟩ | ⟨j0, p1, p2, p3⟩
        · rw [eI] at p1
          omega
        · rw [eI] at p1
          omega
        · rw [eI] at p1
          rw [eJ] at p2
          have tq := L.tu j0 y yn (by omega)
          have hq := L.lt tq.1 (by omega)
          have nq : nu T x y mm = tw T j0 y := by
            unfold nu
            rw [eI, if_neg (by omega), show mm - I - 1 = j0 by omega]
          have sf := SF _ hq
          rcases go mm hm with ⟨b, hb, e, en⟩ | ⟨q, hq2, e, wy, en⟩
          · obtain ⟨t1, t2, t3, t4⟩ := L.1.te hb
            obtain ⟨v, bd, q1, q2, q3, q4, q5, -, -⟩ := tn3_abW L Ag Db hM ha xn yn ho edl all hb hm e
            rw [er] at q5
            have q6 := (nI_eq (by omega) (by split <;> omega)).mp q5
            obtain ⟨s1, s2⟩ := sf.1 b hb (p3.symm.trans e)
            rcases en with ⟨f0, u1, -⟩ | ⟨f0, u1, -⟩
            · have s3 := s1 (by rw [t1, u1, nq])
              rw [q3, q4] at s3
              have := (nI_ltI (by omega) (by omega)).mp s3
              rw [if_neg f0] at q6
              omega
            · have s3 := s2 (by rw [t2, u1, nq])
              rw [q3] at s3
              have := pos_nI (by omega) s3
              rw [if_pos f0] at q6
              omega
          · obtain ⟨v, q1, q2, q3, -, -⟩ := tn3_pbW L Ag Db hM ha xn yn ho hdl edl all hq2 hm e
            rw [er] at q3
            have q6 := (nI_eq (by omega) (by split <;> omega)).mp q3
            rcases en with ⟨u1, -, f0⟩ | ⟨u1, -, -⟩
            · rw [nq] at u1
              by_cases c : (lc T a x y).1 286 mm = 0
              · rw [if_pos c] at q6
                have w1' := f0.mp c
                have := sf.2 (p3.symm.trans (e.trans (by rw [u1]))) (by rw [u1, q2, ← q6, d0]; rfl)
                rw [u1, w1'] at this
                exact absurd this (by decide)
              · rw [if_neg c] at q6
                omega
            · rw [nq] at u1
              omega
  intro p hp
  have F := (L2.at hp).2.2.2.2.2
  by_cases cyc : ∃ e, e < lc_n T x y ∧ T2.1 282 p = (lc T a x y).1 285 e
  · obtain ⟨e, he, ep⟩ := cyc
    have hem : e ≠ mm := by
      intro z
      rw [z] at ep
      rcases F with ⟨f1, f2, f3⟩ | ⟨f1, b, hb, f2, f3, -⟩
      · exact ((h3 p hp).mp f3).2 (ep.symm.trans f2)
      · by_cases c : b = a
        · rw [c] at f2 f3
          exact h2.mp f3 (ep.symm.trans f2)
        · exact ((h1 b hb c).mp f3).2 (ep.symm.trans f2)
    have z0 := z_out L L2 S2 A2 (c := lc_n T x y) (mm := mm) (e := e) (p := p) (z := nu T x y 0) (ids := fun m => (lc T a x y).1 285 m) hT (by
      unfold nu
      rw [eI, if_pos (by omega)]
      exact (L.tu (I - 0) x xn (by omega)).1) (fun j m q1 q2 => lc_above L ha xn yn ho q2 q1) hm he hp ep
    obtain ⟨before, behind⟩ := cyc_side L L2 S2 A2 (c := lc_n T x y) (mm := mm) (e := e) (p := p) (ids := fun m => (lc T a x y).1 285 m) (ν := nu T x y) hc inj closed hm he hem hp ep z0
    -- with nothing flowing, p hung by this edge before
    have was : e < mm → dl = 0 → T.1 282 p = (lc T a x y).1 285 e := by
      intro q1 d0
      have mI := zero d0
      rcases lc_pos (g := T) (a := a) (x := x) (y := y) he with ⟨p1, p2⟩ | ⟨p1, -⟩ | ⟨j0, p1, -⟩
      · rw [eI] at p1 p2
        have := (before q1).1
        unfold nu at this
        rw [eI, if_pos (by omega), show I - (e + 1) = I - 1 - e by omega] at this
        rw [← this]
        exact p2.symm
      · rw [eI] at p1
        omega
      · rw [eI] at p1
        omega
    have sf := SF p hp
    constructor
    · intro b hb eb
      have e1 : (lc T a x y).1 285 e = nI b := ep.symm.trans eb
      obtain ⟨v, bd, q1, q2, q3, q4, q5, q6, q7⟩ := tn3_abW L Ag Db hM ha xn yn ho edl all hb he e1
      obtain ⟨t1, t2, t3, t4⟩ := L.1.te hb
      rw [kxa b 0 (by omega) (by omega) (by omega), kxa b 1 (by omega) (by omega) (by omega), kxa b 2 (by omega) (by omega) (by omega), fla b hb, q7, q4, t1, t2]
      have ne : tlv T b ≠ hdv T b := fun z => A b hb (by rw [t1, t2, z])
      have g0 : ((lc T a x y).1 286 e ≠ 0 ∧ tlv T b = nu T x y e ∧ hdv T b = nu T x y (e + 1)) ∨ ((lc T a x y).1 286 e = 0 ∧ hdv T b = nu T x y e ∧ tlv T b = nu T x y (e + 1)) := by
        rcases go e he with ⟨b2, hb2, e2, en⟩ | ⟨q, hq, e2, -⟩
        · have : b2 = b := (nI_eq (by omega) (by omega)).mp (e2.symm.trans e1)
          subst this
          exact en
        · have := (nI_eq (by omega) (by omega)).mp (e2.symm.trans e1)
          omega
      have nin : ∀ {w : Nat}, w < n → (nI w = nI p ↔ w = p) := fun hw => nI_eq (by omega) (by omega)
      rw [nin t3, nin t4]
      rcases Nat.lt_or_ge e mm with c | c
      · obtain ⟨u1, u2⟩ := before c
        have old : dl = 0 → (tlv T b = p → v < bd) ∧ (hdv T b = p → 0 < v) := fun d0 => by
          obtain ⟨s1, s2⟩ := sf.1 b hb ((was c d0).trans e1)
          rw [t1, q3, q4] at s1
          rw [t2, q3] at s2
          exact ⟨fun z => (nI_ltI (by omega) (by omega)).mp (s1 (by rw [z])), fun z => pos_nI (by omega) (s2 (by rw [z]))⟩
        rcases g0 with ⟨f0, g1, g2⟩ | ⟨f0, g1, g2⟩
        · rw [if_neg f0] at q6 ⊢
          refine ⟨fun z => by omega, fun z => nI_posn ?_ (by omega)⟩
          rcases Nat.eq_zero_or_pos dl with d0 | d0
          · have := (old d0).2 z
            omega
          · omega
        · rw [if_pos f0] at q6 ⊢
          refine ⟨fun z => nI_lt ?_ (by omega), fun z => by omega⟩
          rcases Nat.eq_zero_or_pos dl with d0 | d0
          · have := (old d0).1 z
            omega
          · omega
      · obtain ⟨u1, u2⟩ := behind (by omega)
        have st := last e (by omega) he
        rw [q5] at st
        rcases g0 with ⟨f0, g1, g2⟩ | ⟨f0, g1, g2⟩
        · rw [if_neg f0] at q6 st ⊢
          have : bd - v ≠ dl := fun z => st (by rw [z])
          exact ⟨fun z => nI_lt (by omega) (by omega), fun z => by omega⟩
        · rw [if_pos f0] at q6 st ⊢
          have : v ≠ dl := fun z => st (by rw [z])
          exact ⟨fun z => by omega, fun z => nI_posn (by omega) (by omega)⟩
    · intro eb dz
      have e1 : (lc T a x y).1 285 e = nI (100 + p) := ep.symm.trans eb
      obtain ⟨v, q1, q2, q3, q4, q5⟩ := tn3_pbW L Ag Db hM ha xn yn ho hdl edl all hp he e1
      rw [flp p hp, q5] at dz
      rw [k58 p hp]
      have g0 : (nu T x y e = p ∧ nu T x y (e + 1) = n ∧ ((lc T a x y).1 286 e = 0 ↔ T.1 271 (58 + p) = -1)) ∨ (nu T x y e = n ∧ nu T x y (e + 1) = p ∧ ((lc T a x y).1 286 e = 0 ↔ T.1 271 (58 + p) = 1)) := by
        rcases go e he with ⟨b2, hb2, e2, en⟩ | ⟨q, hq, e2, -, en⟩
        · have := (nI_eq (by omega) (by omega)).mp (e2.symm.trans e1)
          omega
        · have : 100 + q = 100 + p := (nI_eq (by omega) (by omega)).mp (e2.symm.trans e1)
          have : q = p := by omega
          subst this
          exact en
      rcases W p hp with w | w
      · exact w
      · exfalso
        rcases Nat.lt_or_ge e mm with c | c
        · obtain ⟨u1, u2⟩ := before c
          rcases g0 with ⟨g1, g2, g3⟩ | ⟨g1, g2, g3⟩
          · omega
          · have f0 : ¬ (lc T a x y).1 286 e = 0 := fun z => by
              have := g3.mp z
              rw [w] at this
              exact absurd this (by decide)
            rw [if_neg f0] at dz
            have := (nI_eq (b := 0) (by omega) (by omega)).mp dz
            have := sf.2 ((was c (by omega)).trans e1) (by rw [q2, show v = 0 by omega]; rfl)
            rw [w] at this
            exact absurd this (by decide)
        · obtain ⟨u1, u2⟩ := behind (by omega)
          have st := last e (by omega) he
          rw [q3] at st
          rcases g0 with ⟨g1, g2, g3⟩ | ⟨g1, g2, g3⟩
          · have f0 := g3.mpr w
            rw [if_pos f0] at q4 st dz
            have := (nI_eq (b := 0) (by omega) (by omega)).mp dz
            have : v ≠ dl := fun z => st (by rw [z])
            omega
          · omega
  · have off : ∀ m, m < lc_n T x y → T2.1 282 p ≠ (lc T a x y).1 285 m := fun m q1 q2 => cyc ⟨m, q1, q2⟩
    obtain ⟨o1, o2⟩ := off_side L S A L2 S2 A2 (c := lc_n T x y) (mm := mm) (p := p) (ids := fun m => (lc T a x y).1 285 m) (ν := nu T x y) hc hT hback hout closed hm hp off
    have sf := SF p hp
    constructor
    · intro b hb eb
      have fx1 := tn3_off L (a := a) (x := x) (y := y) (id := nI b) ha xn yn (Or.inl ⟨b, hb, rfl⟩) (fun i hi z => off i hi (eb.trans z.symm))
      rw [fx_a (by omega)] at fx1
      rw [kxa b 0 (by omega) (by omega) (by omega), kxa b 1 (by omega) (by omega) (by omega), kxa b 2 (by omega) (by omega) (by omega), fla b hb, show rm (tn3 T a x y) b 4 = rm T b 4 from fx1]
      exact sf.1 b hb (o1.trans eb)
    · intro eb dz
      have fx1 := tn3_off L (a := a) (x := x) (y := y) (id := nI (100 + p)) ha xn yn (Or.inr ⟨p, hp, rfl⟩) (fun i hi z => off i hi (eb.trans z.symm))
      rw [fx_p (by omega)] at fx1
      rw [flp p hp, fx1] at dz
      rw [k58 p hp]
      exact sf.2 (o1.trans eb) dz
end WS6
section WS7
variable {g h : LH} {n k M : Nat}
theorem sf_begW (B : BIW g n k) (w : Int32) : SFT (lt (bgn g n k w) n k) n k := by
  have hn := B.1.1
  have GB := (bgn_okW (M := 0) (w := w) B).1
  have L := GB.lt
  have e271 : (lt (bgn g n k w) n k).1 271 = (bgn g n k w).1 271 := lt_fl.r
  have F1 := ba_fb (w := w) k 0 g (by omega)
  have B1 : BIW (ba w k 0 g) n k := B.fb F1
  have E1 := ba_efW (w := w) k 0 g (by omega) (fun b hb => B.2.2.2.2.1 b (by omega)) (fun b hb => absurd hb (by omega))
  rw [Nat.zero_add] at E1
  have fl : ∀ a, a < k → ∃ v, v < 101 ∧ rm (ba w k 0 g) a 4 = nI v := by
    intro a ha
    rcases E1 a ha with ⟨-, z⟩ | ⟨-, z⟩
    · exact ⟨0, by omega, z⟩
    · rw [z]
      exact vi_nI (B1.2.2.2.2.1 a ha)
  obtain ⟨k1, k2, k3, k4⟩ := bp_okW (k := k) n 0 (ba w k 0 g) (by omega) hn.2.2 fl (fun q hq => B1.2.2.2.2.2.2 q (by omega)) (fun q hq => absurd hq (by omega))
  have way := bp_way (k := k) n 0 (ba w k 0 g) (by omega) (fun q hq => absurd hq (by omega))
  have r5 : ∀ a, rm (lt (bgn g n k w) n k) a 5 = rm (ba w k 0 g) a 5 := fun a => by
    unfold rm
    rw [e271]
    unfold bgn
    exact k4 _ (by omega)
  intro p hp
  have nob : ∀ b, b < k → (lt (bgn g n k w) n k).1 282 p ≠ nI b := by
    intro b hb z
    rcases (L.at hp).2.2.2.2.2 with ⟨-, e, -⟩ | ⟨-, c, hc, e, hh, -⟩
    · rw [z] at e
      have := (nI_eq (by omega) (by omega)).mp e
      omega
    · unfold rf_hangs at hh
      rw [r5] at hh
      have hh := of_decide_eq_true hh
      rcases E1 c hc with ⟨y, -⟩ | ⟨y, -⟩ <;> rw [y] at hh <;> exact absurd hh (by decide)
  refine ⟨fun b hb z => absurd z (nob b hb), fun _ z => ?_⟩
  rw [e271] at z ⊢
  exact way p (by omega) z
end WS7
section WS8
variable {T T2 g : LH} {n k M : Nat}
theorem nl_pivW (L : LT T n k) (GT : GIW T n k M) (hM : M ≤ 20000000) {a x y mm : Nat} (ha : a < k) (hx : x < n) (hy : y < n) (ho : rf_off T a = true) (ex : (if rm T a 5 = 0 then rm T a 0 else rm T a 1) = nI x) (ey : (if rm T a 5 = 0 then rm T a 1 else rm T a 0) = nI y) (hm : mm < lc_n T x y) (er : rr (lc T a x y) mm = rlr (lc T a x y) (lc_n T x y) 0 1000000) (NL : NLT T n) (eT : T2.1 271 = (tn5 T a x y mm).1 271) : NLT T2 n := by
  have n7 := L.1.1.2.1
  have k14 := L.1.1.2.2
  have xn := Nat.le_of_lt hx
  have yn := Nat.le_of_lt hy
  obtain ⟨-, Cp, Rs, Fb, Ag, Db, Gn⟩ := id GT
  obtain ⟨dl, hdl, edl, all⟩ := lc_dlW L Ag Db hM ha xn yn hm er
  obtain ⟨h1, h2, h3, kx, fl⟩ := tn5_hangW L GT hM ha hx hy ho ex ey hm er eT
  intro p hp no
  rw [fl _ (Or.inl (by omega))]
  by_cases out : (lc T a x y).1 285 mm = nI (100 + p)
  · obtain ⟨v, q1, q2, q3, q4, q5⟩ := tn3_pbW L Ag Db hM ha xn yn ho hdl edl all hp hm out
    rw [er, edl] at q3
    have q6 := (nI_eq (by omega) (by split <;> omega)).mp q3
    rw [q5]
    by_cases c : (lc T a x y).1 286 mm = 0
    · rw [if_pos c] at q6 ⊢
      rw [q6, Nat.sub_self]
      rfl
    · rw [if_neg c] at q6
      omega
  · have ln : T.1 271 (51 + p) ≠ 1 := fun z => no ((h3 p hp).mpr ⟨z, out⟩)
    have fx1 := tn3_off L (a := a) (x := x) (y := y) (id := nI (100 + p)) ha xn yn (Or.inr ⟨p, hp, rfl⟩) (fun i hi z => ln (lc_lent L ha xn yn hi hp z))
    rw [fx_p (by omega)] at fx1
    rw [fx1]
    exact NL p hp ln
theorem nl_begW (B : BIW g n k) (w : Int32) : NLT (bgn g n k w) n := by
  have hn := B.1.1
  have F1 := ba_fb (w := w) k 0 g (by omega)
  have B1 : BIW (ba w k 0 g) n k := B.fb F1
  have E1 := ba_efW (w := w) k 0 g (by omega) (fun b hb => B.2.2.2.2.1 b (by omega)) (fun b hb => absurd hb (by omega))
  rw [Nat.zero_add] at E1
  have fl : ∀ a, a < k → ∃ v, v < 101 ∧ rm (ba w k 0 g) a 4 = nI v := by
    intro a ha
    rcases E1 a ha with ⟨-, z⟩ | ⟨-, z⟩
    · exact ⟨0, by omega, z⟩
    · rw [z]
      exact vi_nI (B1.2.2.2.2.1 a ha)
  obtain ⟨k1, -⟩ := bp_okW (k := k) n 0 (ba w k 0 g) (by omega) hn.2.2 fl (fun q hq => B1.2.2.2.2.2.2 q (by omega)) (fun q hq => absurd hq (by omega))
  intro p hp no
  exact absurd (k1 p (by omega)).1 no
/-- a loan that never hung again: once out, out -/
theorem lent_monoW (L : LT T n k) (GT : GIW T n k M) (hM : M ≤ 20000000) {a x y mm : Nat} (ha : a < k) (hx : x < n) (hy : y < n) (ho : rf_off T a = true) (ex : (if rm T a 5 = 0 then rm T a 0 else rm T a 1) = nI x) (ey : (if rm T a 5 = 0 then rm T a 1 else rm T a 0) = nI y) (hm : mm < lc_n T x y) (er : rr (lc T a x y) mm = rlr (lc T a x y) (lc_n T x y) 0 1000000) (eT : T2.1 271 = (tn5 T a x y mm).1 271) {p : Nat} (hp : p < n) (z : T2.1 271 (51 + p) = 1) : T.1 271 (51 + p) = 1 := ((tn5_hangW L GT hM ha hx hy ho ex ey hm er eT).2.2.1 p hp).mp z |>.1
end WS8
section WS9
variable {h g r T T2 : LH} {n k m M : Nat}
theorem ksx_begW (B : BIW g n k) (w : Int32) : KSx (lt (bgn g n k w) n k) n k := by
  have e : (lt (bgn g n k w) n k).1 271 = (bgn g n k w).1 271 := lt_fl.r
  refine ⟨fun p hp => ?_, sf_begW B w, fun p hp => ?_⟩
  · rw [e, cons_begW B w p hp]
    exact (cq_c (fun c w _ => by unfold rm; rw [e]) (by rw [e]) (by rw [e])).symm
  · rw [e]
    exact nl_begW B w p hp
theorem ksx_pivW (L : LT T n k) (GT : GIW T n k M) (hM : M ≤ 20000000) {a x y mm : Nat} (ha : a < k) (hx : x < n) (hy : y < n) (ho : rf_off T a = true) (ex : (if rm T a 5 = 0 then rm T a 0 else rm T a 1) = nI x) (ey : (if rm T a 5 = 0 then rm T a 1 else rm T a 0) = nI y) (hm : mm < lc_n T x y) (er : rr (lc T a x y) mm = rlr (lc T a x y) (lc_n T x y) 0 1000000) (em : lvx (lc T a x y) (rlr (lc T a x y) (lc_n T x y) 0 1000000) (lc_n T x y) 0 (-1) = nI mm) (S : TS T n k) (K : KSx T n k) (e5 : T2.1 271 = (tn5 T a x y mm).1 271) (L5 : LT T2 n k) (S5 : TS T2 n k) : KSx T2 n k := by
  have xn := Nat.le_of_lt hx
  have yn := Nat.le_of_lt hy
  have ln16 : lc_n T x y ≤ 16 := (lc_ok L ha xn yn).1.2.1
  have last : ∀ i, mm < i → i < lc_n T x y → rr (lc T a x y) i ≠ rlr (lc T a x y) (lc_n T x y) 0 1000000 := by
    intro i h1 h2 h3
    rcases lvx_last (g := lc T a x y) (dl := rlr (lc T a x y) (lc_n T x y) 0 1000000) (mm := mm) (lc_n T x y) 0 (-1) (by omega) (by omega) with z | z
    · have := z i (Nat.zero_le _) (by omega) h3
      omega
    · exact z em
  refine ⟨fun p hp => ?_, sf_pivW L GT hM ha hx hy ho ex ey hm er last S K.2.1 e5 L5 S5, nl_pivW L GT hM ha hx hy ho ex ey hm er K.2.2 e5⟩
  rw [e5, cons_pivW L GT K.1 ha hx hy ex ey hm p hp]
  exact (cq_c (fun c w _ => by unfold rm; rw [e5]) (by rw [e5]) (by rw [e5])).symm
end WS9
