/-! ===== a run by the steep rule ends, for the row of the trial ===== -/
section WS1
variable {T : LH} {n k M : Nat}
/-- what each point has, as numbers; and so much it owes at most -/
theorem cons_intW (GT : GIW T n k M) (hM : M ≤ 20000000) (K : CONS T n k) {p : Nat} (hp : p < n) : (T.1 271 (44 + p)).toInt = dv (tlv T) (hdv T) (fun a => (rm T a 4).toInt) k p + (T.1 271 (58 + p)).toInt * (T.1 271 (65 + p)).toInt ∧ 0 ≤ (T.1 271 (65 + p)).toInt ∧ (T.1 271 (65 + p)).toInt ≤ 1500 := by
  have k14 := GT.1.1.2.2
  obtain ⟨-, -, -, -, ⟨-, A2, -, A4⟩, Db, -⟩ := id GT
  obtain ⟨v, h1, h2, w⟩ := Db p hp
  obtain ⟨s, hs, es⟩ := A4 p hp
  have sb := v100W hs es
  have K := K p hp
  obtain ⟨d1, d2, d3⟩ := dw_int (t := tlv T) (u := hdv T) (f := fun a => rm T a 4) (p := p) k k14 (fun a ha => by
    obtain ⟨v, b, q1, q2, q3, -⟩ := A2 a ha
    rw [q3, nI_toInt (by omega)]
    omega)
  have e : T.1 271 (58 + p) * T.1 271 (65 + p) = T.1 271 (44 + p) - dw (tlv T) (hdv T) (fun a => rm T a 4) k p := by
    unfold cq at K
    rw [K]
    grind
  have vi : (nI v).toInt = (v : Int) := nI_toInt (by omega)
  have t1 : (T.1 271 (58 + p) * T.1 271 (65 + p)).toInt = (T.1 271 (44 + p)).toInt - dv (tlv T) (hdv T) (fun a => (rm T a 4).toInt) k p := by
    rw [e, tis (by omega) (by omega), d1]
  have t2 : (T.1 271 (58 + p) * T.1 271 (65 + p)).toInt = (T.1 271 (58 + p)).toInt * (T.1 271 (65 + p)).toInt := by
    rw [h2]
    rcases w with w | w
    · rw [w, Int32.one_mul, one_ti, Int.one_mul]
    · rw [w, Int32.neg_mul, Int32.one_mul, show (-1 : Int32).toInt = -1 from rfl, Int32.toInt_neg, vi, Int.bmod_eq_of_le (by omega) (by omega)]
      omega
  rw [t2] at t1
  refine ⟨by omega, by rw [h2, vi]; omega, ?_⟩
  rw [h2, vi] at t1 ⊢
  rcases w with w | w
  · rw [w, one_ti] at t1
    omega
  · rw [w, show (-1 : Int32).toInt = -1 from rfl] at t1
    omega
/-- each point gives eight times what it has, and one more -/
theorem ph_outW (L : LT T n k) (GT : GIW T n k M) (hM : M ≤ 20000000) (K : CONS T n k) {p : Nat} (hp : p < n) : dv (tlv T) (hdv T) (phA T n) k p + phL T n p = 8 * (T.1 271 (44 + p)).toInt + 1 := by
  have c := (cons_intW GT hM K hp).1
  have s := s_out L hp
  have l : dv (tlv T) (hdv T) (phA T n) k p = 8 * dv (tlv T) (hdv T) (fun a => (rm T a 4).toInt) k p + dv (tlv T) (hdv T) (sA T n) k p := dv_lin (m := 8) (f := fun a => (rm T a 4).toInt) (g := sA T n) k
  rw [l]
  unfold phL
  rw [c]
  omega
/-- strictly within the bounds on the tree -/
theorem ph_inW (L : LT T n k) (GT : GIW T n k M) (SF : SFT T n k) {b c : Nat} (hb : b < k) (hc : c < n) (e : T.1 282 c = nI b) : 1 ≤ phA T n b ∧ phA T n b ≤ 8 * (rm T b 2).toInt - 1 := by
  have n7 := L.1.1.2.1
  have k14 := L.1.1.2.2
  obtain ⟨-, -, -, -, ⟨A1, A2, -, -⟩, -, -⟩ := id GT
  obtain ⟨v, bd, q1, q2, q3, q4⟩ := A2 b hb
  obtain ⟨s1, s2⟩ := (SF c hc).1 b hb e
  obtain ⟨u1, u2⟩ := subn_in L hc
  obtain ⟨t1, t2, t3, t4⟩ := L.1.te hb
  unfold phA
  rw [sA_at L hc e, q3, q4, nI_toInt (by omega), nI_toInt (by omega)]
  rw [q3, q4, t1] at s1
  rw [q3, t2] at s2
  have ends : tlv T b = c ∨ hdv T b = c := by
    rcases (L.at hc).2.2.2.2.2 with ⟨-, f2, -⟩ | ⟨-, b2, hb2, f2, -, f4⟩
    · have := (nI_eq (by omega) (by omega)).mp (f2.symm.trans e)
      omega
    · have : b2 = b := (nI_eq (by omega) (by omega)).mp (f2.symm.trans e)
      subst this
      rw [t1, t2] at f4
      rcases f4 with ⟨m1, -⟩ | ⟨m1, -⟩
      · exact Or.inl ((nI_eq (by omega) (by omega)).mp m1)
      · exact Or.inr ((nI_eq (by omega) (by omega)).mp m1)
  by_cases z : tlv T b = c
  · have := (nI_ltI (by omega) (by omega)).mp (s1 (by rw [z]))
    rw [if_pos z]
    omega
  · have := pos_nI (by omega) (s2 (by rw [ends.resolve_left z]))
    rw [if_neg z]
    omega
end WS1
section WS2
variable {T : LH} {n k M : Nat}
theorem rc_iW (L : LT T n k) (P : PR T n k) (A : ∀ a, a < k → ∃ c, c ≤ 199 ∧ rm T a 3 + 99 = nI c) {a : Nat} (ha : a < k) : (rf_red T a).toInt = rcI T a := by
  have k14 := L.1.1.2.2
  have n7 := L.1.1.2.1
  obtain ⟨t1, t2, t3, t4⟩ := L.1.te ha
  obtain ⟨c, hc, ec⟩ := A a ha
  have cb := v99W hc ec
  have b1 := pr_bdW P L A 7 (tlv T a) (Nat.le_of_lt t3) ((L.at t3).2.2.2.1)
  have b2 := pr_bdW P L A 7 (hdv T a) (Nat.le_of_lt t4) ((L.at t4).2.2.2.1)
  unfold rf_red rcI
  rw [t1, t2, nI_clamp (by omega), nI_clamp (by omega)]
  have s1 := tia (x := rm T a 3) (y := T.1 284 (tlv T a)) (by omega) (by omega)
  rw [tis (by omega) (by omega), s1]
theorem rc_treeW (L : LT T n k) (P : PR T n k) (A : ∀ a, a < k → ∃ c, c ≤ 199 ∧ rm T a 3 + 99 = nI c) {b c : Nat} (hb : b < k) (hc : c < n) (e : T.1 282 c = nI b) : rcI T b = 0 := by
  have k14 := L.1.1.2.2
  have n7 := L.1.1.2.1
  obtain ⟨t1, t2, t3, t4⟩ := L.1.te hb
  rw [← rc_iW L P A hb]
  have z : rf_red T b = 0 := by
    rcases P.at L hc with ⟨-, e2, -⟩ | ⟨hu, -, a, ha, e2, en⟩
    · have := (nI_eq (by omega) (by omega)).mp (e2.symm.trans e)
      omega
    · have : a = b := (nI_eq (by omega) (by omega)).mp (e2.symm.trans e)
      subst this
      unfold rf_red
      rcases en with ⟨m1, m2, pr⟩ | ⟨m1, m2, pr⟩
      · rw [m1, m2, nI_clamp (by omega), nI_clamp (by omega), pr]
        grind
      · rw [m1, m2, nI_clamp (by omega), nI_clamp (by omega), pr]
        grind
  rw [z]
  rfl
end WS2
section WS3
variable {T T2 : LH} {n k M M2 : Nat}
/-- a laid tree with all that is known of it -/
def SXW (T : LH) (n k M : Nat) : Prop := LT T n k ∧ PR T n k ∧ GIW T n k M ∧ TS T n k ∧ CONS T n k ∧ SFT T n k ∧ NLT T n ∧ STD T k ∧ M ≤ 20000000
theorem SXW.ways (X : SXW T n k M) : ∀ p, p < n → T.1 271 (58 + p) = 1 ∨ T.1 271 (58 + p) = -1 := fun p hp => by
  obtain ⟨v, -, -, w⟩ := X.2.2.1.2.2.2.2.2.1 p hp
  exact w
theorem gap_eqW (X : SXW T n k M) (Y : SXW T2 n k M2) (D : SD T T2 n k) : cst T n k - cst T2 n k = fs (fun b => rcI T b * (phA T n b - phA T2 n b)) k := by
  obtain ⟨L, P, G, S, K, SF, NL, ST, hM⟩ := id X
  obtain ⟨L2, P2, G2, S2, K2, SF2, NL2, ST2, hM2⟩ := id Y
  have n7 := L.1.1.2.1
  have k14 := L.1.1.2.2
  have te : ∀ b, b < k → tlv T2 b = tlv T b ∧ hdv T2 b = hdv T b := fun b hb => by
    obtain ⟨a0, a1, -⟩ := D.1 b hb
    unfold tlv hdv
    rw [a0, a1]
    exact ⟨rfl, rfl⟩
  have c2 : cst T2 n k = fs (fun b => (rm T b 3).toInt * phA T2 n b) k + fs (fun p => (10000 * (T.1 271 (58 + p)).toInt) * phL T2 n p) n := by
    unfold cst
    rw [fs_c k (fun b hb => by rw [(D.1 b hb).2.2.2.1]), fs_c (f := fun p => (10000 * (T2.1 271 (58 + p)).toInt) * phL T2 n p) n (fun p hp => by rw [(D.2 p hp).2.1])]
  have cons : ∀ p, p < n → dv (tlv T) (hdv T) (phA T n) k p + phL T n p = dv (tlv T) (hdv T) (phA T2 n) k p + phL T2 n p := fun p hp => by
    have o1 := ph_outW L G hM K hp
    have o2 := ph_outW L2 G2 hM2 K2 hp
    have e : dv (tlv T2) (hdv T2) (phA T2 n) k p = dv (tlv T) (hdv T) (phA T2 n) k p := fs_c k (fun b hb => by rw [(te b hb).1, (te b hb).2])
    rw [e, (D.2 p hp).1] at o2
    omega
  have d := cost_diff (c := fun b => (rm T b 3).toInt) (P := fun p => (T.1 284 p).toInt) (W := fun p => 10000 * (T.1 271 (58 + p)).toInt) (fun b hb => ⟨(L.1.te hb).2.2.1, (L.1.te hb).2.2.2⟩) cons
  have loans : fs (fun p => ((T.1 284 p).toInt + 10000 * (T.1 271 (58 + p)).toInt) * (phL T n p - phL T2 n p)) n = 0 := by
    rw [fs_c (g := fun _ => 0) n (fun p hp => ?_), fs_0]
    by_cases h : T.1 271 (51 + p) = 1
    · obtain ⟨s, hs, es⟩ := S p n _ hp (Or.inl ⟨rfl, rfl, h⟩)
      have sp : s = p := by
        rcases (L.at hs).2.2.2.2.2 with ⟨-, e, -⟩ | ⟨-, b, hb, e, -, -⟩
        · have := (nI_eq (by omega) (by omega)).mp (e.symm.trans es)
          omega
        · have := (nI_eq (by omega) (by omega)).mp (e.symm.trans es)
          omega
      rw [sp] at es
      rw [loan_pr L P X.ways hp es, Int.zero_mul]
    · have h2 : T2.1 271 (51 + p) ≠ 1 := fun z => h ((D.2 p hp).2.2 z)
      unfold phL
      rw [sL_0 L hp h, sL_0 L2 hp h2, NL p hp h, NL2 p hp h2, z_ti]
      simp
  rw [c2]
  unfold cst
  rw [d, loans, Int.add_zero]
  rfl
/-- phi at every arc: within the bounds -/
theorem ph_allW (X : SXW T n k M) {b : Nat} (hb : b < k) : 0 ≤ phA T n b ∧ phA T n b ≤ 8 * (rm T b 2).toInt ∧ 0 ≤ (rm T b 2).toInt ∧ (rm T b 2).toInt ≤ 100 := by
  obtain ⟨L, P, G, S, K, SF, NL, ST, hM⟩ := id X
  have n7 := L.1.1.2.1
  have k14 := L.1.1.2.2
  obtain ⟨v, bd, q1, q2, q3, q4⟩ := G.2.2.2.2.1.2.1 b hb
  rw [q4, nI_toInt (by omega)]
  by_cases h : rf_hangs T b = true
  · obtain ⟨t1, t2, t3, t4⟩ := L.1.te hb
    obtain ⟨s, hs, es⟩ := S (tlv T b) (hdv T b) (nI b) t3 (Or.inr ⟨t4, b, hb, rfl, h, Or.inl ⟨t1, t2⟩⟩)
    have := ph_inW L G SF hb hs es
    rw [q4, nI_toInt (by omega)] at this
    omega
  · rw [ph_off L hb (Bool.eq_false_iff.mpr h), q3, nI_toInt (by omega)]
    omega
theorem gap_leW (X : SXW T n k M) (Y : SXW T2 n k M2) (D : SD T T2 n k) {R : Int} (R0 : 0 ≤ R) (hR : ∀ b, b < k → rf_off T b = true → (rf_far T b).toInt ≤ R) : cst T n k - cst T2 n k ≤ 11200 * R := by
  rw [gap_eqW X Y D]
  obtain ⟨L, P, G, S, K, SF, NL, ST, hM⟩ := id X
  have n7 := L.1.1.2.1
  have k14 := L.1.1.2.2
  have one : ∀ b, b < k → rcI T b * (phA T n b - phA T2 n b) ≤ 800 * R := by
    intro b hb
    have i1 := ph_allW X hb
    have i2 := ph_allW Y hb
    rw [(D.1 b hb).2.2.1] at i2
    have rb := red_bdW L P G.2.2.2.2.1.2.2.1 hb
    have ri := rc_iW L P G.2.2.2.2.1.2.2.1 hb
    have ng := neg_i rb
    obtain ⟨t1, t2, t3, t4⟩ := L.1.te hb
    by_cases h : rf_hangs T b = true
    · obtain ⟨s, hs, es⟩ := S (tlv T b) (hdv T b) (nI b) t3 (Or.inr ⟨t4, b, hb, rfl, h, Or.inl ⟨t1, t2⟩⟩)
      rw [rc_treeW L P G.2.2.2.2.1.2.2.1 hb hs es, Int.zero_mul]
      omega
    · have nh := Bool.eq_false_iff.mpr h
      have po := ph_off L hb nh
      obtain ⟨v3, f0, f1⟩ := G.2.2.2.1 b hb
      have off := hR b hb
      have sgn : ∀ z : Int32, (z < 0) ↔ (z.toInt < 0) := fun z => by rw [Int32.lt_iff_toInt_lt, z_ti]
      have sgl : ∀ z : Int32, (z ≤ 0) ↔ (z.toInt ≤ 0) := fun z => by rw [Int32.le_iff_toInt_le, z_ti]
      have sge : ∀ z : Int32, (0 ≤ z) ↔ (0 ≤ z.toInt) := fun z => by rw [Int32.le_iff_toInt_le, z_ti]
      unfold rf_off rf_far at off
      rw [ri] at ng
      have big : ∀ u w : Int, 0 ≤ u → u ≤ R → 0 ≤ w → w ≤ 800 → u * w ≤ 800 * R := fun u w a1 a2 a3 a4 => by
        have m1 : u * w ≤ u * 800 := Int.mul_le_mul_of_nonneg_left a4 a1
        omega
      have neg : ∀ u w : Int, u ≤ 0 → 0 ≤ w → u * w ≤ 800 * R := fun u w a1 a2 => by
        have := Int.mul_nonpos_of_nonpos_of_nonneg a1 a2
        omega
      have emp : rm T b 5 = 0 → rm T b 6 = 0 → rcI T b * (phA T n b - phA T2 n b) ≤ 800 * R := by
        intro e5 e6
        rw [f0 e5, z_ti] at po
        have e : rcI T b * (phA T n b - phA T2 n b) = -rcI T b * phA T2 n b := by
          rw [po]
          grind
        rw [e]
        by_cases c1 : 0 ≤ rcI T b
        · exact neg _ _ (by omega) i2.1
        · by_cases c2 : (rm T b 2).toInt ≤ 0
          · rw [show phA T2 n b = 0 by omega]
            omega
          · have a1 : rf_red T b < 0 := (sgn _).mpr (by rw [ri]; omega)
            have a2 : ¬ rm T b 2 ≤ 0 := fun z => c2 ((sgl _).mp z)
            have a3 : ¬ 0 ≤ rf_red T b := fun z => c1 (by rw [← ri]; exact (sge _).mp z)
            simp only [e5, e6, a1, a2, a3, decide_true, decide_false, Bool.not_false, Bool.true_and, Bool.true_or, if_false, true_implies] at off
            rw [ng] at off
            exact big _ _ (by omega) off i2.1 (by omega)
      rcases ST b hb with ⟨e6, e5⟩ | ⟨e6, e5⟩
      · obtain ⟨j, hj, ej⟩ := vi_nI e5
        have c01 : ∀ j, j < 3 → (j = 0 ∧ nI j = 0) ∨ (j = 1 ∧ nI j = 1) ∨ (j = 2 ∧ nI j = 2) := by decide
        rcases c01 j hj with ⟨-, j0⟩ | ⟨-, j1⟩ | ⟨-, j2⟩
        · exact emp (ej.trans j0) e6
        · have e51 := ej.trans j1
          rw [f1 e51] at po
          by_cases c1 : rcI T b ≤ 0
          · exact neg _ _ c1 (by omega)
          · by_cases c2 : (rm T b 2).toInt ≤ 0
            · rw [show phA T n b - phA T2 n b = 0 by omega]
              omega
            · have a1 : ¬ rf_red T b ≤ 0 := fun z => c1 (by rw [← ri]; exact (sgl _).mp z)
              have a2 : ¬ rm T b 2 ≤ 0 := fun z => c2 ((sgl _).mp z)
              have a3 : 0 ≤ rf_red T b := (sge _).mpr (by rw [ri]; omega)
              simp only [e51, e6, a1, a2, a3, decide_true, decide_false, Bool.not_false, Bool.true_and, Bool.or_true, if_true, true_implies] at off
              rw [ri] at off
              exact big _ _ (by omega) off (by omega) (by omega)
        · unfold rf_hangs at nh
          rw [ej, j2] at nh
          cases nh
      · -- blocked: nothing flows, nor will
        have z1 : phA T n b = 0 := by
          rw [po, f0 e5, z_ti]
          rfl
        have z2 : phA T2 n b = 0 := by
          have e62 : rm T2 b 6 = 1 := by rw [(D.1 b hb).2.2.2.2]; exact e6
          rcases Y.2.2.2.2.2.2.2.1 b hb with ⟨q, -⟩ | ⟨-, q⟩
          · rw [e62] at q
            exact absurd q (by decide)
          · have nh2 : rf_hangs T2 b = false := by
              unfold rf_hangs
              rw [q]
              rfl
            rw [ph_off Y.1 hb nh2, (Y.2.2.1.2.2.2.1 b hb).2.1 q, z_ti]
            rfl
        rw [z1, z2]
        omega
  have s := fs_le k one
  have c : ∀ m : Nat, fs (fun _ => 800 * R) m = (m : Int) * (800 * R) := by
    intro m
    induction m with
    | zero =>
      rw [fs]
      omega
    | succ m ih =>
      rw [fs, ih]
      grind
  rw [c] at s
  have : (k : Int) * (800 * R) ≤ 14 * (800 * R) := Int.mul_le_mul_of_nonneg_right (by omega) (by omega)
  omega
end WS3
section WS4
variable {T T2 : LH} {n k M M2 : Nat}
theorem piv_dropW (X : SXW T n k M) (Y : SXW T2 n k M2) (D : SD T T2 n k) {a x y mm : Nat} (ha : a < k) (hx : x < n) (hy : y < n) (ho : rf_off T a = true) (ex : (if rm T a 5 = 0 then rm T a 0 else rm T a 1) = nI x) (ey : (if rm T a 5 = 0 then rm T a 1 else rm T a 0) = nI y) (hm : mm < lc_n T x y) (er : rr (lc T a x y) mm = rlr (lc T a x y) (lc_n T x y) 0 1000000) (eT : T2.1 271 = (tn5 T a x y mm).1 271) : (rf_far T a).toInt ≤ cst T n k - cst T2 n k ∧ 1 ≤ (rf_far T a).toInt := by
  obtain ⟨L, P, G, S, K, SF, NL, ST, hM⟩ := id X
  have n7 := L.1.1.2.1
  have k14 := L.1.1.2.2
  have xn := Nat.le_of_lt hx
  have yn := Nat.le_of_lt hy
  obtain ⟨-, Cp, Rs, Fb, Ag, Db, Gn⟩ := id G
  obtain ⟨dl, hdl, edl, all⟩ := lc_dlW L Ag Db hM ha xn yn hm er
  obtain ⟨h1, h2, h3, kx, fl⟩ := tn5_hangW L G hM ha hx hy ho ex ey hm er eT
  have fla : ∀ c, c < k → rm T2 c 4 = rm (tn3 T a x y) c 4 := fun c hc => fl _ (Or.inr ⟨c, by omega, rfl⟩)
  have nha : rf_hangs T a = false := by
    unfold rf_hangs
    rcases off_w ho with w | w <;> rw [w] <;> rfl
  have only : ∀ b, b < k → b ≠ a → rcI T b * (phA T n b - phA T2 n b) = 0 := by
    intro b hb ba
    by_cases h : rf_hangs T b = true
    · obtain ⟨t1, t2, t3, t4⟩ := L.1.te hb
      obtain ⟨s, hs, es⟩ := S (tlv T b) (hdv T b) (nI b) t3 (Or.inr ⟨t4, b, hb, rfl, h, Or.inl ⟨t1, t2⟩⟩)
      rw [rc_treeW L P Ag.2.2.1 hb hs es, Int.zero_mul]
    · have nh2 : rf_hangs T2 b = false := by
        cases e : rf_hangs T2 b with
        | false => rfl
        | true => exact absurd ((h1 b hb ba).mp e).1 h
      have fx1 := tn3_off L (a := a) (x := x) (y := y) (id := nI b) ha xn yn (Or.inl ⟨b, hb, rfl⟩) (fun i hi z => h (lc_hang L ha xn yn hi hb z ba))
      rw [fx_a (by omega)] at fx1
      rw [ph_off L hb (Bool.eq_false_iff.mpr h), ph_off Y.1 hb nh2, fla b hb, show rm (tn3 T a x y) b 4 = rm T b 4 from fx1, Int.sub_self, Int.mul_zero]
  have e := gap_eqW X Y D
  rw [fs_pick (q := a) ha only] at e
  rw [e]
  have po := ph_off L ha nha
  have rb := red_bdW L P Ag.2.2.1 ha
  have ri := rc_iW L P Ag.2.2.1 ha
  have ng := neg_i rb
  rw [ri] at ng
  obtain ⟨v3, f0, f1⟩ := Fb a ha
  have i2 := ph_allW Y ha
  rw [(D.1 a ha).2.2.1] at i2
  have al := lc_al (g := T) (a := a) (x := x) (y := y) (by omega)
  have bpos : 0 < (rm T a 2).toInt := by
    have w : ¬ rm T a 2 ≤ 0 := by
      intro w
      unfold rf_off at ho
      rw [decide_eq_true w] at ho
      simp at ho
    rw [Int32.not_le, Int32.lt_iff_toInt_lt, z_ti] at w
    exact w
  -- strictly inside, or over to the other bound
  have fin : (rm T a 5 = 0 → 1 ≤ phA T2 n a) ∧ (rm T a 5 = 1 → phA T2 n a ≤ 8 * (rm T a 2).toInt - 1) := by
    by_cases h : rf_hangs T2 a = true
    · obtain ⟨t1, t2, t3, t4⟩ := Y.1.1.te ha
      obtain ⟨s, hs, es⟩ := Y.2.2.2.1 (tlv T2 a) (hdv T2 a) (nI a) t3 (Or.inr ⟨t4, a, ha, rfl, h, Or.inl ⟨t1, t2⟩⟩)
      have := ph_inW Y.1 Y.2.2.1 Y.2.2.2.2.2.1 ha hs es
      rw [(D.1 a ha).2.2.1] at this
      exact ⟨fun _ => this.1, fun _ => this.2⟩
    · have out : (lc T a x y).1 285 mm = nI a := Classical.byContradiction fun z => h (h2.mpr z)
      have nh2 : rf_hangs T2 a = false := Bool.eq_false_iff.mpr h
      obtain ⟨v, bd, q1, q2, q3, q4, q5, q6, q7⟩ := tn3_abW L Ag Db hM ha xn yn ho edl all ha hm out
      rw [er, edl] at q5
      have q8 := (nI_eq (by omega) (by split <;> omega)).mp q5
      have mI : mm = df T x - df T (lc_z T x y) := lc_inj L ha xn yn ho hm (by unfold lc_n; omega) (out.trans lc_at.symm)
      rw [← mI] at al
      rw [ph_off Y.1 ha nh2, fla a ha, q7]
      have tb : (nI bd).toInt = (bd : Int) := nI_toInt (by omega)
      rw [q4, tb] at bpos ⊢
      constructor
      · intro w
        rw [if_pos w] at ex
        rw [decide_eq_true ex] at al
        rw [al, if_neg (by decide)] at q8 ⊢
        rw [nI_toInt (by omega)]
        omega
      · intro w
        rw [if_neg (by rw [w]; decide)] at ex
        rw [decide_eq_false (fun q => Ag.1 a ha (q.trans ex.symm))] at al
        rw [al, if_pos (by decide)] at q8 ⊢
        rw [nI_toInt (by omega)]
        omega
  rcases off_w ho with w | w
  · rw [f0 w, z_ti] at po
    have neg : rf_red T a < 0 := by
      unfold rf_off at ho
      simp [w] at ho
      exact ho.2.2
    have neg2 : rcI T a < 0 := by
      rw [Int32.lt_iff_toInt_lt, z_ti, ri] at neg
      exact neg
    have ef : (rf_far T a).toInt = -rcI T a := by
      unfold rf_far
      rw [if_neg (Int32.not_le.mpr neg), ng]
    have p1 := fin.1 w
    have e2 : rcI T a * (phA T n a - phA T2 n a) = -rcI T a * phA T2 n a := by
      rw [po]
      grind
    rw [ef, e2]
    have m : -rcI T a * 1 ≤ -rcI T a * phA T2 n a := Int.mul_le_mul_of_nonneg_left p1 (by omega)
    omega
  · rw [f1 w] at po
    have pos : ¬ rf_red T a ≤ 0 := by
      unfold rf_off at ho
      simp [w] at ho
      exact Int32.not_le.mpr ho.2.2
    have pos2 : 0 < rcI T a := by
      rw [Int32.not_le, Int32.lt_iff_toInt_lt, z_ti, ri] at pos
      exact pos
    have ef : (rf_far T a).toInt = rcI T a := by
      unfold rf_far
      rw [if_pos (Int32.le_of_lt (Int32.not_le.mp pos)), ri]
    have p1 := fin.2 w
    rw [ef]
    have m : rcI T a * 1 ≤ rcI T a * (phA T n a - phA T2 n a) := Int.mul_le_mul_of_nonneg_left (show (1 : Int) ≤ phA T n a - phA T2 n a by omega) (by omega)
    omega
end WS4
section WS5
variable {n k : Nat}
theorem steep_endsW {Ts : Nat → LH} {Ms : Nat → Nat} {N : Nat} (X : ∀ i, i ≤ N → SXW (Ts i) n k (Ms i)) (D : ∀ i, i < N → SD (Ts i) (Ts (i + 1)) n k) (st : ∀ i, i < N → ∃ R : Int, 1 ≤ R ∧ R ≤ 100000 ∧ R ≤ cst (Ts i) n k - cst (Ts (i + 1)) n k ∧ ∀ b, b < k → rf_off (Ts i) b = true → (rf_far (Ts i) b).toInt ≤ R) : N ≤ 694401 := by
  rcases Nat.eq_zero_or_pos N with z | z
  · omega
  have one : ∀ i, i < N → 1 ≤ (cst (Ts i) n k - cst (Ts N) n k) - (cst (Ts (i + 1)) n k - cst (Ts N) n k) := fun i hi => by
    obtain ⟨R, r1, r2, r3, -⟩ := st i hi
    omega
  have part : ∀ i, i < N → cst (Ts i) n k - cst (Ts N) n k ≤ ((11200 : Nat) : Int) * ((cst (Ts i) n k - cst (Ts N) n k) - (cst (Ts (i + 1)) n k - cst (Ts N) n k)) := fun i hi => by
    obtain ⟨R, r1, r2, r3, r4⟩ := st i hi
    have sd := sd_all D (N - i) i (by omega)
    rw [show i + (N - i) = N by omega] at sd
    have g := gap_leW (X i (by omega)) (X N (Nat.le_refl _)) sd (by omega) r4
    omega
  have big : cst (Ts 0) n k - cst (Ts N) n k ≤ 2 ^ 31 := by
    obtain ⟨R, r1, r2, r3, r4⟩ := st 0 z
    have sd := sd_all D (N - 0) 0 (by omega)
    rw [show 0 + (N - 0) = N by omega] at sd
    have g := gap_leW (X 0 (by omega)) (X N (Nat.le_refl _)) sd (by omega) r4
    have : (2 : Int) ^ 31 = 2147483648 := by decide
    omega
  have := gap_half (D := fun i => cst (Ts i) n k - cst (Ts N) n k) (N := N) (m := 11200) (by decide) one part (by show 0 ≤ cst (Ts N) n k - cst (Ts N) n k; omega) 31 0 (by omega) big
  omega
end WS5
section WS6
variable {T : LH} {n k M : Nat}
/-- a price is far from 0 -/
theorem pr_farW (L : LT T n k) (P : PR T n k) (A : ∀ a, a < k → ∃ c, c ≤ 199 ∧ rm T a 3 + 99 = nI c) : ∀ (d p : Nat), p < n → df T p ≤ d + 1 → d ≤ 6 → (T.1 284 p).toInt ≤ -10000 + 100 * (d : Int) ∨ 10000 - 100 * (d : Int) ≤ (T.1 284 p).toInt := by
  intro d
  induction d with
  | zero =>
    intro p hp hd _
    rcases P.at L hp with ⟨-, -, pr⟩ | ⟨hu, -, -⟩
    · rw [pr]
      by_cases w : T.1 271 (58 + p) = 1
      · rw [if_pos w, show (-10000 : Int32).toInt = -10000 from rfl]
        omega
      · rw [if_neg w, show (10000 : Int32).toInt = 10000 from rfl]
        omega
    · have u := L.up hp
      have u2 := L.up hu
      omega
  | succ d ih =>
    intro p hp hd hd6
    rcases P.at L hp with ⟨-, -, pr⟩ | ⟨hu, -, a, ha, -, en⟩
    · rw [pr]
      by_cases w : T.1 271 (58 + p) = 1
      · rw [if_pos w, show (-10000 : Int32).toInt = -10000 from rfl]
        omega
      · rw [if_neg w, show (10000 : Int32).toInt = 10000 from rfl]
        omega
    · have u := L.up hp
      have i := ih (uf T p) hu (by omega) (by omega)
      have bd := pr_bdW P L A 7 (uf T p) (Nat.le_of_lt hu) ((L.at hu).2.2.2.1)
      obtain ⟨c, hc, ec⟩ := A a ha
      have cb := v99W hc ec
      rcases en with ⟨-, -, pr⟩ | ⟨-, -, pr⟩
      · rw [pr, tia (by omega) (by omega)]
        omega
      · rw [pr, tis (by omega) (by omega)]
        omega
/-- REDUCED shows the way: room means not below 0, something that flows means not above -/
theorem best_rcW (X : SXW T n k M) (best : ∀ b, b < k → rf_off T b = false) {b : Nat} (hb : b < k) : (0 ≤ (rm T b 4).toInt ∧ (rm T b 4).toInt ≤ capJ T b) ∧ ((rm T b 4).toInt < capJ T b → 0 ≤ rcI T b) ∧ (0 < (rm T b 4).toInt → rcI T b ≤ 0) := by
  obtain ⟨L, P, G, S, K, SF, NL, ST, hM⟩ := id X
  have n7 := L.1.1.2.1
  have k14 := L.1.1.2.2
  obtain ⟨v, bd, q1, q2, q3, q4⟩ := G.2.2.2.2.1.2.1 b hb
  have ri := rc_iW L P G.2.2.2.2.1.2.2.1 hb
  obtain ⟨v3, f0, f1⟩ := G.2.2.2.1 b hb
  have off := best b hb
  have vi : (nI v).toInt = (v : Int) := nI_toInt (by omega)
  have bi : (nI bd).toInt = (bd : Int) := nI_toInt (by omega)
  unfold capJ capI
  rcases ST b hb with ⟨e6, e5⟩ | ⟨e6, e5⟩
  · have n61 : ¬ rm T b 6 = 1 := by rw [e6]; decide
    rw [if_neg n61, q3, q4, vi, bi]
    refine ⟨by omega, ?_⟩
    by_cases h : rf_hangs T b = true
    · obtain ⟨t1, t2, t3, t4⟩ := L.1.te hb
      obtain ⟨s, hs, es⟩ := S (tlv T b) (hdv T b) (nI b) t3 (Or.inr ⟨t4, b, hb, rfl, h, Or.inl ⟨t1, t2⟩⟩)
      rw [rc_treeW L P G.2.2.2.2.1.2.2.1 hb hs es]
      exact ⟨fun _ => by omega, fun _ => by omega⟩
    · obtain ⟨j, hj, ej⟩ := vi_nI e5
      have c01 : ∀ j, j < 3 → (j = 0 ∧ nI j = 0) ∨ (j = 1 ∧ nI j = 1) ∨ (j = 2 ∧ nI j = 2) := by decide
      have bp : 0 < bd → ¬ rm T b 2 ≤ 0 := fun z => by rw [q4]; exact nI_nle z (by omega)
      rcases c01 j hj with ⟨-, j0⟩ | ⟨-, j1⟩ | ⟨-, j2⟩
      · have e50 := ej.trans j0
        have v0 : v = 0 := (nI_eq (b := 0) (by omega) (by omega)).mp (q3.symm.trans (f0 e50))
        refine ⟨fun z => ?_, fun z => by omega⟩
        have b2 := bp (by omega)
        unfold rf_off at off
        simp [e50, e6, b2] at off
        have := Int32.le_iff_toInt_le.mp off
        rw [z_ti, ri] at this
        exact this
      · have e51 := ej.trans j1
        have v0 : v = bd := (nI_eq (by omega) (by omega)).mp (q3.symm.trans ((f1 e51).trans q4))
        refine ⟨fun z => by omega, fun z => ?_⟩
        have b2 := bp (by omega)
        unfold rf_off at off
        simp [e51, e6, b2] at off
        have := Int32.le_iff_toInt_le.mp off
        rw [z_ti, ri] at this
        exact this
      · exact absurd (by unfold rf_hangs; rw [ej, j2]; rfl) h
  · rw [if_pos e6, f0 e5, z_ti]
    exact ⟨by omega, fun z => by omega, fun z => by omega⟩
theorem best_lvW (X : SXW T n k M) (best : ∀ b, b < k → rf_off T b = false) (all : ∀ p, p < n → T.1 271 (65 + p) = 0) : LVs (tlv T) (hdv T) (capJ T) (fun b => (rm T b 3).toInt) (fun p => (T.1 271 (44 + p)).toInt) n k (fs (fun b => (rm T b 3).toInt * (rm T b 4).toInt) k) := by
  obtain ⟨L, P, G, S, K, SF, NL, ST, hM⟩ := id X
  refine lv_opt (P := fun p => (T.1 284 p).toInt) (f := fun b => (rm T b 4).toInt) (fun b hb => ⟨(L.1.te hb).2.2.1, (L.1.te hb).2.2.2⟩) ⟨fun b hb => (best_rcW X best hb).1, fun p hp => ?_⟩ (fun b hb => (best_rcW X best hb).2)
  have := (cons_intW G hM K hp).1
  rw [all p hp, z_ti, Int.mul_zero, Int.add_zero] at this
  exact this.symm
theorem best_noW (X : SXW T n k M) (best : ∀ b, b < k → rf_off T b = false) (ex : ∃ p, p < n ∧ T.1 271 (65 + p) ≠ 0) : LVs (tlv T) (hdv T) (capJ T) (fun b => (rm T b 3).toInt) (fun p => (T.1 271 (44 + p)).toInt) n k (-1000000) := by
  obtain ⟨L, P, G, S, K, SF, NL, ST, hM⟩ := id X
  have n7 := L.1.1.2.1
  have k14 := L.1.1.2.2
  obtain ⟨q, hq, q1⟩ := ex
  have far : ∀ p, p < n → (T.1 284 p).toInt ≤ -9400 ∨ 9400 ≤ (T.1 284 p).toInt := fun p hp => by
    have := pr_farW L P G.2.2.2.2.1.2.2.1 6 p hp ((L.at hp).2.2.2.1) (by omega)
    omega
  -- a loan that owes hangs its point
  have loan : ∀ p, p < n → T.1 271 (65 + p) ≠ 0 → (T.1 284 p).toInt + 10000 * (T.1 271 (58 + p)).toInt = 0 := by
    intro p hp h
    have ln : T.1 271 (51 + p) = 1 := Classical.byContradiction fun z => h (NL p hp z)
    obtain ⟨s, hs, es⟩ := S p n _ hp (Or.inl ⟨rfl, rfl, ln⟩)
    have sp : s = p := by
      rcases (L.at hs).2.2.2.2.2 with ⟨-, e, -⟩ | ⟨-, b, hb, e, -, -⟩
      · have := (nI_eq (by omega) (by omega)).mp (e.symm.trans es)
        omega
      · have := (nI_eq (by omega) (by omega)).mp (e.symm.trans es)
        omega
    rw [sp] at es
    exact loan_pr L P X.ways hp es
  have term : ∀ p, p < n → (if (T.1 284 p).toInt < 0 then (-1 : Int) else 1) * (T.1 271 (44 + p)).toInt + (T.1 271 (65 + p)).toInt = (if (T.1 284 p).toInt < 0 then (-1 : Int) else 1) * dv (tlv T) (hdv T) (fun b => (rm T b 4).toInt) k p ∧ 0 ≤ (T.1 271 (65 + p)).toInt := by
    intro p hp
    obtain ⟨c1, c2, c3⟩ := cons_intW G hM K hp
    refine ⟨?_, c2⟩
    rw [c1]
    by_cases h : T.1 271 (65 + p) = 0
    · rw [h, z_ti]
      grind
    · have l := loan p hp h
      rcases X.ways p hp with w | w
      · rw [w, one_ti] at l ⊢
        rw [if_pos (by omega)]
        grind
      · rw [w, show (-1 : Int32).toInt = -1 from rfl] at l ⊢
        rw [if_neg (by omega)]
        grind
  refine lv_no (P := fun p => if (T.1 284 p).toInt < 0 then (-1 : Int) else 1) (f := fun b => (rm T b 4).toInt) (fun b hb => ⟨(L.1.te hb).2.2.1, (L.1.te hb).2.2.2⟩) (fun b hb => (best_rcW X best hb).1) (fun b hb => ?_) ?_
  · obtain ⟨-, r1, r2⟩ := best_rcW X best hb
    obtain ⟨-, -, t3, t4⟩ := L.1.te hb
    have a1 := far _ t3
    have a2 := far _ t4
    obtain ⟨c, hc, ec⟩ := G.2.2.2.2.1.2.2.1 b hb
    have cb := v99W hc ec
    unfold rcI at r1 r2
    constructor
    · intro z
      have := r1 z
      show 0 ≤ (if (T.1 284 (tlv T b)).toInt < 0 then (-1 : Int) else 1) - (if (T.1 284 (hdv T b)).toInt < 0 then (-1 : Int) else 1)
      split <;> split <;> omega
    · intro z
      have := r2 z
      show (if (T.1 284 (tlv T b)).toInt < 0 then (-1 : Int) else 1) - (if (T.1 284 (hdv T b)).toInt < 0 then (-1 : Int) else 1) ≤ 0
      split <;> split <;> omega
  · have s := fs_lt (b := q) (f := fun p => (if (T.1 284 p).toInt < 0 then (-1 : Int) else 1) * (T.1 271 (44 + p)).toInt) (g := fun p => (if (T.1 284 p).toInt < 0 then (-1 : Int) else 1) * dv (tlv T) (hdv T) (fun b => (rm T b 4).toInt) k p) n (fun p hp => by
      have := term p hp
      omega) hq (by
      have := term q hq
      have : (T.1 271 (65 + q)).toInt ≠ 0 := fun z => q1 (ti_0 z)
      omega)
    omega
end WS6
section WS7
variable {h r T : LH} {b n k m M : Nat}
theorem NR.ksW (N : NR h b r n k m) (G : GIW r n k M) : KS r n k := NRt.ks N.2.1 G.2.2.2.2.1.1 G.lt (lt_pr G.1) (fun i _ => by rw [lt_fl.r])
theorem sx_of_nrW (N : NR h b r n k m) (G : GIW r n k M) (K : KS r n k) (hM : M ≤ 20000000) : SXW (lt r n k) n k M := by
  have L := G.lt
  have P := lt_pr G.1
  have R : RW r (lt r n k) := fun i _ => by rw [lt_fl.r]
  have n7 := L.1.1.2.1
  have k14 := L.1.1.2.2
  have S := N.1.2.2.2.2.2.rw R k14
  refine ⟨L, P, G.fl lt_fl, (N.2.1.to G.2.2.2.2.1.1 L P R).2.2, K.1, K.2.1, K.2.2, fun c hc => ?_, hM⟩
  rcases S c hc with ⟨s6, -, s5⟩ | ⟨s6, -, s5⟩
  · exact Or.inl ⟨s6, s5⟩
  · exact Or.inr ⟨s6, s5⟩
/-- an arc that offers: its cycle -/
theorem off_cycW (L : LT T n k) (B1 : FBW T k) {a : Nat} (ha : a < k) (ho : rf_off T a = true) : ∃ x y mm, x < n ∧ y < n ∧ (if rm T a 5 = 0 then rm T a 0 else rm T a 1) = nI x ∧ (if rm T a 5 = 0 then rm T a 1 else rm T a 0) = nI y ∧ mm < lc_n T x y ∧ lvx (lc T a x y) (rlr (lc T a x y) (lc_n T x y) 0 1000000) (lc_n T x y) 0 (-1) = nI mm := by
  have hxy : ∃ x y, x < n ∧ y < n ∧ (if rm T a 5 = 0 then rm T a 0 else rm T a 1) = nI x ∧ (if rm T a 5 = 0 then rm T a 1 else rm T a 0) = nI y := by
    obtain ⟨p, q, hp, hq, e1, e2⟩ := L.1.ends ha
    by_cases z : rm T a 5 = 0
    · exact ⟨p, q, hp, hq, by rw [if_pos z]; exact e1, by rw [if_pos z]; exact e2⟩
    · exact ⟨q, p, hq, hp, by rw [if_neg z]; exact e2, by rw [if_neg z]; exact e1⟩
  obtain ⟨x, y, hx, hy, ex, ey⟩ := hxy
  obtain ⟨Y, -, -⟩ := lc_ok L ha (show x ≤ n by omega) (show y ≤ n by omega)
  have lst := lc_leastW L B1 ha (show x ≤ n by omega) (show y ≤ n by omega) ho
  obtain ⟨m, hm, em, -⟩ := sx_lv2 (d := 0) Y lst
  exact ⟨x, y, m, hx, hy, ex, ey, hm, em⟩
theorem NR.rulW (hb : b ≤ 225) (G : GIW r n k M) (N : NR h b r n k m) (x : Int32) : NR (w1 h b 2 x) b (w1 r 271 2 x) n k m := by
  have n7 := G.1.1.2.1
  have k14 := G.1.1.2.2
  have ew : ∀ i, i ≠ 2 → (w1 r 271 2 x).1 271 i = r.1 271 i := fun i hi => w1_at hi
  have he : ∀ e, e ≠ b → (w1 h b 2 x).1 e = h.1 e := fun e he => w1_ne he
  have G3 : GIW (w1 r 271 2 x) n k M := G.ru
  exact ⟨N.1.mv n7 k14 (w1_at (by decide)) (w1_at (by decide)) (w1_eq.trans w1_eq.symm) (fun o h1 h2 => he _ (by omega)) (fun i h1 h2 => ew i (by omega)), (N.2.1.mvW G.2.2.2.2.1.1 G3 (RT.of (fun i h1 h2 => ew i (by omega)) n7 k14)).cl n7 (fun p _ => by rw [he _ (by omega)]) (fun p _ => by rw [he _ (by omega)]) (fun p _ => by rw [he _ (by omega)]), N.2.2.mv (fun o h1 h2 => he _ (by omega)) (fun i h1 h2 => ew i (by omega))⟩
/-- the steep rule takes the furthest, whatever the row's rule is -/
theorem steep_pickW (hb : b ≤ 225) (N : NR h b r n k m) (G : GIW r n k M) : (nt_pick h b k 1 = -1 ∧ ∀ c, c < k → rf_off (lt r n k) c = false) ∨ ∃ a, nt_pick h b k 1 = nI a ∧ a < k ∧ rf_off (lt r n k) a = true ∧ ∀ c, c < k → rf_off (lt r n k) c = true → rf_far (lt r n k) c ≤ rf_far (lt r n k) a := by
  have G1 : GIW (w1 r 271 2 1) n k M := G.ru
  have N1 := N.rulW hb G 1
  have pk := N1.pickW G1
  rw [w1_eq, pick_rul] at pk
  have o1 := N1.offW G1
  have o0 := N.offW G
  have L1 := G1.lt
  have k14 := L1.1.1.2.2
  have ru1 : (lt (w1 r 271 2 1) n k).1 271 2 = 1 := by rw [lt_fl.r, w1_eq]
  have RS1 : RS (lt (w1 r 271 2 1) n k) := (G1.fl lt_fl : GIW (lt (w1 r 271 2 1) n k) n k M).2.2.1
  have same : ∀ c, c < k → rf_off (lt (w1 r 271 2 1) n k) c = rf_off (lt r n k) c ∧ (rf_off (lt r n k) c = true → rf_far (lt (w1 r 271 2 1) n k) c = rf_far (lt r n k) c) := by
    intro c hc
    obtain ⟨p1, p2⟩ := o1 c hc
    obtain ⟨q1, q2⟩ := o0 c hc
    rw [off_rul] at p1 p2
    cases e1 : rf_off (lt (w1 r 271 2 1) n k) c <;> cases e0 : rf_off (lt r n k) c
    · exact ⟨rfl, fun z => by cases z⟩
    · have := p2 e1
      rw [(q1 e0).1] at this
      have q := (q1 e0).2
      rw [this] at q
      exact absurd q (by decide)
    · have := q2 e0
      rw [(p1 e1).1] at this
      have q := (p1 e1).2
      rw [this] at q
      exact absurd q (by decide)
    · exact ⟨rfl, fun _ => (p1 e1).1.symm.trans (q1 e0).1⟩
  by_cases c : en_f (lt (w1 r 271 2 1) n k) k k 0 (-1) = -1
  · refine Or.inl ⟨pk.trans c, fun a ha => ?_⟩
    rw [← (same a ha).1]
    exact (en_none L1.1 RS1).mp c a ha
  · obtain ⟨a, ha, ea⟩ := vi_nI ((en_f_in L1.1 RS1 k 0 (-1) (by omega) (Or.inl rfl)).resolve_left c)
    have ho := (en_f_off L1.1 RS1 k 0 (-1) (by omega) (Or.inl rfl)).resolve_left c
    rw [ea, nI_clamp (by omega)] at ho
    refine Or.inr ⟨a, pk.trans ea, ha, (same a ha).1.symm.trans ho, fun c hc o => ?_⟩
    have st := en_steep ru1 k14 k 0 (-1) (by omega) (Or.inl rfl) (fun j hj => absurd hj (by omega)) a ha ea c hc ((same c hc).1.trans o)
    rw [(same c hc).2 o, (same a ha).2 ((same a ha).1.symm.trans ho)] at st
    exact st
/-- one pivot by the steep rule -/
theorem steep_oneW (hb : b ≤ 225) (N : NR h b r n k m) (G : GIW r n k M) (hM : M ≤ 19000000) : (nt_pick h b k 1 = -1 ∧ ∀ c, c < k → rf_off (lt r n k) c = false) ∨ ∃ a r2, nt_pick h b k 1 = nI a ∧ a < k ∧ NR (rt_step h b n m (nI a)) b r2 n k (m + 1) ∧ GIW r2 n k (M + 1) ∧ SD (lt r n k) (lt r2 n k) n k ∧ ∃ R : Int, 1 ≤ R ∧ R ≤ 100000 ∧ R ≤ cst (lt r n k) n k - cst (lt r2 n k) n k ∧ ∀ c, c < k → rf_off (lt r n k) c = true → (rf_far (lt r n k) c).toInt ≤ R := by
  have X := sx_of_nrW N G (N.ksW G) (by omega)
  have L := G.lt
  have n7 := L.1.1.2.1
  have k14 := L.1.1.2.2
  have GT : GIW (lt r n k) n k M := G.fl lt_fl
  rcases steep_pickW hb N G with c | ⟨a, ea, ha, ho, far⟩
  · exact Or.inl c
  · obtain ⟨x, y, mm, hx, hy, ex, ey, hm, em⟩ := off_cycW L GT.2.2.2.1 ha ho
    have N5 := nr_stepW hb N G (by omega) ha hx hy ho ex ey hm em
    refine Or.inr ⟨a, tn5 (lt r n k) a x y mm, ea, ha, N5, ?_⟩
    have xn := Nat.le_of_lt hx
    have yn := Nat.le_of_lt hy
    have ln16 : lc_n (lt r n k) x y ≤ 16 := (lc_ok L ha xn yn).1.2.1
    have er := lvx_m ln16 hm em
    obtain ⟨-, Cp, Rs, Fb, Ag, Db, Gn⟩ := id GT
    have tk := tn_keepW L Cp Fb Ag Db Gn (by omega) ha hx hy ho ex ey hm er
    have G5 := tk.1
    have e5 : (lt (tn5 (lt r n k) a x y mm) n k).1 271 = (tn5 (lt r n k) a x y mm).1 271 := lt_fl.r
    have kx : ∀ ix, KX ix → (lt (tn5 (lt r n k) a x y mm) n k).1 271 ix = (lt r n k).1 271 ix := fun ix hix => by rw [e5]; exact tk.2.1 ix hix
    have D : SD (lt r n k) (lt (tn5 (lt r n k) a x y mm) n k) n k := by
      have kxa : ∀ c w, w < 7 → w ≠ 4 → w ≠ 5 → rm (lt (tn5 (lt r n k) a x y mm) n k) c w = rm (lt r n k) c w := fun c w q1 q2 q3 => kx _ (Or.inr (Or.inr (Or.inr (Or.inr ⟨c, w, rfl, q1, q2, q3⟩))))
      exact ⟨fun c hc => ⟨kxa c 0 (by omega) (by omega) (by omega), kxa c 1 (by omega) (by omega) (by omega), kxa c 2 (by omega) (by omega) (by omega), kxa c 3 (by omega) (by omega) (by omega), kxa c 6 (by omega) (by omega) (by omega)⟩, fun p hp => ⟨kx _ (Or.inr (Or.inl (by omega))), kx _ (Or.inr (Or.inr (Or.inl (by omega)))), fun z => lent_monoW L GT (by omega) ha hx hy ho ex ey hm er e5 hp z⟩⟩
    have Y := sx_of_nrW N5 G5 (N5.ksW G5) (by omega)
    obtain ⟨d1, d2⟩ := piv_dropW X Y D ha hx hy ho ex ey hm er e5
    have rb := red_bdW L X.2.1 Ag.2.2.1 ha
    have fb : (rf_far (lt r n k) a).toInt ≤ 100000 := by
      unfold rf_far
      split
      · exact rb.2
      · rw [neg_i rb]
        omega
    exact ⟨G5, D, (rf_far (lt r n k) a).toInt, d2, fb, d1, fun c hc o => Int32.le_iff_toInt_le.mp (far c hc o)⟩
/-- so many pivots, or it ends -/
theorem steep_runW (hb : b ≤ 225) : ∀ (f i m M : Nat) (h r : LH), NR h b r n k m → GIW r n k M → M + f ≤ 19000000 → (∃ r2 M2 m2, NR (rt_run b n k 1 f i m h).2 b r2 n k m2 ∧ SXW (lt r2 n k) n k M2 ∧ SD (lt r n k) (lt r2 n k) n k ∧ ∀ c, c < k → rf_off (lt r2 n k) c = false) ∨ ∃ (Ts : Nat → LH) (Ms : Nat → Nat), Ts 0 = lt r n k ∧ (∀ j, j ≤ f → SXW (Ts j) n k (Ms j)) ∧ (∀ j, j < f → SD (Ts j) (Ts (j + 1)) n k) ∧ ∀ j, j < f → ∃ R : Int, 1 ≤ R ∧ R ≤ 100000 ∧ R ≤ cst (Ts j) n k - cst (Ts (j + 1)) n k ∧ ∀ c, c < k → rf_off (Ts j) c = true → (rf_far (Ts j) c).toInt ≤ R
  | 0, i, m, M, h, r, N, G, hM => Or.inr ⟨fun _ => lt r n k, fun _ => M, rfl, fun _ _ => sx_of_nrW N G (N.ksW G) (show M ≤ 20000000 by omega), fun j hj => absurd hj (by omega), fun j hj => absurd hj (by omega)⟩
  | f + 1, i, m, M, h, r, N, G, hM => by
    rw [rt_run]
    rcases steep_oneW hb N G (by omega) with ⟨c, best⟩ | ⟨a, r2, e, ha, N2, G2, D, st⟩
    · rw [if_pos c]
      exact Or.inl ⟨r, M, m, N, sx_of_nrW N G (N.ksW G) (by omega), SD.rf, best⟩
    · have k14 := G.1.1.2.2
      rw [e, if_neg (nI_m1 (by omega))]
      rcases steep_runW hb f (i + 1) (m + 1) (M + 1) _ r2 N2 G2 (by omega) with ⟨r3, M3, m3, q1, q2, q3, q4⟩ | ⟨Ts, Ms, z0, z1, z2, z3⟩
      · exact Or.inl ⟨r3, M3, m3, q1, q2, D.tr q3, q4⟩
      · refine Or.inr ⟨fun j => match j with | 0 => lt r n k | j + 1 => Ts j, fun j => match j with | 0 => M | j + 1 => Ms j, rfl, fun j hj => ?_, fun j hj => ?_, fun j hj => ?_⟩
        · cases j with
          | zero => exact sx_of_nrW N G (N.ksW G) (show M ≤ 20000000 by omega)
          | succ j => exact z1 j (by omega)
        · cases j with
          | zero =>
            show SD (lt r n k) (Ts 0) n k
            rw [z0]
            exact D
          | succ j => exact z2 j (by omega)
        · cases j with
          | zero =>
            show ∃ R : Int, 1 ≤ R ∧ R ≤ 100000 ∧ R ≤ cst (lt r n k) n k - cst (Ts 0) n k ∧ _
            rw [z0]
            exact st
          | succ j => exact z3 j (by omega)
/-- a million is enough -/
theorem steep_bestW (hb : b ≤ 225) {i : Nat} (N : NR h b r n k m) (G : GIW r n k M) (hM : M ≤ 18000000) : ∃ r2 M2 m2, NR (rt_run b n k 1 1000000 i m h).2 b r2 n k m2 ∧ SXW (lt r2 n k) n k M2 ∧ SD (lt r n k) (lt r2 n k) n k ∧ ∀ c, c < k → rf_off (lt r2 n k) c = false := by
  have big : ∀ f, f = 1000000 → ∃ r2 M2 m2, NR (rt_run b n k 1 f i m h).2 b r2 n k m2 ∧ SXW (lt r2 n k) n k M2 ∧ SD (lt r n k) (lt r2 n k) n k ∧ ∀ c, c < k → rf_off (lt r2 n k) c = false := by
    intro f ef
    rcases steep_runW hb f i m M h r N G (by omega) with z | ⟨Ts, Ms, -, z1, z2, z3⟩
    · exact z
    · have := steep_endsW z1 z2 z3
      omega
  exact big _ rfl
end WS7
section WS8
variable {h r T : LH} {b n k m M : Nat}
theorem lo_lvW (N : NR h 15 r n k m) (X : SXW (lt r n k) n k M) (best : ∀ c, c < k → rf_off (lt r n k) c = false) : LV0 (lt r n k) n k (lo_v n k h) := by
  obtain ⟨⟨-, -, -, F, C, -⟩, -⟩ := N
  obtain ⟨L, P, G, S, K, SF, NL, ST, hM⟩ := id X
  have n7 := L.1.1.2.1
  have k14 := L.1.1.2.2
  have e271 : (lt r n k).1 271 = r.1 271 := lt_fl.r
  have rr : ∀ a w, rm (lt r n k) a w = rm r a w := fun a w => by unfold rm; rw [e271]
  have un := unm_i (h := h) (b := 15) (n := n) (D := fun p => ((lt r n k).1 271 (65 + p)).toInt) (fun p hp => by
    obtain ⟨-, c2, c3⟩ := cons_intW G hM K hp
    exact ⟨by rw [F.2 p hp, e271], c2, c3⟩) n7 n 0 0 (by omega) rfl (by rw [z_ti]; omega) (by rw [z_ti]; omega)
  have sp := spn_i (h := h) (b := 15) (k := k) (c := fun a => (rm (lt r n k) a 3).toInt) (g := fun a => (rm (lt r n k) a 4).toInt) (fun a ha => by
    obtain ⟨v, bd, q1, q2, q3, q4⟩ := G.2.2.2.2.1.2.1 a ha
    obtain ⟨c, hc, ec⟩ := G.2.2.2.2.1.2.2.1 a ha
    have cb := v99W hc ec
    rw [(F.1 a ha).2, C.1 a ha, rr, rr]
    rw [rr] at q3 cb
    rw [q3, nI_toInt (by omega)]
    omega) k14 k 0 0 (by omega) rfl (by rw [z_ti]; omega) (by rw [z_ti]; omega)
  unfold LV0 LVi lo_v
  by_cases all : ∀ p, p < n → (lt r n k).1 271 (65 + p) = 0
  · have z : nt_unm h 15 n 0 0 = 0 := by
      apply ti_0
      rw [un, fs_c (g := fun _ => 0) n (fun p hp => by rw [all p hp]; rfl), fs_0]
    rw [if_pos z, sp]
    exact best_lvW X best all
  · have ex : ∃ p, p < n ∧ (lt r n k).1 271 (65 + p) ≠ 0 := Classical.byContradiction fun z => all (fun p hp => Classical.byContradiction fun y => z ⟨p, hp, y⟩)
    have z : ¬ nt_unm h 15 n 0 0 = 0 := by
      intro z
      rw [z, z_ti] at un
      obtain ⟨q, hq, q1⟩ := ex
      have s := fs_lt (b := q) (f := fun _ => 0) (g := fun p => ((lt r n k).1 271 (65 + p)).toInt) n (fun p hp => (cons_intW G hM K hp).2.1) hq (by
        have h1 := (cons_intW G hM K hq).2.1
        have h2 : ((lt r n k).1 271 (65 + q)).toInt ≠ 0 := fun z => q1 (ti_0 z)
        show (0 : Int) + 1 ≤ ((lt r n k).1 271 (65 + q)).toInt
        omega)
      rw [fs_0] at s
      omega
    rw [if_neg z]
    exact best_noW X best ex
end WS8
section WS9
variable {h g r T T2 : LH} {b n k m M t d : Nat}
/-- the trial's run tells the least -/
theorem trial_lvW {i : Nat} (N : NR h 15 r n k m) (G : GIW r n k M) (hM : M ≤ 18000000) : LV0 r n k (lo_v n k (rt_run 15 n k 1 1000000 i m h).2) := by
  obtain ⟨r2, M2, m2, N2, X2, D, best⟩ := steep_bestW (i := i) (by omega) N G hM
  exact LV0.cg lt_fl.r ((lo_lvW N2 X2 best).sd D)
end WS9
