/-! ===== the gap between two trees: at most 11,200 times the steepest ===== -/
section VPG
variable {T T2 : LH} {n k M M2 : Nat}
/-- how arcs stand -/
def STD (T : LH) (k : Nat) : Prop := ∀ b, b < k → (rm T b 6 = 0 ∧ vp_in (rm T b 5) 3) ∨ (rm T b 6 = 1 ∧ rm T b 5 = 0)
/-- a laid tree with all that is known of it -/
def SX (T : LH) (n k M : Nat) : Prop := LT T n k ∧ PR T n k ∧ GI T n k M ∧ TS T n k ∧ CONS T n k ∧ SFT T n k ∧ NLT T n ∧ STD T k ∧ M ≤ 20000000
/-- the same grid, later -/
def SD (T T2 : LH) (n k : Nat) : Prop := (∀ b, b < k → rm T2 b 0 = rm T b 0 ∧ rm T2 b 1 = rm T b 1 ∧ rm T2 b 2 = rm T b 2 ∧ rm T2 b 3 = rm T b 3 ∧ rm T2 b 6 = rm T b 6) ∧ ∀ p, p < n → T2.1 271 (44 + p) = T.1 271 (44 + p) ∧ T2.1 271 (58 + p) = T.1 271 (58 + p) ∧ (T2.1 271 (51 + p) = 1 → T.1 271 (51 + p) = 1)
theorem SD.rf : SD T T n k := ⟨fun _ _ => ⟨rfl, rfl, rfl, rfl, rfl⟩, fun _ _ => ⟨rfl, rfl, fun z => z⟩⟩
theorem SD.tr {T3 : LH} (a : SD T T2 n k) (b : SD T2 T3 n k) : SD T T3 n k := ⟨fun c hc => by
  obtain ⟨a0, a1, a2, a3, a6⟩ := a.1 c hc
  obtain ⟨b0, b1, b2, b3, b6⟩ := b.1 c hc
  exact ⟨b0.trans a0, b1.trans a1, b2.trans a2, b3.trans a3, b6.trans a6⟩, fun p hp => by
  obtain ⟨a0, a1, a2⟩ := a.2 p hp
  obtain ⟨b0, b1, b2⟩ := b.2 p hp
  exact ⟨b0.trans a0, b1.trans a1, fun z => a2 (b2 z)⟩⟩
/-- what all costs, loans too -/
def cst (T : LH) (n k : Nat) : Int := fs (fun b => (rm T b 3).toInt * phA T n b) k + fs (fun p => (10000 * (T.1 271 (58 + p)).toInt) * phL T n p) n
theorem sL_0 (L : LT T n k) {p : Nat} (hp : p < n) (nl : T.1 271 (51 + p) ≠ 1) : sL T n p = 0 := by
  have n7 := L.1.1.2.1
  have k14 := L.1.1.2.2
  unfold sL
  rw [if_neg]
  intro z
  rcases (L.at hp).2.2.2.2.2 with ⟨-, -, e⟩ | ⟨-, b, hb, e, -, -⟩
  · exact nl e
  · have := (nI_eq (by omega) (by omega)).mp (e.symm.trans z)
    omega
theorem SX.ways (X : SX T n k M) : ∀ p, p < n → T.1 271 (58 + p) = 1 ∨ T.1 271 (58 + p) = -1 := fun p hp => by
  obtain ⟨v, -, -, w⟩ := X.2.2.1.2.2.2.2.2.1 p hp
  exact w
theorem gap_eq (X : SX T n k M) (Y : SX T2 n k M2) (D : SD T T2 n k) : cst T n k - cst T2 n k = fs (fun b => rcI T b * (phA T n b - phA T2 n b)) k := by
  obtain ⟨L, P, G, S, K, SF, NL, ST, hM⟩ := id X
  obtain ⟨L2, P2, G2, S2, K2, SF2, NL2, ST2, hM2⟩ := id Y
  have n7 := L.1.1.2.1
  have k14 := L.1.1.2.2
  have te : ∀ b, b < k → tlv T2 b = tlv T b ∧ hdv T2 b = hdv T b := fun b hb => by
    obtain ⟨a0, a1, -⟩ := D.1 b hb
    unfold tlv hdv
    rw [a0, a1]
    exact ⟨rfl, rfl⟩
  have c2 : cst T2 n k = fs (fun b => (rm T b 3).toInt * phA T2 n b) k + fs (fun p => (10000 * (T.1 271 (58 + p)).toInt) * phL T2 n p) n := by
    unfold cst
    rw [fs_c k (fun b hb => by rw [(D.1 b hb).2.2.2.1]), fs_c (f := fun p => (10000 * (T2.1 271 (58 + p)).toInt) * phL T2 n p) n (fun p hp => by rw [(D.2 p hp).2.1])]
  have cons : ∀ p, p < n → dv (tlv T) (hdv T) (phA T n) k p + phL T n p = dv (tlv T) (hdv T) (phA T2 n) k p + phL T2 n p := fun p hp => by
    have o1 := ph_out L G hM K hp
    have o2 := ph_out L2 G2 hM2 K2 hp
    have e : dv (tlv T2) (hdv T2) (phA T2 n) k p = dv (tlv T) (hdv T) (phA T2 n) k p := fs_c k (fun b hb => by rw [(te b hb).1, (te b hb).2])
    rw [e, (D.2 p hp).1] at o2
    omega
  have d := cost_diff (c := fun b => (rm T b 3).toInt) (P := fun p => (T.1 284 p).toInt) (W := fun p => 10000 * (T.1 271 (58 + p)).toInt) (fun b hb => ⟨(L.1.te hb).2.2.1, (L.1.te hb).2.2.2⟩) cons
  have loans : fs (fun p => ((T.1 284 p).toInt + 10000 * (T.1 271 (58 + p)).toInt) * (phL T n p - phL T2 n p)) n = 0 := by
    rw [fs_c (g := fun _ => 0) n (fun p hp => ?_), fs_0]
    by_cases h : T.1 271 (51 + p) = 1
    · obtain ⟨s, hs, es⟩ := S p n _ hp (Or.inl ⟨rfl, rfl, h⟩)
      have sp : s = p := by
        rcases (L.at hs).2.2.2.2.2 with ⟨-, e, -⟩ | ⟨-, b, hb, e, -, -⟩
        · have := (nI_eq (by omega) (by omega)).mp (e.symm.trans es)
          omega
        · have := (nI_eq (by omega) (by omega)).mp (e.symm.trans es)
          omega
      rw [sp] at es
      rw [loan_pr L P X.ways hp es, Int.zero_mul]
    · have h2 : T2.1 271 (51 + p) ≠ 1 := fun z => h ((D.2 p hp).2.2 z)
      unfold phL
      rw [sL_0 L hp h, sL_0 L2 hp h2, NL p hp h, NL2 p hp h2, z_ti]
      simp
  rw [c2]
  unfold cst
  rw [d, loans, Int.add_zero]
  rfl
/-- phi at every arc: within the bounds -/
theorem ph_all (X : SX T n k M) {b : Nat} (hb : b < k) : 0 ≤ phA T n b ∧ phA T n b ≤ 8 * (rm T b 2).toInt ∧ 0 ≤ (rm T b 2).toInt ∧ (rm T b 2).toInt ≤ 100 := by
  obtain ⟨L, P, G, S, K, SF, NL, ST, hM⟩ := id X
  have n7 := L.1.1.2.1
  have k14 := L.1.1.2.2
  obtain ⟨v, bd, q1, q2, q3, q4⟩ := G.2.2.2.2.1.2.1 b hb
  rw [q4, nI_toInt (by omega)]
  by_cases h : rf_hangs T b = true
  · obtain ⟨t1, t2, t3, t4⟩ := L.1.te hb
    obtain ⟨s, hs, es⟩ := S (tlv T b) (hdv T b) (nI b) t3 (Or.inr ⟨t4, b, hb, rfl, h, Or.inl ⟨t1, t2⟩⟩)
    have := ph_in L G SF hb hs es
    rw [q4, nI_toInt (by omega)] at this
    omega
  · rw [ph_off L hb (Bool.eq_false_iff.mpr h), q3, nI_toInt (by omega)]
    omega
theorem gap_le (X : SX T n k M) (Y : SX T2 n k M2) (D : SD T T2 n k) {R : Int} (R0 : 0 ≤ R) (hR : ∀ b, b < k → rf_off T b = true → (rf_far T b).toInt ≤ R) : cst T n k - cst T2 n k ≤ 11200 * R := by
  rw [gap_eq X Y D]
  obtain ⟨L, P, G, S, K, SF, NL, ST, hM⟩ := id X
  have n7 := L.1.1.2.1
  have k14 := L.1.1.2.2
  have one : ∀ b, b < k → rcI T b * (phA T n b - phA T2 n b) ≤ 800 * R := by
    intro b hb
    have i1 := ph_all X hb
    have i2 := ph_all Y hb
    rw [(D.1 b hb).2.2.1] at i2
    have rb := red_bd L P G.2.2.2.2.1.2.2.1 hb
    have ri := rc_i L P G.2.2.2.2.1.2.2.1 hb
    have ng := neg_i rb
    obtain ⟨t1, t2, t3, t4⟩ := L.1.te hb
    by_cases h : rf_hangs T b = true
    · obtain ⟨s, hs, es⟩ := S (tlv T b) (hdv T b) (nI b) t3 (Or.inr ⟨t4, b, hb, rfl, h, Or.inl ⟨t1, t2⟩⟩)
      rw [rc_tree L P G.2.2.2.2.1.2.2.1 hb hs es, Int.zero_mul]
      omega
    · have nh := Bool.eq_false_iff.mpr h
      have po := ph_off L hb nh
      obtain ⟨v3, f0, f1⟩ := G.2.2.2.1 b hb
      have off := hR b hb
      have sgn : ∀ z : Int32, (z < 0) ↔ (z.toInt < 0) := fun z => by rw [Int32.lt_iff_toInt_lt, z_ti]
      have sgl : ∀ z : Int32, (z ≤ 0) ↔ (z.toInt ≤ 0) := fun z => by rw [Int32.le_iff_toInt_le, z_ti]
      have sge : ∀ z : Int32, (0 ≤ z) ↔ (0 ≤ z.toInt) := fun z => by rw [Int32.le_iff_toInt_le, z_ti]
      unfold rf_off rf_far at off
      rw [ri] at ng
      have big : ∀ u w : Int, 0 ≤ u → u ≤ R → 0 ≤ w → w ≤ 800 → u * w ≤ 800 * R := fun u w a1 a2 a3 a4 => by
        have m1 : u * w ≤ u * 800 := Int.mul_le_mul_of_nonneg_left a4 a1
        omega
      have neg : ∀ u w : Int, u ≤ 0 → 0 ≤ w → u * w ≤ 800 * R := fun u w a1 a2 => by
        have := Int.mul_nonpos_of_nonpos_of_nonneg a1 a2
        omega
      have emp : rm T b 5 = 0 → rm T b 6 = 0 → rcI T b * (phA T n b - phA T2 n b) ≤ 800 * R := by
        intro e5 e6
        rw [f0 e5, z_ti] at po
        have e : rcI T b * (phA T n b - phA T2 n b) = -rcI T b * phA T2 n b := by
          rw [po]
          grind
        rw [e]
        by_cases c1 : 0 ≤ rcI T b
        · exact neg _ _ (by omega) i2.1
        · by_cases c2 : (rm T b 2).toInt ≤ 0
          · rw [show phA T2 n b = 0 by omega]
            omega
          · have a1 : rf_red T b < 0 := (sgn _).mpr (by rw [ri]; omega)
            have a2 : ¬ rm T b 2 ≤ 0 := fun z => c2 ((sgl _).mp z)
            have a3 : ¬ 0 ≤ rf_red T b := fun z => c1 (by rw [← ri]; exact (sge _).mp z)
            simp only [e5, e6, a1, a2, a3, decide_true, decide_false, Bool.not_false, Bool.true_and, Bool.true_or, if_false, true_implies] at off
            rw [ng] at off
            exact big _ _ (by omega) off i2.1 (by omega)
      rcases ST b hb with ⟨e6, e5⟩ | ⟨e6, e5⟩
      · obtain ⟨j, hj, ej⟩ := vi_nI e5
        have c01 : ∀ j, j < 3 → (j = 0 ∧ nI j = 0) ∨ (j = 1 ∧ nI j = 1) ∨ (j = 2 ∧ nI j = 2) := by decide
        rcases c01 j hj with ⟨-, j0⟩ | ⟨-, j1⟩ | ⟨-, j2⟩
        · exact emp (ej.trans j0) e6
        · have e51 := ej.trans j1
          rw [f1 e51] at po
          by_cases c1 : rcI T b ≤ 0
          · exact neg _ _ c1 (by omega)
          · by_cases c2 : (rm T b 2).toInt ≤ 0
            · rw [show phA T n b - phA T2 n b = 0 by omega]
              omega
            · have a1 : ¬ rf_red T b ≤ 0 := fun z => c1 (by rw [← ri]; exact (sgl _).mp z)
              have a2 : ¬ rm T b 2 ≤ 0 := fun z => c2 ((sgl _).mp z)
              have a3 : 0 ≤ rf_red T b := (sge _).mpr (by rw [ri]; omega)
              simp only [e51, e6, a1, a2, a3, decide_true, decide_false, Bool.not_false, Bool.true_and, Bool.or_true, if_true, true_implies] at off
              rw [ri] at off
              exact big _ _ (by omega) off (by omega) (by omega)
        · unfold rf_hangs at nh
          rw [ej, j2] at nh
          cases nh
      · -- blocked: nothing flows, nor will
        have z1 : phA T n b = 0 := by
          rw [po, f0 e5, z_ti]
          rfl
        have z2 : phA T2 n b = 0 := by
          have e62 : rm T2 b 6 = 1 := by rw [(D.1 b hb).2.2.2.2]; exact e6
          rcases Y.2.2.2.2.2.2.2.1 b hb with ⟨q, -⟩ | ⟨-, q⟩
          · rw [e62] at q
            exact absurd q (by decide)
          · have nh2 : rf_hangs T2 b = false := by
              unfold rf_hangs
              rw [q]
              rfl
            rw [ph_off Y.1 hb nh2, (Y.2.2.1.2.2.2.1 b hb).2.1 q, z_ti]
            rfl
        rw [z1, z2]
        omega
  have s := fs_le k one
  have c : ∀ m : Nat, fs (fun _ => 800 * R) m = (m : Int) * (800 * R) := by
    intro m
    induction m with
    | zero =>
      rw [fs]
      omega
    | succ m ih =>
      rw [fs, ih]
      grind
  rw [c] at s
  have : (k : Int) * (800 * R) ≤ 14 * (800 * R) := Int.mul_le_mul_of_nonneg_right (by omega) (by omega)
  omega
end VPG
