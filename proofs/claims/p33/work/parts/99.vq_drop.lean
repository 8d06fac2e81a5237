/-! ===== a pivot lowers what all costs by how far the arc is from 0 ===== -/
section VQD
variable {T T2 : LH} {n k M M2 : Nat}
theorem piv_drop (X : SX T n k M) (Y : SX T2 n k M2) (D : SD T T2 n k) {a x y mm : Nat} (ha : a < k) (hx : x < n) (hy : y < n) (ho : rf_off T a = true) (ex : (if rm T a 5 = 0 then rm T a 0 else rm T a 1) = nI x) (ey : (if rm T a 5 = 0 then rm T a 1 else rm T a 0) = nI y) (hm : mm < lc_n T x y) (er : rr (lc T a x y) mm = rlr (lc T a x y) (lc_n T x y) 0 1000000) (eT : T2.1 271 = (tn5 T a x y mm).1 271) : (rf_far T a).toInt ≤ cst T n k - cst T2 n k ∧ 1 ≤ (rf_far T a).toInt := by
  obtain ⟨L, P, G, S, K, SF, NL, ST, hM⟩ := id X
  have n7 := L.1.1.2.1
  have k14 := L.1.1.2.2
  have xn := Nat.le_of_lt hx
  have yn := Nat.le_of_lt hy
  obtain ⟨-, Cp, Rs, Fb, Ag, Db, Gn⟩ := id G
  obtain ⟨dl, hdl, edl, all⟩ := lc_dl L Ag Db hM ha xn yn hm er
  obtain ⟨h1, h2, h3, kx, fl⟩ := tn5_hang L G hM ha hx hy ho ex ey hm er eT
  have fla : ∀ c, c < k → rm T2 c 4 = rm (tn3 T a x y) c 4 := fun c hc => fl _ (Or.inr ⟨c, by omega, rfl⟩)
  have nha : rf_hangs T a = false := by
    unfold rf_hangs
    rcases off_w ho with w | w <;> rw [w] <;> rfl
  have only : ∀ b, b < k → b ≠ a → rcI T b * (phA T n b - phA T2 n b) = 0 := by
    intro b hb ba
    by_cases h : rf_hangs T b = true
    · obtain ⟨t1, t2, t3, t4⟩ := L.1.te hb
      obtain ⟨s, hs, es⟩ := S (tlv T b) (hdv T b) (nI b) t3 (Or.inr ⟨t4, b, hb, rfl, h, Or.inl ⟨t1, t2⟩⟩)
      rw [rc_tree L P Ag.2.2.1 hb hs es, Int.zero_mul]
    · have nh2 : rf_hangs T2 b = false := by
        cases e : rf_hangs T2 b with
        | false => rfl
        | true => exact absurd ((h1 b hb ba).mp e).1 h
      have fx1 := tn3_off L (a := a) (x := x) (y := y) (id := nI b) ha xn yn (Or.inl ⟨b, hb, rfl⟩) (fun i hi z => h (lc_hang L ha xn yn hi hb z ba))
      rw [fx_a (by omega)] at fx1
      rw [ph_off L hb (Bool.eq_false_iff.mpr h), ph_off Y.1 hb nh2, fla b hb, show rm (tn3 T a x y) b 4 = rm T b 4 from fx1, Int.sub_self, Int.mul_zero]
  have e := gap_eq X Y D
  rw [fs_pick (q := a) ha only] at e
  rw [e]
  have po := ph_off L ha nha
  have rb := red_bd L P Ag.2.2.1 ha
  have ri := rc_i L P Ag.2.2.1 ha
  have ng := neg_i rb
  rw [ri] at ng
  obtain ⟨v3, f0, f1⟩ := Fb a ha
  have i2 := ph_all Y ha
  rw [(D.1 a ha).2.2.1] at i2
  have al := lc_al (g := T) (a := a) (x := x) (y := y) (by omega)
  have bpos : 0 < (rm T a 2).toInt := by
    have w : ¬ rm T a 2 ≤ 0 := by
      intro w
      unfold rf_off at ho
      rw [decide_eq_true w] at ho
      simp at ho
    rw [Int32.not_le, Int32.lt_iff_toInt_lt, z_ti] at w
    exact w
  -- strictly inside, or over to the other bound
  have fin : (rm T a 5 = 0 → 1 ≤ phA T2 n a) ∧ (rm T a 5 = 1 → phA T2 n a ≤ 8 * (rm T a 2).toInt - 1) := by
    by_cases h : rf_hangs T2 a = true
    · obtain ⟨t1, t2, t3, t4⟩ := Y.1.1.te ha
      obtain ⟨s, hs, es⟩ := Y.2.2.2.1 (tlv T2 a) (hdv T2 a) (nI a) t3 (Or.inr ⟨t4, a, ha, rfl, h, Or.inl ⟨t1, t2⟩⟩)
      have := ph_in Y.1 Y.2.2.1 Y.2.2.2.2.2.1 ha hs es
      rw [(D.1 a ha).2.2.1] at this
      exact ⟨fun _ => this.1, fun _ => this.2⟩
    · have out : (lc T a x y).1 285 mm = nI a := Classical.byContradiction fun z => h (h2.mpr z)
      have nh2 : rf_hangs T2 a = false := Bool.eq_false_iff.mpr h
      obtain ⟨v, bd, q1, q2, q3, q4, q5, q6, q7⟩ := tn3_ab L Ag Db hM ha xn yn ho edl all ha hm out
      rw [er, edl] at q5
      have q8 := (nI_eq (by omega) (by split <;> omega)).mp q5
      have mI : mm = df T x - df T (lc_z T x y) := lc_inj L ha xn yn ho hm (by unfold lc_n; omega) (out.trans lc_at.symm)
      rw [← mI] at al
      rw [ph_off Y.1 ha nh2, fla a ha, q7]
      have tb : (nI bd).toInt = (bd : Int) := nI_toInt (by omega)
      rw [q4, tb] at bpos ⊢
      constructor
      · intro w
        rw [if_pos w] at ex
        rw [decide_eq_true ex] at al
        rw [al, if_neg (by decide)] at q8 ⊢
        rw [nI_toInt (by omega)]
        omega
      · intro w
        rw [if_neg (by rw [w]; decide)] at ex
        rw [decide_eq_false (fun q => Ag.1 a ha (q.trans ex.symm))] at al
        rw [al, if_pos (by decide)] at q8 ⊢
        rw [nI_toInt (by omega)]
        omega
  rcases off_w ho with w | w
  · rw [f0 w, z_ti] at po
    have neg : rf_red T a < 0 := by
      unfold rf_off at ho
      simp [w] at ho
      exact ho.2.2
    have neg2 : rcI T a < 0 := by
      rw [Int32.lt_iff_toInt_lt, z_ti, ri] at neg
      exact neg
    have ef : (rf_far T a).toInt = -rcI T a := by
      unfold rf_far
      rw [if_neg (Int32.not_le.mpr neg), ng]
    have p1 := fin.1 w
    have e2 : rcI T a * (phA T n a - phA T2 n a) = -rcI T a * phA T2 n a := by
      rw [po]
      grind
    rw [ef, e2]
    have m : -rcI T a * 1 ≤ -rcI T a * phA T2 n a := Int.mul_le_mul_of_nonneg_left p1 (by omega)
    omega
  · rw [f1 w] at po
    have pos : ¬ rf_red T a ≤ 0 := by
      unfold rf_off at ho
      simp [w] at ho
      exact Int32.not_le.mpr ho.2.2
    have pos2 : 0 < rcI T a := by
      rw [Int32.not_le, Int32.lt_iff_toInt_lt, z_ti, ri] at pos
      exact pos
    have ef : (rf_far T a).toInt = rcI T a := by
      unfold rf_far
      rw [if_pos (Int32.le_of_lt (Int32.not_le.mp pos)), ri]
    have p1 := fin.2 w
    rw [ef]
    have m : rcI T a * 1 ≤ rcI T a * (phA T n a - phA T2 n a) := Int.mul_le_mul_of_nonneg_left (show (1 : Int) ≤ phA T n a - phA T2 n a by omega) (by omega)
    omega
end VQD
