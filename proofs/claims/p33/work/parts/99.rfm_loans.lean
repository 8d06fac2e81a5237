/-! ===== a loan that doesn't hang owes nothing ===== -/
section VLS
variable {T T2 g : LH} {n k M : Nat}
def NLT (T : LH) (n : Nat) : Prop := ∀ p, p < n → T.1 271 (51 + p) ≠ 1 → T.1 271 (65 + p) = 0
theorem nl_piv (L : LT T n k) (GT : GI T n k M) (hM : M ≤ 20000000) {a x y mm : Nat} (ha : a < k) (hx : x < n) (hy : y < n) (ho : rf_off T a = true) (ex : (if rm T a 5 = 0 then rm T a 0 else rm T a 1) = nI x) (ey : (if rm T a 5 = 0 then rm T a 1 else rm T a 0) = nI y) (hm : mm < lc_n T x y) (er : rr (lc T a x y) mm = rlr (lc T a x y) (lc_n T x y) 0 1000000) (NL : NLT T n) (eT : T2.1 271 = (tn5 T a x y mm).1 271) : NLT T2 n := by
  have n7 := L.1.1.2.1
  have k14 := L.1.1.2.2
  have xn := Nat.le_of_lt hx
  have yn := Nat.le_of_lt hy
  obtain ⟨-, Cp, Rs, Fb, Ag, Db, Gn⟩ := id GT
  obtain ⟨dl, hdl, edl, all⟩ := lc_dl L Ag Db hM ha xn yn hm er
  obtain ⟨h1, h2, h3, kx, fl⟩ := tn5_hang L GT hM ha hx hy ho ex ey hm er eT
  intro p hp no
  rw [fl _ (Or.inl (by omega))]
  by_cases out : (lc T a x y).1 285 mm = nI (100 + p)
  · obtain ⟨v, q1, q2, q3, q4, q5⟩ := tn3_pb L Ag Db hM ha xn yn ho hdl edl all hp hm out
    rw [er, edl] at q3
    have q6 := (nI_eq (by omega) (by split <;> omega)).mp q3
    rw [q5]
    by_cases c : (lc T a x y).1 286 mm = 0
    · rw [if_pos c] at q6 ⊢
      rw [q6, Nat.sub_self]
      rfl
    · rw [if_neg c] at q6
      omega
  · have ln : T.1 271 (51 + p) ≠ 1 := fun z => no ((h3 p hp).mpr ⟨z, out⟩)
    have fx1 := tn3_off L (a := a) (x := x) (y := y) (id := nI (100 + p)) ha xn yn (Or.inr ⟨p, hp, rfl⟩) (fun i hi z => ln (lc_lent L ha xn yn hi hp z))
    rw [fx_p (by omega)] at fx1
    rw [fx1]
    exact NL p hp ln
theorem nl_beg (B : BI g n k) (w : Int32) : NLT (bgn g n k w) n := by
  have hn := B.1.1
  have F1 := ba_fb (w := w) k 0 g (by omega)
  have B1 : BI (ba w k 0 g) n k := B.fb F1
  have E1 := ba_ef (w := w) k 0 g (by omega) (fun b hb => B.2.2.2.2.1 b (by omega)) (fun b hb => absurd hb (by omega))
  rw [Nat.zero_add] at E1
  have fl : ∀ a, a < k → ∃ v, v < 100 ∧ rm (ba w k 0 g) a 4 = nI v := by
    intro a ha
    rcases E1 a ha with ⟨-, z⟩ | ⟨-, z⟩
    · exact ⟨0, by omega, z⟩
    · rw [z]
      exact vi_nI (B1.2.2.2.2.1 a ha)
  obtain ⟨k1, -⟩ := bp_ok (k := k) n 0 (ba w k 0 g) (by omega) hn.2.2 fl (fun q hq => B1.2.2.2.2.2.2 q (by omega)) (fun q hq => absurd hq (by omega))
  intro p hp no
  exact absurd (k1 p (by omega)).1 no
/-- a loan that never hung again: once out, out -/
theorem lent_mono (L : LT T n k) (GT : GI T n k M) (hM : M ≤ 20000000) {a x y mm : Nat} (ha : a < k) (hx : x < n) (hy : y < n) (ho : rf_off T a = true) (ex : (if rm T a 5 = 0 then rm T a 0 else rm T a 1) = nI x) (ey : (if rm T a 5 = 0 then rm T a 1 else rm T a 0) = nI y) (hm : mm < lc_n T x y) (er : rr (lc T a x y) mm = rlr (lc T a x y) (lc_n T x y) 0 1000000) (eT : T2.1 271 = (tn5 T a x y mm).1 271) {p : Nat} (hp : p < n) (z : T2.1 271 (51 + p) = 1) : T.1 271 (51 + p) = 1 := ((tn5_hang L GT hM ha hx hy ho ex ey hm er eT).2.2.1 p hp).mp z |>.1
end VLS
