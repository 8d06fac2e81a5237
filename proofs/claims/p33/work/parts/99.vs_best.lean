/-! ===== where nothing offers, it is the least; or there is no plan ===== -/
section VSB
variable {T : LH} {n k M : Nat}
/-- a price is far from 0 -/
theorem pr_far (L : LT T n k) (P : PR T n k) (A : ∀ a, a < k → ∃ c, c ≤ 198 ∧ rm T a 3 + 99 = nI c) : ∀ (d p : Nat), p < n → df T p ≤ d + 1 → d ≤ 6 → (T.1 284 p).toInt ≤ -10000 + 99 * (d : Int) ∨ 10000 - 99 * (d : Int) ≤ (T.1 284 p).toInt := by
  intro d
  induction d with
  | zero =>
    intro p hp hd _
    rcases P.at L hp with ⟨-, -, pr⟩ | ⟨hu, -, -⟩
    · rw [pr]
      by_cases w : T.1 271 (58 + p) = 1
      · rw [if_pos w, show (-10000 : Int32).toInt = -10000 from rfl]
        omega
      · rw [if_neg w, show (10000 : Int32).toInt = 10000 from rfl]
        omega
    · have u := L.up hp
      have u2 := L.up hu
      omega
  | succ d ih =>
    intro p hp hd hd6
    rcases P.at L hp with ⟨-, -, pr⟩ | ⟨hu, -, a, ha, -, en⟩
    · rw [pr]
      by_cases w : T.1 271 (58 + p) = 1
      · rw [if_pos w, show (-10000 : Int32).toInt = -10000 from rfl]
        omega
      · rw [if_neg w, show (10000 : Int32).toInt = 10000 from rfl]
        omega
    · have u := L.up hp
      have i := ih (uf T p) hu (by omega) (by omega)
      have bd := pr_bd P L A 7 (uf T p) (Nat.le_of_lt hu) ((L.at hu).2.2.2.1)
      obtain ⟨c, hc, ec⟩ := A a ha
      have cb := v99 hc ec
      rcases en with ⟨-, -, pr⟩ | ⟨-, -, pr⟩
      · rw [pr, tia (by omega) (by omega)]
        omega
      · rw [pr, tis (by omega) (by omega)]
        omega
/-- bounds, as numbers -/
def capJ (T : LH) (b : Nat) : Int := (capI T b).toInt
/-- REDUCED shows the way: room means not below 0, something that flows means not above -/
theorem best_rc (X : SX T n k M) (best : ∀ b, b < k → rf_off T b = false) {b : Nat} (hb : b < k) : (0 ≤ (rm T b 4).toInt ∧ (rm T b 4).toInt ≤ capJ T b) ∧ ((rm T b 4).toInt < capJ T b → 0 ≤ rcI T b) ∧ (0 < (rm T b 4).toInt → rcI T b ≤ 0) := by
  obtain ⟨L, P, G, S, K, SF, NL, ST, hM⟩ := id X
  have n7 := L.1.1.2.1
  have k14 := L.1.1.2.2
  obtain ⟨v, bd, q1, q2, q3, q4⟩ := G.2.2.2.2.1.2.1 b hb
  have ri := rc_i L P G.2.2.2.2.1.2.2.1 hb
  obtain ⟨v3, f0, f1⟩ := G.2.2.2.1 b hb
  have off := best b hb
  have vi : (nI v).toInt = (v : Int) := nI_toInt (by omega)
  have bi : (nI bd).toInt = (bd : Int) := nI_toInt (by omega)
  unfold capJ capI
  rcases ST b hb with ⟨e6, e5⟩ | ⟨e6, e5⟩
  · have n61 : ¬ rm T b 6 = 1 := by rw [e6]; decide
    rw [if_neg n61, q3, q4, vi, bi]
    refine ⟨by omega, ?_⟩
    by_cases h : rf_hangs T b = true
    · obtain ⟨t1, t2, t3, t4⟩ := L.1.te hb
      obtain ⟨s, hs, es⟩ := S (tlv T b) (hdv T b) (nI b) t3 (Or.inr ⟨t4, b, hb, rfl, h, Or.inl ⟨t1, t2⟩⟩)
      rw [rc_tree L P G.2.2.2.2.1.2.2.1 hb hs es]
      exact ⟨fun _ => by omega, fun _ => by omega⟩
    · obtain ⟨j, hj, ej⟩ := vi_nI e5
      have c01 : ∀ j, j < 3 → (j = 0 ∧ nI j = 0) ∨ (j = 1 ∧ nI j = 1) ∨ (j = 2 ∧ nI j = 2) := by decide
      have bp : 0 < bd → ¬ rm T b 2 ≤ 0 := fun z => by rw [q4]; exact nI_nle z (by omega)
      rcases c01 j hj with ⟨-, j0⟩ | ⟨-, j1⟩ | ⟨-, j2⟩
      · have e50 := ej.trans j0
        have v0 : v = 0 := (nI_eq (b := 0) (by omega) (by omega)).mp (q3.symm.trans (f0 e50))
        refine ⟨fun z => ?_, fun z => by omega⟩
        have b2 := bp (by omega)
        unfold rf_off at off
        simp [e50, e6, b2] at off
        have := Int32.le_iff_toInt_le.mp off
        rw [z_ti, ri] at this
        exact this
      · have e51 := ej.trans j1
        have v0 : v = bd := (nI_eq (by omega) (by omega)).mp (q3.symm.trans ((f1 e51).trans q4))
        refine ⟨fun z => by omega, fun z => ?_⟩
        have b2 := bp (by omega)
        unfold rf_off at off
        simp [e51, e6, b2] at off
        have := Int32.le_iff_toInt_le.mp off
        rw [z_ti, ri] at this
        exact this
      · exact absurd (by unfold rf_hangs; rw [ej, j2]; rfl) h
  · rw [if_pos e6, f0 e5, z_ti]
    exact ⟨by omega, fun z => by omega, fun z => by omega⟩
theorem best_lv (X : SX T n k M) (best : ∀ b, b < k → rf_off T b = false) (all : ∀ p, p < n → T.1 271 (65 + p) = 0) : LVs (tlv T) (hdv T) (capJ T) (fun b => (rm T b 3).toInt) (fun p => (T.1 271 (44 + p)).toInt) n k (fs (fun b => (rm T b 3).toInt * (rm T b 4).toInt) k) := by
  obtain ⟨L, P, G, S, K, SF, NL, ST, hM⟩ := id X
  refine lv_opt (P := fun p => (T.1 284 p).toInt) (f := fun b => (rm T b 4).toInt) (fun b hb => ⟨(L.1.te hb).2.2.1, (L.1.te hb).2.2.2⟩) ⟨fun b hb => (best_rc X best hb).1, fun p hp => ?_⟩ (fun b hb => (best_rc X best hb).2)
  have := (cons_int G hM K hp).1
  rw [all p hp, z_ti, Int.mul_zero, Int.add_zero] at this
  exact this.symm
theorem best_no (X : SX T n k M) (best : ∀ b, b < k → rf_off T b = false) (ex : ∃ p, p < n ∧ T.1 271 (65 + p) ≠ 0) : LVs (tlv T) (hdv T) (capJ T) (fun b => (rm T b 3).toInt) (fun p => (T.1 271 (44 + p)).toInt) n k (-1000000) := by
  obtain ⟨L, P, G, S, K, SF, NL, ST, hM⟩ := id X
  have n7 := L.1.1.2.1
  have k14 := L.1.1.2.2
  obtain ⟨q, hq, q1⟩ := ex
  have far : ∀ p, p < n → (T.1 284 p).toInt ≤ -9406 ∨ 9406 ≤ (T.1 284 p).toInt := fun p hp => by
    have := pr_far L P G.2.2.2.2.1.2.2.1 6 p hp ((L.at hp).2.2.2.1) (by omega)
    omega
  -- a loan that owes hangs its point
  have loan : ∀ p, p < n → T.1 271 (65 + p) ≠ 0 → (T.1 284 p).toInt + 10000 * (T.1 271 (58 + p)).toInt = 0 := by
    intro p hp h
    have ln : T.1 271 (51 + p) = 1 := Classical.byContradiction fun z => h (NL p hp z)
    obtain ⟨s, hs, es⟩ := S p n _ hp (Or.inl ⟨rfl, rfl, ln⟩)
    have sp : s = p := by
      rcases (L.at hs).2.2.2.2.2 with ⟨-, e, -⟩ | ⟨-, b, hb, e, -, -⟩
      · have := (nI_eq (by omega) (by omega)).mp (e.symm.trans es)
        omega
      · have := (nI_eq (by omega) (by omega)).mp (e.symm.trans es)
        omega
    rw [sp] at es
    exact loan_pr L P X.ways hp es
  have term : ∀ p, p < n → (if (T.1 284 p).toInt < 0 then (-1 : Int) else 1) * (T.1 271 (44 + p)).toInt + (T.1 271 (65 + p)).toInt = (if (T.1 284 p).toInt < 0 then (-1 : Int) else 1) * dv (tlv T) (hdv T) (fun b => (rm T b 4).toInt) k p ∧ 0 ≤ (T.1 271 (65 + p)).toInt := by
    intro p hp
    obtain ⟨c1, c2, c3⟩ := cons_int G hM K hp
    refine ⟨?_, c2⟩
    rw [c1]
    by_cases h : T.1 271 (65 + p) = 0
    · rw [h, z_ti]
      grind
    · have l := loan p hp h
      rcases X.ways p hp with w | w
      · rw [w, one_ti] at l ⊢
        rw [if_pos (by omega)]
        grind
      · rw [w, show (-1 : Int32).toInt = -1 from rfl] at l ⊢
        rw [if_neg (by omega)]
        grind
  refine lv_no (P := fun p => if (T.1 284 p).toInt < 0 then (-1 : Int) else 1) (f := fun b => (rm T b 4).toInt) (fun b hb => ⟨(L.1.te hb).2.2.1, (L.1.te hb).2.2.2⟩) (fun b hb => (best_rc X best hb).1) (fun b hb => ?_) ?_
  · obtain ⟨-, r1, r2⟩ := best_rc X best hb
    obtain ⟨-, -, t3, t4⟩ := L.1.te hb
    have a1 := far _ t3
    have a2 := far _ t4
    obtain ⟨c, hc, ec⟩ := G.2.2.2.2.1.2.2.1 b hb
    have cb := v99 hc ec
    unfold rcI at r1 r2
    constructor
    · intro z
      have := r1 z
      show 0 ≤ (if (T.1 284 (tlv T b)).toInt < 0 then (-1 : Int) else 1) - (if (T.1 284 (hdv T b)).toInt < 0 then (-1 : Int) else 1)
      split <;> split <;> omega
    · intro z
      have := r2 z
      show (if (T.1 284 (tlv T b)).toInt < 0 then (-1 : Int) else 1) - (if (T.1 284 (hdv T b)).toInt < 0 then (-1 : Int) else 1) ≤ 0
      split <;> split <;> omega
  · have s := fs_lt (b := q) (f := fun p => (if (T.1 284 p).toInt < 0 then (-1 : Int) else 1) * (T.1 271 (44 + p)).toInt) (g := fun p => (if (T.1 284 p).toInt < 0 then (-1 : Int) else 1) * dv (tlv T) (hdv T) (fun b => (rm T b 4).toInt) k p) n (fun p hp => by
      have := term p hp
      omega) hq (by
      have := term q hq
      have : (T.1 271 (65 + q)).toInt ≠ 0 := fun z => q1 (ti_0 z)
      omega)
    omega
end VSB
