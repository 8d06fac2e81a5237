/-! ===== REDUCED as a number; the steepest ===== -/
section VOS
variable {T : LH} {n k M : Nat}
def rcI (T : LH) (b : Nat) : Int := (rm T b 3).toInt + (T.1 284 (tlv T b)).toInt - (T.1 284 (hdv T b)).toInt
theorem rc_i (L : LT T n k) (P : PR T n k) (A : ∀ a, a < k → ∃ c, c ≤ 198 ∧ rm T a 3 + 99 = nI c) {a : Nat} (ha : a < k) : (rf_red T a).toInt = rcI T a := by
  have k14 := L.1.1.2.2
  have n7 := L.1.1.2.1
  obtain ⟨t1, t2, t3, t4⟩ := L.1.te ha
  obtain ⟨c, hc, ec⟩ := A a ha
  have cb := v99 hc ec
  have b1 := pr_bd P L A 7 (tlv T a) (Nat.le_of_lt t3) ((L.at t3).2.2.2.1)
  have b2 := pr_bd P L A 7 (hdv T a) (Nat.le_of_lt t4) ((L.at t4).2.2.2.1)
  unfold rf_red rcI
  rw [t1, t2, nI_clamp (by omega), nI_clamp (by omega)]
  have s1 := tia (x := rm T a 3) (y := T.1 284 (tlv T a)) (by omega) (by omega)
  rw [tis (by omega) (by omega), s1]
theorem rc_tree (L : LT T n k) (P : PR T n k) (A : ∀ a, a < k → ∃ c, c ≤ 198 ∧ rm T a 3 + 99 = nI c) {b c : Nat} (hb : b < k) (hc : c < n) (e : T.1 282 c = nI b) : rcI T b = 0 := by
  have k14 := L.1.1.2.2
  have n7 := L.1.1.2.1
  obtain ⟨t1, t2, t3, t4⟩ := L.1.te hb
  rw [← rc_i L P A hb]
  have z : rf_red T b = 0 := by
    rcases P.at L hc with ⟨-, e2, -⟩ | ⟨hu, -, a, ha, e2, en⟩
    · have := (nI_eq (by omega) (by omega)).mp (e2.symm.trans e)
      omega
    · have : a = b := (nI_eq (by omega) (by omega)).mp (e2.symm.trans e)
      subst this
      unfold rf_red
      rcases en with ⟨m1, m2, pr⟩ | ⟨m1, m2, pr⟩
      · rw [m1, m2, nI_clamp (by omega), nI_clamp (by omega), pr]
        grind
      · rw [m1, m2, nI_clamp (by omega), nI_clamp (by omega), pr]
        grind
  rw [z]
  rfl
theorem loan_pr (L : LT T n k) (P : PR T n k) (W : ∀ p, p < n → T.1 271 (58 + p) = 1 ∨ T.1 271 (58 + p) = -1) {p : Nat} (hp : p < n) (e : T.1 282 p = nI (100 + p)) : (T.1 284 p).toInt + 10000 * (T.1 271 (58 + p)).toInt = 0 := by
  have k14 := L.1.1.2.2
  have n7 := L.1.1.2.1
  rcases P.at L hp with ⟨-, -, pr⟩ | ⟨hu, -, a, ha, e2, -⟩
  · rw [pr]
    rcases W p hp with w | w
    · rw [w, if_pos rfl]
      rfl
    · rw [w, if_neg (by decide)]
      rfl
  · have := (nI_eq (by omega) (by omega)).mp (e2.symm.trans e)
    omega
/-- by the steep rule the one that enters is the furthest -/
theorem en_steep (ru : T.1 271 2 = 1) (hk : k ≤ 14) : ∀ (f i : Nat) (best : Int32), i + f = k → (best = -1 ∨ ∃ a, a < k ∧ best = nI a) → (∀ j, j < i → rf_off T j = true → ∃ a, a < k ∧ best = nI a ∧ rf_far T j ≤ rf_far T a) → ∀ a, a < k → en_f T k f i best = nI a → ∀ j, j < k → rf_off T j = true → rf_far T j ≤ rf_far T a
  | 0, i, best, hi, hb, inv => by
    intro a ha e j hj o
    rw [en_f] at e
    obtain ⟨a2, ha2, e2, l⟩ := inv j (by omega) o
    have : a2 = a := (nI_eq (by omega) (by omega)).mp (e2.symm.trans e)
    rw [← this]
    exact l
  | f + 1, i, best, hi, hb, inv => by
    intro a ha e
    have ea : en_a T k i = nI i := by
      unfold en_a
      rw [if_neg (by rw [ru]; decide)]
    rw [en_f, ea, nI_clamp (by omega), if_pos ru] at e
    refine en_steep ru hk f (i + 1) _ (by omega) ?_ ?_ a ha e
    · split
      · split
        · exact Or.inr ⟨i, by omega, rfl⟩
        · split
          · exact hb
          · exact Or.inr ⟨i, by omega, rfl⟩
      · exact hb
    · intro j hj o
      by_cases ji : j = i
      · subst ji
        rw [if_pos o]
        by_cases b1 : best = -1
        · rw [if_pos b1]
          exact ⟨j, by omega, rfl, Int32.le_refl _⟩
        · rw [if_neg b1]
          obtain ⟨a2, ha2, e2⟩ := hb.resolve_left b1
          rw [e2, nI_clamp (by omega)]
          by_cases c : rf_far T j ≤ rf_far T a2
          · rw [if_pos c]
            exact ⟨a2, ha2, rfl, c⟩
          · rw [if_neg c]
            exact ⟨j, by omega, rfl, Int32.le_refl _⟩
      · obtain ⟨a2, ha2, e2, l⟩ := inv j (by omega) o
        by_cases oi : rf_off T i = true
        · rw [if_pos oi, if_neg (by rw [e2]; exact nI_neg1 (by omega)), e2, nI_clamp (by omega)]
          by_cases c : rf_far T i ≤ rf_far T a2
          · rw [if_pos c]
            exact ⟨a2, ha2, rfl, l⟩
          · rw [if_neg c]
            exact ⟨i, by omega, rfl, Int32.le_trans l (Int32.le_of_lt (Int32.not_le.mp c))⟩
        · rw [if_neg oi]
          exact ⟨a2, ha2, e2, l⟩
end VOS
