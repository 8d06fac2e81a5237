/-! ===== numbers are 99 at most; the rule's word ===== -/
theorem px_dig {x : Int32} (h : px_kd x = 2) : ∃ m, 48 ≤ m ∧ m ≤ 57 ∧ x = nI m := by
  have n1 : ¬ rf_in x 97 122 = true := fun z => by
    rw [(px_kd1 x).mp z] at h
    exact absurd h (by decide)
  have z := (px_kd2 n1).mpr h
  unfold rf_in at z
  simp only [Bool.and_eq_true, Bool.not_eq_true', decide_eq_false_iff_not] at z
  exact wt_in (lo := 48) (hi := 57) z.1 (Int32.not_lt.mp z.2) (by decide) (by decide)
theorem px_t2 {c : Nat → Int32} {l p : Nat} (h : px_t c l p = 2) : px_k c l p = 2 ∧ px_e c l p - p ≤ 2 := by
  unfold px_t at h
  split at h
  · exact absurd h (by decide)
  · rename_i z
    exact ⟨h, Nat.not_lt.mp fun y => z ⟨h, y⟩⟩
theorem px_n1 : ∀ m, m < 10 → ((0 * 10 : Int32) + nI (48 + m)) - 48 = nI m := by decide +kernel
theorem px_n2 : ∀ m, m < 10 → ∀ k, k < 10 → (nI m * 10 + nI (48 + k)) - 48 = nI (10 * m + k) := by decide +kernel
/-- a number is 99 at most -/
theorem px_num99 {c : Nat → Int32} {l p : Nat} (h : px_t c l p = 2) : ∃ m, m ≤ 99 ∧ px_num c l p = nI m := by
  obtain ⟨hk, h2⟩ := px_t2 h
  have he : px_e c l p = px_rn c 2 (l - p) p := by
    unfold px_e
    rw [if_pos (Or.inr hk), hk]
  have dg : ∀ j, p ≤ j → j < px_e c l p → ∃ m, m < 10 ∧ c j = nI (48 + m) := fun j h1 h3 => by
    obtain ⟨m, a, b, e⟩ := px_dig (px_rn_in (c := c) (k := 2) (l - p) p j h1 (by omega))
    exact ⟨m - 48, by omega, by rw [e]; congr 1; omega⟩
  unfold px_num
  generalize hn : px_e c l p - p = n at h2
  match n, h2, hn with
  | 0, _, _ => exact ⟨0, by omega, rfl⟩
  | 1, _, hn =>
    obtain ⟨m, m1, e⟩ := dg p (Nat.le_refl _) (by omega)
    refine ⟨m, by omega, ?_⟩
    rw [px_nm, px_nm, e]
    exact px_n1 m m1
  | 2, _, hn =>
    obtain ⟨m, m1, e⟩ := dg p (Nat.le_refl _) (by omega)
    obtain ⟨k, k1, e2⟩ := dg (p + 1) (by omega) (by omega)
    refine ⟨10 * m + k, by omega, ?_⟩
    rw [px_nm, px_nm, px_nm, e, e2, px_n1 m m1]
    exact px_n2 m m1 k k1
theorem lg_0 (v w : Int64) : lg_cmp v w = 0 ↔ v = w := by
  unfold lg_cmp
  split
  · rename_i h
    constructor
    · intro q
      exact absurd q (by decide)
    · intro q
      subst q
      exact (Int64.lt_irrefl h).elim
  · split
    · rename_i h
      exact ⟨fun _ => h, fun _ => rfl⟩
    · rename_i h
      exact ⟨fun q => absurd q (by decide), fun q => absurd q h⟩
section RX4
variable {h g : LH} {d : Nat}
/-- the rule that a word tells: -1, none -/
def px_ru (w : Int64) : Int32 := if w = px_W.getD 6 0 then 0 else if w = px_W.getD 7 0 then 1 else if w = px_W.getD 8 0 then 2 else -1
theorem sx_ruleBy (w : Int64) : tf_Rt (d + 1) 17 [.long w] h (.int (px_ru w)) h := by
  intro Q q
  unfold px_ru at q
  refine en_X9_ruleBy (by decide) (go_X9_ruleBy_0 (by decide) ⟨fun z => go_X9_ruleBy_37 (by decide) ?_, fun z => go_X9_ruleBy_12 (by decide) ⟨fun z2 => go_X9_ruleBy_37 (by decide) ?_, fun z2 => go_X9_ruleBy_24 (by decide) ⟨fun z3 => go_X9_ruleBy_37 (by decide) ?_, fun z3 => go_X9_ruleBy_36 (by decide) (go_X9_ruleBy_37 (by decide) ?_)⟩⟩⟩)
  · rw [if_pos (show w = px_W.getD 6 0 from (lg_0 _ _).mp z)] at q
    exact q
  · rw [if_neg (show ¬ w = px_W.getD 6 0 from fun y => z ((lg_0 _ _).mpr y)), if_pos (show w = px_W.getD 7 0 from (lg_0 _ _).mp z2)] at q
    exact q
  · rw [if_neg (show ¬ w = px_W.getD 6 0 from fun y => z ((lg_0 _ _).mpr y)), if_neg (show ¬ w = px_W.getD 7 0 from fun y => z2 ((lg_0 _ _).mpr y)), if_pos (show w = px_W.getD 8 0 from (lg_0 _ _).mp z3)] at q
    exact q
  · rw [if_neg (show ¬ w = px_W.getD 6 0 from fun y => z ((lg_0 _ _).mpr y)), if_neg (show ¬ w = px_W.getD 7 0 from fun y => z2 ((lg_0 _ _).mpr y)), if_neg (show ¬ w = px_W.getD 8 0 from fun y => z3 ((lg_0 _ _).mpr y))] at q
    exact q
end RX4
