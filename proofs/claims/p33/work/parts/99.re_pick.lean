/-! ===== offers, and what enters: both sides alike ===== -/
section REP
variable {h g T : LH} {b n k : Nat}
/-- where arcs stand -/
def SRe (h : LH) (b : Nat) (r : LH) (k : Nat) : Prop := ∀ a, a < k → (rm r a 6 = 0 ∧ h.1 (b + 7) a = rm r a 5 ∧ vp_in (rm r a 5) 3) ∨ (rm r a 6 = 1 ∧ h.1 (b + 7) a = 3 ∧ rm r a 5 = 0)
/-- costs -/
def COe (h : LH) (b : Nat) (r : LH) (n k : Nat) : Prop := (∀ a, a < k → h.1 (b + 5) a = rm r a 3) ∧ ∀ p, p < n → h.1 (b + 5) (14 + p) = 10000
/-- prices -/
def PRe (h : LH) (b : Nat) (T : LH) (n : Nat) : Prop := h.1 (b + 10) 7 = 0 ∧ ∀ p, p < n → h.1 (b + 10) p = T.1 284 p
theorem red_eq (L : LT T n k) (E : TLe h b T n k) (C : COe h b T n k) (P : PRe h b T n) {a : Nat} (ha : a < k) : nt_red h b (nI a) = rf_red T a := by
  have k14 := L.1.1.2.2
  have n7 := L.1.1.2.1
  obtain ⟨p, q, hp, hq, ep, eq⟩ := L.1.ends ha
  unfold nt_red rf_red
  rw [nI_clamp (by omega), C.1 a ha, (E.1 a ha).1, (E.1 a ha).2, ep, eq, nI_clamp (by omega), nI_clamp (by omega), P.2 p hp, P.2 q hq]
theorem red_bd (L : LT T n k) (P : PR T n k) (A : ∀ a, a < k → ∃ c, c ≤ 198 ∧ rm T a 3 + 99 = nI c) {a : Nat} (ha : a < k) : -100000 ≤ (rf_red T a).toInt ∧ (rf_red T a).toInt ≤ 100000 := by
  have k14 := L.1.1.2.2
  have n7 := L.1.1.2.1
  obtain ⟨p, q, hp, hq, ep, eq⟩ := L.1.ends ha
  obtain ⟨c, hc, ec⟩ := A a ha
  have ci : (rm T a 3).toInt = (c : Int) - 99 := by
    have : rm T a 3 = nI c - nI 99 := by
      rw [← ec]
      show rm T a 3 = rm T a 3 + 99 - 99
      rw [Int32.add_sub_cancel]
    rw [this, pk_sub_toInt (by omega) (by omega)]
    rfl
  have b1 := pr_bd P L A 7 p (Nat.le_of_lt hp) ((L.at hp).2.2.2.1)
  have b2 := pr_bd P L A 7 q (Nat.le_of_lt hq) ((L.at hq).2.2.2.1)
  unfold rf_red
  rw [ep, eq, nI_clamp (by omega), nI_clamp (by omega)]
  have s1 : (rm T a 3 + T.1 284 p).toInt = (rm T a 3).toInt + (T.1 284 p).toInt := by
    rw [Int32.toInt_add]
    apply Int.bmod_eq_of_le <;> omega
  have s2 : (rm T a 3 + T.1 284 p - T.1 284 q).toInt = (rm T a 3).toInt + (T.1 284 p).toInt - (T.1 284 q).toInt := by
    rw [Int32.toInt_sub, s1]
    apply Int.bmod_eq_of_le <;> omega
  omega
theorem neg_i {x : Int32} (h : -100000 ≤ x.toInt ∧ x.toInt ≤ 100000) : (-x).toInt = -x.toInt := by
  rw [Int32.toInt_neg]
  apply Int.bmod_eq_of_le <;> omega
theorem off_eq (L : LT T n k) (P : PR T n k) (A : ∀ a, a < k → ∃ c, c ≤ 198 ∧ rm T a 3 + 99 = nI c) (E : TLe h b T n k) (F : FLe h b T n k) (C : COe h b T n k) (Pe : PRe h b T n) (S : SRe h b T k) {a : Nat} (ha : a < k) : (rf_off T a = true → nt_off h b (nI a) = rf_far T a ∧ 0 < rf_far T a) ∧ (rf_off T a = false → nt_off h b (nI a) = 0) := by
  have k14 := L.1.1.2.2
  have rb := red_bd L P A ha
  have ng := neg_i rb
  have z0 : (0 : Int32).toInt = 0 := rfl
  have ca : (nI a).toNatClampNeg = a := nI_clamp (by omega)
  unfold nt_off nt_may
  rw [red_eq L E C Pe ha, ca, (F.1 a ha).1]
  rcases S a ha with ⟨s6, s7, s5⟩ | ⟨s6, s7, s5⟩
  · rw [s7]
    unfold rf_off rf_far nt_max0
    rw [s6]
    obtain ⟨j, hj, ej⟩ := vi_nI s5
    rw [ej]
    have c01 : ∀ j, j < 3 → (j = 0 ∧ nI j = 0) ∨ (j = 1 ∧ nI j = 1) ∨ (j = 2 ∧ nI j = 2) := by decide
    by_cases bp : rm T a 2 ≤ 0
    · have e : ∀ u : Bool, (u && !decide (rm T a 2 ≤ 0)) = false := fun u => by simp [bp]
      rw [e, if_neg (by decide)]
      simp [bp]
    · rcases c01 j hj with ⟨-, e⟩ | ⟨-, e⟩ | ⟨-, e⟩
      · rw [e]
        have t : (decide ((0 : Int32) = 0) || decide ((0 : Int32) = 1)) && !decide (rm T a 2 ≤ 0) := by simp [bp]
        rw [if_pos t, if_pos rfl]
        by_cases rl : rf_red T a < 0
        · have nn : ¬ 0 ≤ rf_red T a := Int32.not_le.mpr rl
          have pos : (0 : Int32) < -rf_red T a := by
            rw [Int32.lt_iff_toInt_lt] at rl ⊢
            omega
          rw [if_neg nn, if_pos pos]
          refine ⟨fun _ => ⟨rfl, pos⟩, fun y => ?_⟩
          simp [bp, rl] at y
        · have np : ¬ (0 : Int32) < -rf_red T a := by
            rw [Int32.lt_iff_toInt_lt] at rl ⊢
            omega
          rw [if_neg np]
          refine ⟨fun y => ?_, fun _ => rfl⟩
          simp [bp, rl] at y
      · rw [e]
        have t : (decide ((1 : Int32) = 0) || decide ((1 : Int32) = 1)) && !decide (rm T a 2 ≤ 0) := by simp [bp]
        rw [if_pos t, if_neg (by decide)]
        by_cases rl : rf_red T a ≤ 0
        · have np : ¬ (0 : Int32) < rf_red T a := Int32.not_lt.mpr rl
          rw [if_neg np]
          refine ⟨fun y => ?_, fun _ => rfl⟩
          simp [bp, rl] at y
        · have pos : (0 : Int32) < rf_red T a := Int32.not_le.mp rl
          rw [if_pos pos, if_pos (Int32.le_of_lt pos)]
          refine ⟨fun _ => ⟨rfl, pos⟩, fun y => ?_⟩
          simp [bp, rl] at y
      · rw [e]
        have t : ¬ ((decide ((2 : Int32) = 0) || decide ((2 : Int32) = 1)) && !decide (rm T a 2 ≤ 0)) = true := by simp
        rw [if_neg t]
        refine ⟨fun y => ?_, fun _ => rfl⟩
        simp at y
  · rw [s7]
    have t : ¬ ((decide ((3 : Int32) = 0) || decide ((3 : Int32) = 1)) && !decide (rm T a 2 ≤ 0)) = true := by simp
    rw [if_neg t]
    refine ⟨fun y => ?_, fun _ => rfl⟩
    unfold rf_off at y
    rw [s6] at y
    simp at y
theorem pk_id : ∀ k, k < 15 → ∀ i, i < k → ((0 : Int32) + nI i) - ((0 : Int32) + nI i) / nI k * nI k = nI i := by decide +kernel
theorem en_stay {R : LH} (hr : ¬ R.1 271 2 = 1) : ∀ (f i : Nat) (c : Int32), c ≠ -1 → en_f R k f i c = c
  | 0, i, c, hc => rfl
  | f + 1, i, c, hc => by
    rw [en_f, if_neg hc, if_neg hr]
    split
    · exact en_stay hr f (i + 1) c hc
    · exact en_stay hr f (i + 1) c hc
theorem pkn_eq (L : LT T n k) (S : RS T) (off : ∀ a, a < k → (rf_off T a = true → nt_off h b (nI a) = rf_far T a ∧ 0 < rf_far T a) ∧ (rf_off T a = false → nt_off h b (nI a) = 0)) {st : Int32} (ea : ∀ i, i < k → (st + nI i) - (st + nI i) / nI k * nI k = en_a T k i) : ∀ (f i : Nat) (best most : Int32), i + f = k → ((best = -1 ∧ most = 0) ∨ (T.1 271 2 = 1 ∧ ∃ a, a < k ∧ best = nI a ∧ rf_off T a = true ∧ most = rf_far T a)) → nt_pk h b k (T.1 271 2) st f i best most = en_f T k f i best
  | 0, i, best, most, hi, J => rfl
  | f + 1, i, best, most, hi, J => by
    have k14 := L.1.1.2.2
    obtain ⟨a, ha, ea2⟩ := vi_nI (en_a_in L.1 S (i := i) (by omega))
    have m0 : (0 : Int32) ≤ most := by
      rcases J with ⟨-, e⟩ | ⟨-, c, hc, -, o, e⟩
      · rw [e]; exact Int32.le_refl 0
      · rw [e]; exact Int32.le_of_lt ((off c hc).1 o).2
    rw [nt_pk, en_f]
    rw [ea i (by omega), ea2, nI_clamp (by omega)]
    by_cases o : rf_off T a = true
    · obtain ⟨o1, o2⟩ := (off a ha).1 o
      rw [o1, if_neg (Int32.not_le.mpr o2), if_pos o]
      by_cases r1 : T.1 271 2 = 1
      · rw [if_pos r1, if_pos r1]
        rcases J with ⟨e1, e2⟩ | ⟨-, c, hc, e1, oc, e2⟩
        · rw [e2, if_neg (Int32.not_le.mpr o2), if_pos e1]
          exact pkn_eq L S off ea f (i + 1) _ _ (by omega) (Or.inr ⟨r1, a, ha, rfl, o, rfl⟩)
        · have nb : ¬ best = -1 := by rw [e1]; exact nI_m1 (by omega)
          rw [if_neg nb, e1, nI_clamp (by omega), e2]
          by_cases z : rf_far T a ≤ rf_far T c
          · rw [if_pos z, if_pos z]
            exact pkn_eq L S off ea f (i + 1) _ _ (by omega) (Or.inr ⟨r1, c, hc, rfl, oc, rfl⟩)
          · rw [if_neg z, if_neg z]
            exact pkn_eq L S off ea f (i + 1) _ _ (by omega) (Or.inr ⟨r1, a, ha, rfl, o, rfl⟩)
      · rw [if_neg r1, if_neg r1]
        rcases J with ⟨e1, e2⟩ | ⟨r2, -⟩
        · rw [if_pos e1, en_stay r1 f (i + 1) _ (nI_m1 (by omega))]
        · exact absurd r2 r1
    · have o' : rf_off T a = false := Bool.eq_false_iff.mpr o
      rw [(off a ha).2 o', if_pos (Int32.le_refl 0), if_pos m0, if_neg o]
      exact pkn_eq L S off ea f (i + 1) _ _ (by omega) J
/-- what enters -/
theorem pick_eq (L : LT T n k) (S : RS T) (off : ∀ a, a < k → (rf_off T a = true → nt_off h b (nI a) = rf_far T a ∧ 0 < rf_far T a) ∧ (rf_off T a = false → nt_off h b (nI a) = 0)) (e3 : h.1 (b + 11) 3 = T.1 271 6) : nt_pick h b k (T.1 271 2) = en_f T k k 0 (-1) := by
  have k14 := L.1.1.2.2
  unfold nt_pick
  refine pkn_eq L S off (fun i hi => ?_) k 0 (-1) 0 (by omega) (Or.inl ⟨rfl, rfl⟩)
  unfold en_a
  by_cases r2 : T.1 271 2 = 2
  · rw [if_pos r2, if_pos r2, e3]
  · rw [if_neg r2, if_neg r2]
    exact pk_id k (by omega) i hi
end REP
