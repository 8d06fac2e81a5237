/-! ===== what the trial tells is the least cost of a plan ===== -/
section VWL
variable {h r T : LH} {b n k m M : Nat}
theorem unm_i {D : Nat → Int} (e : ∀ p, p < n → (h.1 (b + 6) (14 + p)).toInt = D p ∧ 0 ≤ D p ∧ D p ≤ 1500) (hn : n ≤ 7) : ∀ (f p : Nat) (s : Int32), p + f = n → s.toInt = fs D p → 0 ≤ s.toInt → s.toInt ≤ 1500 * (p : Int) → (nt_unm h b f p s).toInt = fs D n
  | 0, p, s, hp, es, _, _ => by
    rw [nt_unm, es, show p = n by omega]
  | f + 1, p, s, hp, es, l1, l2 => by
    obtain ⟨e1, e2, e3⟩ := e p (by omega)
    have t := tia (x := s) (y := h.1 (b + 6) (14 + p)) (by omega) (by omega)
    rw [nt_unm]
    exact unm_i e hn f (p + 1) _ (by omega) (by rw [t, fs, es, e1]) (by omega) (by omega)
theorem spn_i {c g : Nat → Int} (e : ∀ a, a < k → (h.1 (b + 6) a).toInt = g a ∧ (h.1 (b + 5) a).toInt = c a ∧ 0 ≤ g a ∧ g a ≤ 100 ∧ -100 ≤ c a ∧ c a ≤ 100) (hk : k ≤ 14) : ∀ (f a : Nat) (s : Int32), a + f = k → s.toInt = fs (fun a => c a * g a) a → -(10000 * (a : Int)) ≤ s.toInt → s.toInt ≤ 10000 * (a : Int) → (nt_spn h b f a s).toInt = fs (fun a => c a * g a) k
  | 0, a, s, ha, es, _, _ => by
    rw [nt_spn, es, show a = k by omega]
  | f + 1, a, s, ha, es, l1, l2 => by
    obtain ⟨e1, e2, e3, e4, e5, e6⟩ := e a (by omega)
    have bd : -10000 ≤ c a * g a ∧ c a * g a ≤ 10000 := by
      generalize c a = x at *
      generalize g a = y at *
      have h1 : x * y ≤ 100 * y := Int.mul_le_mul_of_nonneg_right (by omega) (by omega)
      have h2 : (-100) * y ≤ x * y := Int.mul_le_mul_of_nonneg_right (by omega) (by omega)
      omega
    have em : (h.1 (b + 6) a * h.1 (b + 5) a).toInt = c a * g a := by
      rw [Int32.toInt_mul, e1, e2, Int.mul_comm]
      apply Int.bmod_eq_of_le <;> omega
    have t := tia (x := s) (y := h.1 (b + 6) a * h.1 (b + 5) a) (by omega) (by omega)
    rw [nt_spn]
    exact spn_i e hk f (a + 1) _ (by omega) (by rw [t, fs, es, em]) (by omega) (by omega)
theorem lo_lv (N : NR h 15 r n k m) (X : SX (lt r n k) n k M) (best : ∀ c, c < k → rf_off (lt r n k) c = false) : LV0 (lt r n k) n k (lo_v n k h) := by
  obtain ⟨⟨-, -, -, F, C, -⟩, -⟩ := N
  obtain ⟨L, P, G, S, K, SF, NL, ST, hM⟩ := id X
  have n7 := L.1.1.2.1
  have k14 := L.1.1.2.2
  have e271 : (lt r n k).1 271 = r.1 271 := lt_fl.r
  have rr : ∀ a w, rm (lt r n k) a w = rm r a w := fun a w => by unfold rm; rw [e271]
  have un := unm_i (h := h) (b := 15) (n := n) (D := fun p => ((lt r n k).1 271 (65 + p)).toInt) (fun p hp => by
    obtain ⟨-, c2, c3⟩ := cons_int G hM K hp
    exact ⟨by rw [F.2 p hp, e271], c2, c3⟩) n7 n 0 0 (by omega) rfl (by rw [z_ti]; omega) (by rw [z_ti]; omega)
  have sp := spn_i (h := h) (b := 15) (k := k) (c := fun a => (rm (lt r n k) a 3).toInt) (g := fun a => (rm (lt r n k) a 4).toInt) (fun a ha => by
    obtain ⟨v, bd, q1, q2, q3, q4⟩ := G.2.2.2.2.1.2.1 a ha
    obtain ⟨c, hc, ec⟩ := G.2.2.2.2.1.2.2.1 a ha
    have cb := v99 hc ec
    rw [(F.1 a ha).2, C.1 a ha, rr, rr]
    rw [rr] at q3 cb
    rw [q3, nI_toInt (by omega)]
    omega) k14 k 0 0 (by omega) rfl (by rw [z_ti]; omega) (by rw [z_ti]; omega)
  unfold LV0 LVi lo_v
  by_cases all : ∀ p, p < n → (lt r n k).1 271 (65 + p) = 0
  · have z : nt_unm h 15 n 0 0 = 0 := by
      apply ti_0
      rw [un, fs_c (g := fun _ => 0) n (fun p hp => by rw [all p hp]; rfl), fs_0]
    rw [if_pos z, sp]
    exact best_lv X best all
  · have ex : ∃ p, p < n ∧ (lt r n k).1 271 (65 + p) ≠ 0 := Classical.byContradiction fun z => all (fun p hp => Classical.byContradiction fun y => z ⟨p, hp, y⟩)
    have z : ¬ nt_unm h 15 n 0 0 = 0 := by
      intro z
      rw [z, z_ti] at un
      obtain ⟨q, hq, q1⟩ := ex
      have s := fs_lt (b := q) (f := fun _ => 0) (g := fun p => ((lt r n k).1 271 (65 + p)).toInt) n (fun p hp => (cons_int G hM K hp).2.1) hq (by
        have h1 := (cons_int G hM K hq).2.1
        have h2 : ((lt r n k).1 271 (65 + q)).toInt ≠ 0 := fun z => q1 (ti_0 z)
        show (0 : Int) + 1 ≤ ((lt r n k).1 271 (65 + q)).toInt
        omega)
      rw [fs_0] at s
      omega
    rw [if_neg z]
    exact best_no X best ex
end VWL
