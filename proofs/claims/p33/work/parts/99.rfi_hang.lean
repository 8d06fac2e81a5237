/-! ===== what hangs after a pivot ===== -/
section VHH
variable {T : LH} {n k M : Nat}
theorem tn5_hang (L : LT T n k) (GT : GI T n k M) (hM : M ≤ 20000000) {a x y mm : Nat} (ha : a < k) (hx : x < n) (hy : y < n) (ho : rf_off T a = true) (ex : (if rm T a 5 = 0 then rm T a 0 else rm T a 1) = nI x) (ey : (if rm T a 5 = 0 then rm T a 1 else rm T a 0) = nI y) (hm : mm < lc_n T x y) (er : rr (lc T a x y) mm = rlr (lc T a x y) (lc_n T x y) 0 1000000) {T2 : LH} (eT : T2.1 271 = (tn5 T a x y mm).1 271) : (∀ c, c < k → c ≠ a → (rf_hangs T2 c = true ↔ rf_hangs T c = true ∧ (lc T a x y).1 285 mm ≠ nI c)) ∧ (rf_hangs T2 a = true ↔ (lc T a x y).1 285 mm ≠ nI a) ∧ (∀ p, p < n → (T2.1 271 (51 + p) = 1 ↔ T.1 271 (51 + p) = 1 ∧ (lc T a x y).1 285 mm ≠ nI (100 + p))) ∧ (∀ ix, KX ix → T2.1 271 ix = T.1 271 ix) ∧ ∀ ix, IXF ix → T2.1 271 ix = (tn3 T a x y).1 271 ix := by
  obtain ⟨-, Cp, Rs, Fb, Ag, Db, Gn⟩ := id GT
  have n7 := L.1.1.2.1
  have k14 := L.1.1.2.2
  have xn := Nat.le_of_lt hx
  have yn := Nat.le_of_lt hy
  have tk := tn_keep L Cp Fb Ag Db Gn hM ha hx hy ho ex ey hm er
  have w5 := off_w ho
  have lc271 := lc_271 L ha xn yn (a := a) (x := x) (y := y)
  have D := lc_ed L ha xn yn hm
  have r3r : ∀ ix, ¬ IXF ix → (tn3 T a x y).1 271 ix = T.1 271 ix := fun ix hix => by
    unfold tn3
    rw [(fls_fw _ 0 _ (lc_ok L ha xn yn).1 (by omega)).2.2 ix hix, lc271]
  have nix5 : ∀ c, ¬ IXF (72 + 7 * c + 5) := fun c z => by
    rcases z with z | ⟨q, -, z⟩ <;> omega
  have nixl : ∀ ix, ix < 65 → ¬ IXF ix := fun ix hix z => by
    rcases z with z | ⟨q, -, z⟩ <;> omega
  have r35 : ∀ c, rm (tn3 T a x y) c 5 = rm T c 5 := fun c => r3r _ (nix5 c)
  obtain ⟨q1, q2, q3, q4, q5, q6, q7, q8⟩ := tn4_lo (g := tn3 T a x y) D n7 k14 ha
  have r5i : ∀ ix, ix < 3 ∨ 44 ≤ ix → (tn5 T a x y mm).1 271 ix = (tn4 (tn3 T a x y) a ((lc T a x y).1 285 mm)).1 271 ix := fun ix hix => (ip_fp (g := tn4 (tn3 T a x y) a ((lc T a x y).1 285 mm))).2.2 ix hix
  have r55 : ∀ c, rm (tn5 T a x y mm) c 5 = rm (tn4 (tn3 T a x y) a ((lc T a x y).1 285 mm)) c 5 := fun c => r5i _ (by omega)
  have rT : ∀ c w, rm T2 c w = rm (tn5 T a x y mm) c w := fun c w => by unfold rm; rw [eT]
  have h5 : ∀ z : Int32, (decide (z = 2) = true) ↔ z = 2 := fun z => decide_eq_true_iff
  refine ⟨fun c hc cA => ?_, ?_, fun p hp => ?_, fun ix hix => by rw [eT]; exact tk.2.1 ix hix, fun ix hix => ?_⟩
  · unfold rf_hangs
    rw [rT, r55]
    by_cases z : (lc T a x y).1 285 mm = nI c
    · rw [q7 c cA hc z]
      constructor
      · intro w
        split at w <;> cases w
      · exact fun w => absurd z w.2
    · rw [q6 c cA hc z, r35]
      exact ⟨fun w => ⟨w, z⟩, fun w => w.1⟩
  · unfold rf_hangs
    rw [rT, r55]
    by_cases z : (lc T a x y).1 285 mm = nI a
    · rw [q5 z, r35]
      constructor
      · intro w
        rcases w5 with u | u <;> rw [u] at w <;> cases w
      · exact fun w => absurd z w
    · rw [q4 z]
      exact ⟨fun _ => z, fun _ => rfl⟩
  · rw [eT, r5i _ (by omega)]
    by_cases z : (lc T a x y).1 285 mm = nI (100 + p)
    · constructor
      · intro w
        exfalso
        have zne : ¬ nI (100 + p) = nI a := fun q => by
          have := (nI_eq (by omega) (by omega)).mp q
          omega
        unfold tn4 at w
        rw [z, if_neg zne] at w
        unfold go_o at w
        rw [if_pos (loan_p (by omega)), show (51 : Int32) = nI 51 from rfl, loan_ix, nI_clamp (by omega), w1_eq] at w
        cases w
      · exact fun w => absurd z w.2
    · rw [q8 p hp z, r3r _ (nixl _ (by omega))]
      exact ⟨fun w => ⟨w, z⟩, fun w => w.1⟩
  · rw [eT, r5i ix (by rcases hix with z | ⟨q, -, z⟩ <;> omega), q3 ix (by rcases hix with z | ⟨q, -, z⟩ <;> omega) (fun d _ => by rcases hix with z | ⟨q, -, z⟩ <;> omega)]
end VHH
