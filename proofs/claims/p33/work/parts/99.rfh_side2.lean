/-! ===== the joint is not below, and edges off the cycle stay as they hang ===== -/
section VGS
variable {T T2 : LH} {n k : Nat}
theorem z_out (L : LT T n k) (L2 : LT T2 n k) (S2 : TS T2 n k) (A2 : ∀ a, a < k → rm T2 a 0 ≠ rm T2 a 1) {c mm e p z : Nat} {ids : Nat → Int32} (hT : ∀ w, w < n → T.1 282 w ≠ ids mm → EG T2 n k w (uf T w) (T.1 282 w)) (hz : z ≤ n) (above : ∀ j m, j < df T z → m < c → T.1 282 (tw T j z) ≠ ids m) (hmm : mm < c) (he : e < c) (hp : p < n) (ep : T2.1 282 p = ids e) : ob T2 p z = false := by
  have w := ob_up L (D := ob T2 p) (df T z) z hz (Nat.le_refl _) (fun j hj => by
    obtain ⟨b1, b2⟩ := L.tu j z hz (by omega)
    have hw := L.lt b1 (by omega)
    exact ob_edge L2 S2 A2 hw (hT _ hw (above j mm hj hmm)) (fun q => above j e hj he (q.symm.trans ep)))
  rw [w]
  exact ob_root L2 hp
theorem off_side (L : LT T n k) (S : TS T n k) (A : ∀ a, a < k → rm T a 0 ≠ rm T a 1) (L2 : LT T2 n k) (S2 : TS T2 n k) (A2 : ∀ a, a < k → rm T2 a 0 ≠ rm T2 a 1) {c mm p : Nat} {ids : Nat → Int32} {ν : Nat → Nat} (hc : ∀ m, m < c → m ≠ mm → (ν m < n ∧ EG T2 n k (ν m) (ν (m + 1)) (ids m)) ∨ (ν (m + 1) < n ∧ EG T2 n k (ν (m + 1)) (ν m) (ids m))) (hT : ∀ w, w < n → T.1 282 w ≠ ids mm → EG T2 n k w (uf T w) (T.1 282 w)) (hback : ∀ u v id, u < n → EG T2 n k u v id → (∀ m, m < c → id ≠ ids m) → EG T n k u v id) (hout : ∀ w, w < n → T.1 282 w = ids mm → (w = ν mm ∧ uf T w = ν (mm + 1)) ∨ (w = ν (mm + 1) ∧ uf T w = ν mm)) (closed : ν 0 = ν c) (hmm : mm < c) (hp : p < n) (off : ∀ m, m < c → T2.1 282 p ≠ ids m) : T.1 282 p = T2.1 282 p ∧ uf T p = uf T2 p := by
  have n7 := L2.1.1.2.1
  have k14 := L2.1.1.2.2
  have F2 := (L2.at hp).2.2.2.2.2
  have F := hback _ _ _ hp F2 off
  obtain ⟨s, hs, es⟩ := S _ _ _ hp F
  have Fs := (L.at hs).2.2.2.2.2
  rw [es] at Fs
  rcases EG.two n7 k14 A hp hs F Fs with ⟨h1, h2⟩ | ⟨h1, h2⟩
  · rw [h1] at es h2
    exact ⟨es, h2⟩
  · exfalso
    have st : ∀ m, m < c → m ≠ mm → ob T2 p (ν m) = ob T2 p (ν (m + 1)) := by
      intro m q1 q2
      rcases hc m q1 q2 with ⟨q3, q4⟩ | ⟨q3, q4⟩
      · exact ob_edge L2 S2 A2 q3 q4 (off m q1)
      · exact (ob_edge L2 S2 A2 q3 q4 (off m q1)).symm
    have w1' := ob_walk (D := ob T2 p) (ν := ν) (e := mm) mm 0 (fun m _ q2 q3 => st m (by omega) q3) (Or.inr (by omega))
    have w2' := ob_walk (D := ob T2 p) (ν := ν) (e := mm) (c - (mm + 1)) (mm + 1) (fun m q1 q2 q3 => st m (by omega) q3) (Or.inl (by omega))
    rw [Nat.zero_add] at w1'
    rw [show mm + 1 + (c - (mm + 1)) = c by omega, ← closed] at w2'
    have os : ob T2 p (ν mm) = ob T2 p (ν (mm + 1)) := w1'.symm.trans w2'.symm
    have up := L.up hs
    rw [h2] at up
    have w := ob_up L (D := ob T2 p) (df T p) p (Nat.le_of_lt hp) (Nat.le_refl _) (fun j hj => by
      obtain ⟨b1, b2⟩ := L.tu j p (Nat.le_of_lt hp) (by omega)
      have hw := L.lt b1 (by omega)
      by_cases c1 : T.1 282 (tw T j p) = ids mm
      · rcases hout _ hw c1 with ⟨q1, q2⟩ | ⟨q1, q2⟩
        · rw [q2, q1]
          exact os
        · rw [q2, q1]
          exact os.symm
      · refine ob_edge L2 S2 A2 hw (hT _ hw c1) (fun q => ?_)
        have := by_inj L hw hs (q.symm.trans es.symm)
        rw [this] at b2
        omega)
    rw [ob_self L2 hp, ob_root L2 hp] at w
    cases w
end VGS
