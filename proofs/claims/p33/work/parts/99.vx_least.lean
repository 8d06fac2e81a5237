/-! ===== least on both sides ===== -/
section VXL
variable {h g r T T2 : LH} {b n k m M t d : Nat}
theorem LV0.sd (D : SD T T2 n k) {x : Int32} (X : LV0 T2 n k x) : LV0 T n k x := by
  unfold LV0 LVi at *
  refine LVs.c X (fun a ha => ?_) (fun p hp => ?_)
  · obtain ⟨d0, d1, d2, d3, d6⟩ := D.1 a ha
    refine ⟨?_, ?_, ?_, ?_⟩
    · unfold tlv; rw [d0]
    · unfold hdv; rw [d1]
    · unfold capI; rw [d2, d6]
    · unfold cosI; rw [d3]
  · unfold supI
    rw [(D.2 p hp).1]
theorem LV0.cg {x : Int32} (e : T.1 271 = r.1 271) (X : LV0 T n k x) : LV0 r n k x := by
  obtain ⟨a1, a2, a3, a4, a5⟩ := rw_fr e
  unfold LV0 LVi at *
  rw [a1, a2, a3, a4, a5] at X
  exact X
theorem NR.cp {c : Nat} (N : NR h c r n k m) (n7 : n ≤ 7) (k14 : k ≤ 14) (C : CPn h g b c) : NR g b r n k m := by
  obtain ⟨-, -, c3, c4, c5, c6, c7, c8⟩ := id C
  refine N.cl n7 k14 c3 (fun p hp => c4 1 p (by omega) (by omega) hp) (fun o z1 z2 i hi => c5 o i z1 z2 hi) (fun p hp => c4 8 p (by omega) (by omega) hp) (fun p hp => c4 9 p (by omega) (by omega) hp) (fun p hp => ?_) c7 (fun o z1 z2 i hi => c8 o i z1 z2 hi)
  rcases Nat.lt_or_ge p 7 with z | z
  · exact c4 10 p (by omega) (by omega) z
  · have : p = 7 := by omega
    rw [this]
    exact c6
/-- the trial's run tells the least -/
theorem trial_lv {i : Nat} (N : NR h 15 r n k m) (G : GI r n k M) (hM : M ≤ 18000000) : LV0 r n k (lo_v n k (rt_run 15 n k 1 1000000 i m h).2) := by
  obtain ⟨r2, M2, m2, N2, X2, D, best⟩ := steep_best (i := i) (by omega) N G hM
  exact LV0.cg lt_fl.r ((lo_lv N2 X2 best).sd D)
/-- the trial is a copy -/
theorem try_cp (X : XA h M) (hm : m ≤ M) (H : NT h 0 n k m) (N : NR h 0 r n k m) (n7 : n ≤ 7) (k14 : k ≤ 14) : ∃ g : LH, tf_Rt (d + 2) 116 [.ref 15, .ref 0] h tf_z g ∧ XA g M ∧ NT g 15 n k m ∧ NR g 15 r n k m ∧ (∀ e, ¬ (15 ≤ e ∧ e < 30) → g.1 e = h.1 e) ∧ g.2 = h.2 := by
  have s := sx_ncp (d := d) (h := h) (b := 15) (c := 0) (by decide +kernel) (by decide +kernel) (by decide)
  have C := nt_cp_ok (h := h) (b := 15) (c := 0) (by decide +kernel) (by decide +kernel) (by decide)
  generalize nt_cp h 15 0 = g at s C
  have HT := C.nt (by decide +kernel) H
  exact ⟨g, s, X.put (r0 := 1) (by omega) hm HT (fun e he => C.1 e (by omega)), HT, N.cp n7 k14 C, fun e he => C.1 e (by omega), C.2.1⟩
/-- what leastOfTrial tells -/
theorem try_lv {M2 : Nat} (X : XA h M) (hm : m ≤ M) (hM : M < 1900000000) (H : NT h 15 n k m) (N : NR h 15 r n k m) (G : GI r n k M2) (hM2 : M2 ≤ 18000000) : ∃ (v : Int32) (g : LH), tf_Rt (d + 6) 217 [.ref 240] h (.int v) g ∧ XA g (M + 1000000) ∧ Fr h g ∧ (∀ e, e < 15 → g.1 e = h.1 e) ∧ LV0 r n k v := by
  obtain ⟨N0, hN, eN, hN2⟩ : ∃ N, N ≤ 1000000 ∧ nI N = 1000000 ∧ N = 1000000 := ⟨1000000, Nat.le_refl _, rfl, rfl⟩
  obtain ⟨c, R⟩ := X.2.1
  have s1 := sx_lot (d := d) hN eN H (by omega) R
  obtain ⟨X2, F2⟩ := X.run (r0 := 1) (N := N0) (by omega) hm H R 1
  obtain ⟨-, -, L⟩ := rt_run_ok (rule := 1) N0 0 m h c H R
  have lv := trial_lv (i := 0) N G hM2
  rw [hN2] at X2
  rw [hN2] at s1 L F2
  have F2' : Fr h (rt_run 15 n k 1 1000000 0 m h).2 := F2
  have X2' : XA (rt_run 15 n k 1 1000000 0 m h).2 (M + 1000000) := X2
  exact ⟨_, _, s1, X2', F2', fun e he => L e (by omega) (by omega), lv⟩
theorem ze_26 (I : IZ h t) (ht : t ≤ 511) : lk_eq h 205 [.ref 240] 103 [.ref 270] (fun g => IZ g (t + 1)) := by
  obtain ⟨n, k, m, hm, H, G, N⟩ := I.1.1
  have X : XA h (2000000 * t) := I.2.1.1.1.1
  have n7 := G.1.1.2.1
  have k14 := G.1.1.2.2
  obtain ⟨g1, s1, X1, H1, N1, L1, E1⟩ := try_cp (d := 8) X hm H N n7 k14
  obtain ⟨v, g2, s2, X2, F2, L2, lv⟩ := try_lv (d := 4) X1 hm (by omega) H1 N1 G (by omega)
  have e271 : g2.1 271 = h.1 271 := (F2.1 271 (by omega)).trans (L1 271 (by omega))
  have G2 : GI g2 n k (8000 * t) := G.cong (fun i _ => by rw [e271])
  refine ze_q (g := g2) (v := v) (iz_26 I ht) (fun Q q => en_X8_least (by decide) (go_X8_least_0 (by decide) (s1 _ (go_X8_least_11 (by decide) (s2 _ (go_X8_least_15 (by decide) q)))))) ?_
  refine (xr_least G2).mp (fun w g p => ?_)
  obtain ⟨x, e, lx⟩ := p
  rw [e, (LV0.cg e271 lx).uni lv]
end VXL
