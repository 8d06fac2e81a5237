/-! ===== the trial changed, begun again and run ===== -/
section WET
variable {h g h2 r r2 T T2 : LH} {b n k m M t d : Nat}
theorem nr_bgaW (hb : b ≤ 225) (B : BIW r n k) (N : NB h b r n k) (A : TA h b r m) (w : Int32) : ∃ r2, GIW r2 n k 0 ∧ (∀ ix, BX ix → ix ≠ 5 → r2.1 271 ix = r.1 271 ix) ∧ NR (nt_beg h b n k w) b r2 n k m := by
  have n7 := B.1.1.2.1
  have k14 := B.1.1.2.2
  obtain ⟨N1, N2, N3, N4, N5⟩ := nr_begW hb B N w
  obtain ⟨G1, Fb1⟩ := bgn_okW (M := 0) (w := w) B
  have G2 : GIW (w1 (bgn r n k w) 271 5 ((bgn r n k w).1 271 5 + 1)) n k 0 := G1.c5
  obtain ⟨r2, e⟩ : ∃ r2, r2 = w1 (bgn r n k w) 271 5 ((bgn r n k w).1 271 5 + 1) := ⟨_, rfl⟩
  rw [← e] at G2
  have er : ∀ i, i ≠ 5 → r2.1 271 i = (bgn r n k w).1 271 i := fun i hi => by rw [e, w1_at hi]
  have e5 : r2.1 271 5 = r.1 271 5 + 1 := by rw [e, w1_eq, Fb1.2.2 5 (Or.inl (by omega))]
  have A1 : ∀ a, a < k → rm (bgn r n k w) a 0 ≠ rm (bgn r n k w) a 1 := G1.2.2.2.2.1.1
  have f2 : ∀ ix, BX ix → ix ≠ 5 → r2.1 271 ix = r.1 271 ix := fun ix h1 h2 => by rw [er ix h2]; exact Fb1.2.2 ix h1
  have f3 : ∀ i, i < 44 → i ≠ 5 → r2.1 271 i = r.1 271 i := fun i h1 h2 => f2 i (Or.inl (by omega)) h2
  refine ⟨r2, G2, f2, ?_⟩
  generalize bgn r n k w = g1 at N1 N2 A1 er
  refine ⟨N1.mv n7 k14 rfl rfl (by rw [er 2 (by omega)]; exact N1.1.2.2) (fun _ _ _ => rfl) (fun i z1 z2 => er i (by omega)), N2.mvW A1 G2 (RT.of (fun i z1 z2 => er i (by omega)) n7 k14), ?_⟩
  obtain ⟨⟨b1, b2⟩, ⟨b3, b4, b5⟩, b6, b7⟩ := A
  refine ⟨⟨by rw [N4 0 (by omega)]; exact b1, by rw [f3 3 (by omega) (by omega)]; exact b2⟩, ⟨by rw [N4 1 (by omega), f3 4 (by omega) (by omega)]; exact b3, by rw [N3, e5, b4], by rw [N4 3 (by omega), f3 6 (by omega) (by omega)]; exact b5⟩, by rw [f3 7 (by omega) (by omega)]; exact b6, fun j z1 z2 => ?_⟩
  rw [N5 (b + 12) (Or.inr (by omega)), N5 (b + 13) (Or.inr (by omega)), N5 (b + 14) (Or.inr (by omega)), f3 (8 + 3 * j) (by omega) (by omega), f3 (9 + 3 * j) (by omega) (by omega), f3 (10 + 3 * j) (by omega) (by omega)]
  exact b7 j z1 z2
theorem LV0.bx (n7 : n ≤ 7) (k14 : k ≤ 14) (e : ∀ ix, BX ix → ix ≠ 5 → r2.1 271 ix = r.1 271 ix) {x : Int32} (X : LV0 r2 n k x) : LV0 r n k x := by
  have er : ∀ a w, w < 7 → w ≠ 4 → w ≠ 5 → rm r2 a w = rm r a w := fun a w h1 h2 h3 => e _ (Or.inr (Or.inr ⟨a, w, rfl, h1, h2, h3⟩)) (by omega)
  unfold LV0 LVi at *
  refine LVs.c X (fun a ha => ?_) (fun p hp => ?_)
  · refine ⟨?_, ?_, ?_, ?_⟩
    · unfold tlv; rw [er a 0 (by omega) (by omega) (by omega)]
    · unfold hdv; rw [er a 1 (by omega) (by omega) (by omega)]
    · unfold capI; rw [er a 2 (by omega) (by omega) (by omega), er a 6 (by omega) (by omega) (by omega)]
    · unfold cosI; rw [er a 3 (by omega) (by omega) (by omega)]
  · unfold supI
    rw [e (44 + p) (Or.inl (by omega)) (by omega)]
/-- changed, begun again, run: what is told -/
theorem try_lvW {d2 : Nat} (X : XA h M) (hm : m ≤ M) (hM : M < 1890000000) (H : NT g 15 n k m) (L : ∀ e, ¬ (15 ≤ e ∧ e < 30) → g.1 e = h.1 e) (e2 : g.2 = h.2) (B : BIW r n k) (N : NB g 15 r n k) (A : TA g 15 r m) : ∃ (w : Int32) (g2 g3 : LH), tf_Rt (d + 2) 128 [.ref 15, .int 1] g tf_z g2 ∧ tf_Rt (d2 + 6) 217 [.ref 240] g2 (.int w) g3 ∧ XA g3 (M + 1000000) ∧ Fr h g3 ∧ LV0 r n k w := by
  have n7 := B.1.1.2.1
  have k14 := B.1.1.2.2
  have s := sx_beg (d := d) H.1 1
  obtain ⟨HB, LB, B2⟩ := beg_ok H 1
  obtain ⟨r2, G2, f2, N2⟩ := nr_bgaW (by omega) B N A 1
  generalize nt_beg g 15 n k 1 = g2 at s HB LB B2 N2
  have L2 : ∀ e, ¬ (15 ≤ e ∧ e < 30) → g2.1 e = h.1 e := fun e he => by rw [LB e (by omega), L e he]
  have X2 : XA g2 M := X.put (r0 := 1) (by omega) hm HB (fun e he => L2 e (by omega))
  obtain ⟨N0, hN, eN, hN2⟩ : ∃ N, N ≤ 1000000 ∧ nI N = 1000000 ∧ N = 1000000 := ⟨1000000, Nat.le_refl _, rfl, rfl⟩
  obtain ⟨c, R⟩ := X2.2.1
  have s1 := sx_lot (d := d2) hN eN HB (by omega) R
  obtain ⟨X3, F3⟩ := X2.run (r0 := 1) (N := N0) (by omega) hm HB R 1
  have lv := (trial_lvW (i := 0) N2 G2 (by omega)).bx n7 k14 f2
  rw [hN2] at X3
  rw [hN2] at s1 F3
  have F3' : Fr g2 (rt_run 15 n k 1 1000000 0 m g2).2 := F3
  have X3' : XA (rt_run 15 n k 1 1000000 0 m g2).2 (M + 1000000) := X3
  have F2 : Fr h g2 := ⟨fun e he => L2 e (by omega), by rw [B2, e2]⟩
  exact ⟨_, g2, _, s, s1, X3', F2.tr F3', lv⟩
/-- one arc's cost is another -/
theorem NB.cost (N : NB h b r n k) {a : Nat} {v : Int32} (k14 : k ≤ 14) (n7 : n ≤ 7) : NB (w1 h (b + 5) a v) b (rp r a 3 v) n k := by
  obtain ⟨⟨a1, a2, a3⟩, a4, a5⟩ := N
  have e : ∀ i, i ≠ 72 + 7 * a + 3 → (rp r a 3 v).1 271 i = r.1 271 i := fun i hi => rp_ne hi
  have ev : rm (rp r a 3 v) a 3 = v := rp_at
  have er : ∀ c w, w < 7 → w ≠ 3 → rm (rp r a 3 v) c w = rm r c w := fun c w h1 h2 => e _ (by omega)
  have hc : ∀ x, x ≠ b + 5 → (w1 h (b + 5) a v).1 x = h.1 x := fun x hx => w1_ne hx
  refine ⟨⟨by rw [hc b (by omega)]; exact a1, by rw [hc b (by omega)]; exact a2, by rw [hc b (by omega), e 2 (by omega)]; exact a3⟩, fun p hp => by rw [hc _ (by omega), e _ (by omega)]; exact a4 p hp, fun c hk => ?_⟩
  unfold AE B0
  rw [hc (b + 2) (by omega), hc (b + 3) (by omega), hc (b + 4) (by omega), hc (b + 6) (by omega), hc (b + 7) (by omega), er c 0 (by omega) (by omega), er c 1 (by omega) (by omega), er c 2 (by omega) (by omega), er c 4 (by omega) (by omega), er c 6 (by omega) (by omega)]
  obtain ⟨⟨x1, x2, x3, x5⟩, x4⟩ := a5 c hk
  refine ⟨⟨x1, x2, ?_, x5⟩, x4⟩
  by_cases z : c = a
  · subst z
    rw [w1_eq, ev]
  · rw [w1_at z]
    have : rm (rp r a 3 v) c 3 = rm r c 3 := e _ (by omega)
    rw [this]
    exact x3
end WET
