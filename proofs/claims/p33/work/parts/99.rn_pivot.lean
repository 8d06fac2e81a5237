/-! ===== pivot, pivots on both sides ===== -/
section RNP
variable {h g r : LH} {t M : Nat}
/-- all that is alike between the law's rounds -/
def IZ (h : LH) (t : Nat) : Prop := NZ h t ∧ IX h t
/-- the net's own numbers, at the class's and the reference's heap -/
theorem IZ.net (I : IZ h t) (ht : t ≤ 511) : ∃ n k m c, m ≤ 2000000 * t ∧ NT (ac_sv h) 0 n k m ∧ RO (ac_sv h) c ∧ GI h n k (8000 * t) ∧ NR (ac_sv h) 0 h n k m ∧ (∀ e, e < 15 → (ac_sv h).1 e = h.1 e) ∧ XA (ac_sv h) (2000000 * t) ∧ CF h (ac_sv h) := by
  have X := I.2.1.1.1.1
  obtain ⟨X1, F1, e15⟩ := sv_ok X
  obtain ⟨n, k, m, hm, H⟩ := X1.net
  obtain ⟨c, R⟩ := X1.2.1
  have H0 : NT h 0 n k m := H.same (fun e _ h2 => (e15 e (by omega)).symm)
  obtain ⟨a1, a2, a3⟩ := I.1.1.nt H0 (by omega) (by omega)
  exact ⟨n, k, m, c, hm, H, R, a2, a3.eq a2.1.1.2.1 a2.1.1.2.2 (fun o ho => e15 (0 + o) (by omega)), e15, X1, ⟨fun e he => F1.1 e (by omega), F1.2⟩⟩
/-- a heap that only differs where neither grid, texts, nor undo rows stand -/
theorem RW.of {q : LH} (e : q.1 271 = r.1 271) : RW r q := fun i _ => by rw [e]
theorem zz_3 (I : IZ h t) (ht : t ≤ 511) : lk_eq h 184 [.ref 240] 54 [.ref 270] (fun g => NZ g (t + 1)) := by
  have X := I.2.1.1.1.1
  obtain ⟨n, k, m, c, hm, H, R, G, N, e15, X1, C1⟩ := I.net ht
  have s1 := sx_sv (d := 7) X
  have s2 := sx_step (d := 6) H (by omega) R ((ac_sv h).1 0 2)
  have ru : (ac_sv h).1 0 2 = h.1 271 2 := N.1.1.2.2
  have Rh := I.2.1.1.2
  by_cases c1 : nt_pick (ac_sv h) 0 k ((ac_sv h).1 0 2) = -1
  · rw [if_pos c1] at s2
    have s3 := sx_ca (d := 9) (h := ac_sv h) false
    have e3 : ac_ca (ac_sv h) (bI false) = ac_sv h := by
      unfold ac_ca
      rw [if_pos (show bI false = 0 from rfl)]
    rw [e3] at s3
    have rC : tf_Rt 11 184 [.ref 240] h (.int (-1)) (ac_sv h) := fun Q q => en_X8_pivot (by decide) (go_X8_pivot_0 (by decide) (s1 _ (go_X8_pivot_4 (by decide) (s2 _ (go_X8_pivot_22 (by decide) ⟨fun _ => go_X8_pivot_33 (by decide) (go_X8_pivot_34 (by decide) (s3 _ (go_X8_pivot_37 (by decide) (by rw [c1]; exact q)))), fun z => absurd c1 z⟩)))))
    refine rC.sp ⟨-1, rfl, ?_⟩
    intro Q q
    refine en_X9_pivot (by decide) (go_X9_pivot_0 (by decide) ?_)
    show tf_Cd 298 10 _ _ (w1 (ac_sv h) 270 0 0) _
    have o : ∀ e, e ≠ 270 → (w1 (ac_sv h) 270 0 0).1 e = (ac_sv h).1 e := fun e he => w1_ne he
    have o5 : (w1 (ac_sv h) 270 0 0).1 270 5 = (ac_sv h).1 270 5 := w1_at (by decide)
    generalize w1 (ac_sv h) 270 0 0 = q1 at o o5
    have r1 : q1.1 271 = h.1 271 := by rw [o 271 (by decide), C1.1 271 (by decide)]
    have G1 : GI q1 n k (8000 * t) := G.cong (RW.of r1)
    have N1 : NR (ac_sv h) 0 q1 n k m := N.rw (RW.of r1) G.1.1.2.1 G.1.1.2.2
    have pk := N1.pick G1
    have k14 := G.1.1.2.2
    have S1 : RS (lt q1 n k) := by unfold RS; rw [lt_fl.r]; exact G1.2.2.1
    have none : rf_many (lt q1 n k) k 0 0 = 0 := by
      rw [many_0 k14, ← en_none (G1.lt).1 S1, ← pk, r1, ← ru]
      exact c1
    refine sx_best (d := 5) G1 _ (go_X9_pivot_9 (by decide) ⟨fun z => ?_, fun _ => q _ _ ⟨rfl, ?_⟩⟩)
    · rw [bI_0] at z
      simp [none] at z
    · have F := lt_fl (h := q1) (n := n) (k := k)
      have fe : ∀ e, e ≠ 270 → ¬ (281 ≤ e ∧ e ≤ 284) → (lt q1 n k).1 e = (ac_sv h).1 e := fun e h1 h2 => by rw [F.1 e h2, o e h1]
      have Z := NZ.no I.1 X (k := lt q1 n k) (fun e he => fe e (by omega) (by omega)) (by rw [fe 273 (by decide) (by decide), C1.1 273 (by decide)]) (fun ix _ _ => by rw [fe 271 (by decide) (by decide), C1.1 271 (by decide)]) (by rw [F.1 270 (by decide), o5, C1.1 270 (by decide)]) (by rw [fe 274 (by decide) (by decide), C1.1 274 (by decide)])
      exact ⟨Z.1.up (by omega), Z.2.1.up (by omega), Z.2.2.up (by omega)⟩
  · rw [if_neg c1] at s2
    have hx := (H.pick ((ac_sv h).1 0 2)).resolve_left c1
    obtain ⟨-, -, -, ⟨HT, c2, R2⟩, L⟩ := st_ok H R hx
    have F2 := rt_step_fr H R hx
    have E2 := rt_step_240 H R hx
    generalize hpk : nt_pick (ac_sv h) 0 k ((ac_sv h).1 0 2) = pk at s2 hx HT R2 L F2 E2 c1
    have s3 := sx_ca (d := 9) (h := rt_step (ac_sv h) 0 n m pk) true
    have rC : tf_Rt 11 184 [.ref 240] h (.int pk) (ac_ca (rt_step (ac_sv h) 0 n m pk) (bI true)) := fun Q q => en_X8_pivot (by decide) (go_X8_pivot_0 (by decide) (s1 _ (go_X8_pivot_4 (by decide) (s2 _ (go_X8_pivot_22 (by decide) ⟨fun z => absurd z c1, fun _ => go_X8_pivot_34 (by decide) (s3 _ (go_X8_pivot_37 (by decide) q))⟩)))))
    refine rC.sp ⟨pk, rfl, ?_⟩
    obtain ⟨ca1, ca2⟩ := ac_ca_1 (h := rt_step (ac_sv h) 0 n m pk) (bI true)
    have cfe : ∀ e, 270 ≤ e → (ac_ca (rt_step (ac_sv h) 0 n m pk) (bI true)).1 e = h.1 e := fun e he => by rw [ca1 e (by omega), F2.1 e (by omega), C1.1 e he]
    intro Q q
    refine en_X9_pivot (by decide) (go_X9_pivot_0 (by decide) ?_)
    show tf_Cd 298 10 _ _ (w1 (ac_ca (rt_step (ac_sv h) 0 n m pk) (bI true)) 270 0 0) _
    have o : ∀ e, e ≠ 270 → (w1 (ac_ca (rt_step (ac_sv h) 0 n m pk) (bI true)) 270 0 0).1 e = (ac_ca (rt_step (ac_sv h) 0 n m pk) (bI true)).1 e := fun e he => w1_ne he
    have oi : ∀ i, i ≠ 0 → (w1 (ac_ca (rt_step (ac_sv h) 0 n m pk) (bI true)) 270 0 0).1 270 i = h.1 270 i := fun i hi => by rw [w1_at hi, cfe 270 (by omega)]
    generalize w1 (ac_ca (rt_step (ac_sv h) 0 n m pk) (bI true)) 270 0 0 = q1 at o oi
    have oh : ∀ e, 270 ≤ e → e ≠ 270 → q1.1 e = h.1 e := fun e h1 h2 => by rw [o e h2, cfe e h1]
    have r1 : q1.1 271 = h.1 271 := oh 271 (by decide) (by decide)
    have G1 : GI q1 n k (8000 * t) := G.cong (RW.of r1)
    have N1 : NR (ac_sv h) 0 q1 n k m := N.rw (RW.of r1) G.1.1.2.1 G.1.1.2.2
    have pk1 := N1.pick G1
    have k14 := G.1.1.2.2
    have S1 : RS (lt q1 n k) := by unfold RS; rw [lt_fl.r]; exact G1.2.2.1
    have some : ¬ rf_many (lt q1 n k) k 0 0 = 0 := by
      rw [many_0 k14, ← en_none (G1.lt).1 S1, ← pk1, r1, ← ru, hpk]
      exact c1
    have F := lt_fl (h := q1) (n := n) (k := k)
    have G2 : GI (lt q1 n k) n k (8000 * t) := G1.fl F
    have U1 : RU (lt q1 n k) (8000 * t) := Rh.2.1.same (by rw [F.1 270 (by decide), oi 5 (by decide)]) (by rw [F.1 274 (by decide), oh 274 (by decide) (by decide)])
    obtain ⟨u, hu, eu, -⟩ := Rh.2.1
    have eu1 : (lt q1 n k).1 270 5 = nI u := by rw [F.1 270 (by decide), oi 5 (by decide)]; exact eu
    refine sx_best (d := 5) G1 _ (go_X9_pivot_9 (by decide) ⟨fun _ => go_X9_pivot_14 (by decide) (((sp_kp0 (d := 9) G2 U1).cj (rx_keeps (d := 9) (s := 0) (by omega) hu eu1)) _ (fun v g3 p => go_X9_pivot_19 (by decide) ?_)), fun z => absurd ?_ z⟩)
    · obtain ⟨⟨G3, U3, Fu3⟩, k5, k1, k2, k3, k4⟩ := p
      have r3 : g3.1 271 = h.1 271 := by rw [k3 271 (by decide) (by decide), F.r, r1]
      have N3 : NR (ac_sv h) 0 g3 n k m := N.rw (RW.of r3) G.1.1.2.1 G.1.1.2.2
      refine ((sp_turns (d := 4) G3 (by omega)).cj (rx_turns (d := 4) (b := 0) (by omega) N3 G3 (by omega))) _ (fun v4 g4 p4 => ?_)
      obtain ⟨⟨x, -, G4, P4⟩, ev, N4⟩ := p4
      subst ev
      rw [r3, ← ru] at N4 ⊢
      rw [hpk]
      unfold cl_t at N4
      rw [hpk, if_neg c1] at N4
      have lo : ∀ e, e < 270 → g4.1 e = (ac_ca (rt_step (ac_sv h) 0 n m pk) (bI true)).1 e := fun e he => by rw [P4.1 e (by omega) (by omega) (by omega), k3 e (by omega) (by omega), F.1 e (by omega), o e (by omega)]
      have l15 : ∀ e, e < 15 → g4.1 e = (rt_step (ac_sv h) 0 n m pk).1 e := fun e he => by rw [lo e (by omega), ca1 e (by omega)]
      refine go_X9_pivot_23 (by decide) (q _ g4 ⟨rfl, NZ.done I.1 X (by omega) (g2 := rt_step (ac_sv h) 0 n m pk) (fun e h1 h2 => ?_) lo ?_ ?_ (fun ix h1 h2 => ?_) (fun u2 hu2 eu2 => ?_)⟩)
      · by_cases e240 : e = 240
        · rw [e240, E2]
        · exact L e (by omega) (by omega)
      · refine ⟨n, k, m + 1, by omega, HT.same (fun e _ h2 => l15 e (by omega)), G4.mono (by omega), ?_⟩
        have N5 : NR (rt_step (ac_sv h) 0 n m pk) 0 g4 n k (m + 1) := N4
        exact N5.eq G.1.1.2.1 G.1.1.2.2 (fun o2 ho => l15 (0 + o2) (by omega))
      · rw [P4.1 273 (by decide) (by decide) (by decide), k3 273 (by decide) (by decide), F.1 273 (by decide), oh 273 (by decide) (by decide)]
      · rw [P4.2.2.2 ix (Or.inr (Or.inr (Or.inr (Or.inl (by omega))))), r3]
      · have uu : u2 = u := (nI_eq (by omega) (by omega)).mp (eu2.symm.trans eu)
        subst uu
        refine ⟨by rw [P4.2.2.1 5 (by decide) (by decide)]; exact k5, fun j hj => ?_, fun i hi j hj => ?_⟩
        · rw [P4.1 274 (by decide) (by decide) (by decide), k1 j hj, F.r, r1, Nat.mul_zero, Nat.zero_add]
        · rw [P4.1 274 (by decide) (by decide) (by decide), k2 i hi j hj, F.1 274 (by decide), oh 274 (by decide) (by decide)]
    · rw [bI_0]
      simp [some]
end RNP
