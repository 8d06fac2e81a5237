/-! ===== the class's trials: the least of all ===== -/
section PT
variable {h : LH} {M d N : Nat}
def lo_v (n k : Nat) (g : LH) : Int32 := if nt_unm g 15 n 0 0 = 0 then nt_spn g 15 k 0 0 else -1000000
theorem sx_lot {n k m c : Nat} (hN : N ≤ 1000000) (eN : nI N = 1000000) (H : NT h 15 n k m) (hm : m < 1900000000) (R : RO h c) : tf_Rt (d + 6) 217 [.ref 240] h (.int (lo_v n k (rt_run 15 n k 1 N 0 m h).2)) (rt_run 15 n k 1 N 0 m h).2 := by
  have s1 := sx_run (d := d) H hN (by omega) R 1
  obtain ⟨⟨m2, -, H2⟩, -, -⟩ := rt_run_ok (rule := 1) N 0 m h c H R
  rw [eN] at s1
  generalize (rt_run 15 n k 1 N 0 m h).2 = g at s1 H2
  intro Q q
  unfold lo_v at q
  refine en_X8_leastOfTrial (by decide) (go_X8_leastOfTrial_0 (by decide) (s1 _ (go_X8_leastOfTrial_15 (by decide) (sx_unm (d := d + 4) H2.1.1 H2.1.pts.1 H2.1.pts.2 _ (go_X8_leastOfTrial_23 (by decide) ⟨fun c => sx_spn (d := d + 4) H2.1.1 H2.1.arcs.1 H2.1.arcs.2 _ (go_X8_leastOfTrial_33 (by decide) (go_X8_leastOfTrial_39 (by decide) ?_)), fun c => go_X8_leastOfTrial_36 (by decide) (go_X8_leastOfTrial_39 (by decide) ?_)⟩)))))
  · rw [if_pos c] at q
    exact q
  · rw [if_neg c] at q
    exact q
/-- a trial run: what stays -/
theorem lot_ok {n k m : Nat} (X : XA h M) (hm : m ≤ M) (hM : M < 1900000000) (H : NT h 15 n k m) : ∃ (v : Int32) (g : LH), tf_Rt (d + 6) 217 [.ref 240] h (.int v) g ∧ XA g (M + 1000000) ∧ Fr h g ∧ (∀ e, e < 15 → g.1 e = h.1 e) := by
  obtain ⟨N, hN, eN, hN2⟩ : ∃ N, N ≤ 1000000 ∧ nI N = 1000000 ∧ N = 1000000 := ⟨1000000, Nat.le_refl _, rfl, rfl⟩
  obtain ⟨c, R⟩ := X.2.1
  have s1 := sx_lot (d := d) hN eN H (by omega) R
  obtain ⟨X2, F2⟩ := X.run (r0 := 1) (N := N) (by omega) hm H R 1
  obtain ⟨-, -, L⟩ := rt_run_ok (rule := 1) N 0 m h c H R
  rw [hN2] at X2
  rw [hN2] at s1 L F2
  have F2' : Fr h (rt_run 15 n k 1 1000000 0 m h).2 := F2
  have X2' : XA (rt_run 15 n k 1 1000000 0 m h).2 (M + 1000000) := X2
  exact ⟨_, _, s1, X2', F2', fun e he => L e (by omega) (by omega)⟩
theorem cp_try (X : XA h M) {n k m : Nat} (hm : m ≤ M) (H : NT h 0 n k m) : ∃ g : LH, tf_Rt (d + 2) 116 [.ref 15, .ref 0] h tf_z g ∧ XA g M ∧ Fr h g ∧ NT g 15 n k m ∧ (∀ e, ¬ (15 ≤ e ∧ e < 30) → g.1 e = h.1 e) := by
  have s := sx_ncp (d := d) (h := h) (b := 15) (c := 0) (by decide +kernel) (by decide +kernel) (by decide)
  have C := nt_cp_ok (h := h) (b := 15) (c := 0) (by decide +kernel) (by decide +kernel) (by decide)
  generalize nt_cp h 15 0 = g at s C
  have HT := C.nt (by decide +kernel) H
  exact ⟨g, s, X.put (r0 := 1) (by omega) hm HT (fun e he => C.1 e (by omega)), ⟨fun e he => C.1 e (by omega), C.2.1⟩, HT, fun e he => C.1 e (by omega)⟩
theorem pq_least (X : XA h M) (hM : M < 1900000000) : ∃ (v : Int32) (g : LH), tf_Rt 11 205 [.ref 240] h (.int v) g ∧ XA g (M + 1000000) ∧ Fr h g := by
  obtain ⟨n, k, m, hm, H⟩ := X.net
  obtain ⟨g1, s1, X1, F1, H1, L1⟩ := cp_try (d := 8) X hm H
  obtain ⟨v, g2, s2, X2, F2, -⟩ := lot_ok (d := 4) X1 hm hM H1
  exact ⟨v, g2, fun Q q => en_X8_least (by decide) (go_X8_least_0 (by decide) (s1 _ (go_X8_least_11 (by decide) (s2 _ (go_X8_least_15 (by decide) q))))), X2, F1.tr F2⟩
theorem pq_steps (X : XA h M) (hM : M < 1900000000) (x : Int32) : ∃ (v : Int32) (g : LH), tf_Rt 11 208 [.ref 240, .int x] h (.int v) g ∧ XA g (M + 1000000) ∧ Fr h g := by
  obtain ⟨n, k, m, hm, H⟩ := X.net
  have s0 := sx_isR (d := 9) (h := h) x
  by_cases e : nt_isR x = true
  · obtain ⟨g1, s1, X1, F1, H1, L1⟩ := cp_try (d := 8) X hm H
    obtain ⟨N, hN, eN, hN2⟩ : ∃ N, N ≤ 1000000 ∧ nI N = 1000000 ∧ N = 1000000 := ⟨1000000, Nat.le_refl _, rfl, rfl⟩
    obtain ⟨c, R⟩ := X1.2.1
    have s2 := sx_run (d := 5) H1 hN (by omega) R x
    obtain ⟨X2, F2⟩ := X1.run (r0 := 1) (N := N) (by omega) hm H1 R x
    rw [eN] at s2
    rw [show M + N = M + 1000000 by omega] at X2
    have X2' : XA (rt_run 15 n k x N 0 m g1).2 (M + 1000000) := X2
    have F2' : Fr g1 (rt_run 15 n k x N 0 m g1).2 := F2
    generalize (rt_run 15 n k x N 0 m g1) = w at s2 X2' F2'
    exact ⟨_, _, fun Q q => en_X8_steps (by decide) (go_X8_steps_0 (by decide) (s0 _ (go_X8_steps_4 (by decide) ⟨fun z => absurd z (by rw [bI_0, e]; decide), fun _ => go_X8_steps_9 (by decide) (s1 _ (go_X8_steps_20 (by decide) (s2 _ (go_X8_steps_35 (by decide) q))))⟩))), X2', F1.tr F2'⟩
  · exact ⟨_, _, fun Q q => en_X8_steps (by decide) (go_X8_steps_0 (by decide) (s0 _ (go_X8_steps_4 (by decide) ⟨fun _ => q, fun z => absurd (by rw [bI_0]; exact Bool.eq_false_iff.mpr e) z⟩))), X.mono (by omega), Fr.rf⟩
def qv_less (x y : Int32) : Int32 := if y = -1000000 then -1000000 else if x = -1000000 then -1000000 else x - y
theorem sx_less (x y : Int32) : tf_Rt (d + 1) 218 [.int x, .int y] h (.int (qv_less x y)) h := by
  intro Q q
  unfold qv_less at q
  refine en_X8_less (by decide) (go_X8_less_0 (by decide) ⟨fun c => go_X8_less_14 (by decide) (go_X8_less_23 (by decide) ?_), fun c => ⟨fun c2 => go_X8_less_14 (by decide) (go_X8_less_23 (by decide) ?_), fun c2 => go_X8_less_20 (by decide) (go_X8_less_23 (by decide) ?_)⟩⟩)
  · rw [if_pos c] at q
    exact q
  · rw [if_neg c, if_pos c2] at q
    exact q
  · rw [if_neg c, if_neg c2] at q
    exact q
/-- the trial changed by one and begun again -/
theorem try_beg {g : LH} {n k m : Nat} (X : XA h M) (hm : m ≤ M) (HG : NT g 15 n k m) (L : ∀ e, ¬ (15 ≤ e ∧ e < 30) → g.1 e = h.1 e) (e2 : g.2 = h.2) : ∃ g2 : LH, tf_Rt (d + 2) 128 [.ref 15, .int 1] g tf_z g2 ∧ XA g2 M ∧ Fr h g2 ∧ NT g2 15 n k m ∧ (∀ e, e < 15 → g2.1 e = h.1 e) := by
  have s := sx_beg (d := d) HG.1 1
  obtain ⟨HB, LB, B2⟩ := beg_ok HG 1
  generalize nt_beg g 15 n k 1 = g2 at s HB LB B2
  have L2 : ∀ e, ¬ (15 ≤ e ∧ e < 30) → g2.1 e = h.1 e := fun e he => by rw [LB e (by omega), L e he]
  exact ⟨g2, s, X.put (r0 := 1) (by omega) hm HB (fun e he => L2 e (by omega)), ⟨fun e he => L2 e (by omega), by rw [B2, e2]⟩, HB, fun e he => L2 e (by omega)⟩
theorem pq_worth (X : XA h M) (hM : M < 1890000000) (x y : Int32) : ∃ (v : Int32) (g : LH), tf_Rt 11 209 [.ref 240, .int x, .int y] h (.int v) g ∧ XA g (M + 2000000) ∧ Fr h g := by
  obtain ⟨n, k, m, hm, H⟩ := X.net
  have s0 := sx_hasArc (h := h) (d := 9) H.1.1 x
  by_cases e : nt_hasArc h 0 x = true
  · have hx : vp_in x 14 := vi_mono (ha_vi H.1.arcs.1 H.1.arcs.2 e) H.1.arcs.2
    have hx21 : vp_in x 21 := vi_mono hx (by omega)
    have enz : ¬ bI (nt_hasArc h 0 x) = 0 := by rw [bI_0, e]; decide
    by_cases c1 : y < 0
    · exact ⟨_, _, fun Q q => en_X8_worth (by decide) (go_X8_worth_0 (by decide) (s0 _ (go_X8_worth_8 (by decide) ⟨fun z => absurd z enz, fun _ => ⟨fun _ => go_X8_worth_20 (by decide) q, fun z => absurd c1 z⟩⟩))), X.mono (by omega), Fr.rf⟩
    · by_cases c2 : y ≤ 2
      · obtain ⟨g1, s1, X1, F1, H1, L1⟩ := cp_try (d := 8) X hm H
        obtain ⟨v, g2, s2, X2, F2, L2⟩ := lot_ok (d := 4) X1 hm (by omega) H1
        have H2 : NT g2 0 n k m := H.same (fun e h1 h2 => by rw [L2 e (by omega), L1 e (by omega)])
        obtain ⟨g3, s3, X3, F3, H3, L3⟩ := cp_try (d := 8) X2 (by omega) H2
        have main : ∃ (w : Int32) (g : LH), (∀ Q : tf_Q, Q (.int w) g → lx_X8_worth 298 (tf_Cd 298 10) Q 51 [.ref 240, .int x, .int y, .int v] [] g3) ∧ XA g (M + 2000000) ∧ Fr g3 g := by
          have fin : ∀ g4 : LH, NT g4 15 n k m → (∀ e, ¬ (15 ≤ e ∧ e < 30) → g4.1 e = g3.1 e) → g4.2 = g3.2 → ∃ (w : Int32) (g : LH), (∀ Q : tf_Q, Q (.int w) g → lx_X8_worth 298 (tf_Cd 298 10) Q 102 [.ref 240, .int x, .int y, .int v] [] g4) ∧ XA g (M + 2000000) ∧ Fr g3 g := by
            intro g4 H4 L4 E4
            obtain ⟨g5, s5, X5, F5, H5, L5⟩ := try_beg (d := 8) X3 (by omega) H4 L4 E4
            obtain ⟨w, g6, s6, X6, F6, -⟩ := lot_ok (d := 4) X5 (by omega) (by omega) H5
            have s7 := sx_less (d := 9) (h := g6) w v
            exact ⟨_, _, fun Q q => go_X8_worth_102 (by decide) (s5 _ (go_X8_worth_110 (by decide) (s6 _ (go_X8_worth_114 (by decide) (s7 _ (go_X8_worth_118 (by decide) q)))))), by rw [show M + 2000000 = M + 1000000 + 1000000 by omega]; exact X6, F5.tr F6⟩
          have w15 : ∀ (c i : Nat) (u : Int32), 15 ≤ c → c < 30 → ∀ e, ¬ (15 ≤ e ∧ e < 30) → (w1 g3 c i u).1 e = g3.1 e := fun c i u h1 h2 e he => w1_ne (by omega)
          by_cases c3 : y = 0
          · obtain ⟨w, g, k1, k2⟩ := fin (w1 g3 19 x.toNatClampNeg (g3.1 19 x.toNatClampNeg + 1)) (H3.w6 (by decide) (by decide) (by decide) (by decide) (by decide) (by decide)) (w15 _ _ _ (by decide) (by decide)) rfl
            exact ⟨w, g, fun Q q => go_X8_worth_51 (by decide) ⟨fun _ => ⟨hx21, hx21, k1 Q q⟩, fun z => absurd c3 z⟩, k2⟩
          · by_cases c4 : y = 1
            · obtain ⟨w, g, k1, k2⟩ := fin (w1 g3 22 x.toNatClampNeg 3) (H3.w6 (by decide) (by decide) (by decide) (by decide) (by decide) (by decide)) (w15 _ _ _ (by decide) (by decide)) rfl
              exact ⟨w, g, fun Q q => go_X8_worth_51 (by decide) ⟨fun z => absurd z c3, fun _ => go_X8_worth_71 (by decide) ⟨fun _ => ⟨hx21, k1 Q q⟩, fun z => absurd c4 z⟩⟩, k2⟩
            · obtain ⟨w, g, k1, k2⟩ := fin (w1 g3 20 x.toNatClampNeg (g3.1 20 x.toNatClampNeg + 1)) (H3.w6 (by decide) (by decide) (by decide) (by decide) (by decide) (by decide)) (w15 _ _ _ (by decide) (by decide)) rfl
              exact ⟨w, g, fun Q q => go_X8_worth_51 (by decide) ⟨fun z => absurd z c3, fun _ => go_X8_worth_71 (by decide) ⟨fun z => absurd z c4, fun _ => go_X8_worth_89 (by decide) ⟨hx21, hx21, k1 Q q⟩⟩⟩, k2⟩
        obtain ⟨w, g, k1, k2, k3⟩ := main
        exact ⟨w, g, fun Q q => en_X8_worth (by decide) (go_X8_worth_0 (by decide) (s0 _ (go_X8_worth_8 (by decide) ⟨fun z => absurd z enz, fun _ => ⟨fun z => absurd z c1, fun _ => ⟨fun _ => go_X8_worth_24 (by decide) (s1 _ (go_X8_worth_35 (by decide) (s2 _ (go_X8_worth_39 (by decide) (s3 _ (k1 Q q)))))), fun z => absurd c2 z⟩⟩⟩))), k2, ((F1.tr F2).tr F3).tr k3⟩
      · exact ⟨_, _, fun Q q => en_X8_worth (by decide) (go_X8_worth_0 (by decide) (s0 _ (go_X8_worth_8 (by decide) ⟨fun z => absurd z enz, fun _ => ⟨fun z => absurd z c1, fun _ => ⟨fun z => absurd z c2, fun _ => go_X8_worth_20 (by decide) q⟩⟩⟩))), X.mono (by omega), Fr.rf⟩
  · exact ⟨_, _, fun Q q => en_X8_worth (by decide) (go_X8_worth_0 (by decide) (s0 _ (go_X8_worth_8 (by decide) ⟨fun _ => go_X8_worth_20 (by decide) q, fun z => absurd (by rw [bI_0]; exact Bool.eq_false_iff.mpr e) z⟩))), X.mono (by omega), Fr.rf⟩
theorem pq_toll (X : XA h M) (hM : M < 1890000000) (x y : Int32) : ∃ (v : Int32) (g : LH), tf_Rt 11 210 [.ref 240, .int x, .int y] h (.int v) g ∧ XA g (M + 2000000) ∧ Fr h g := by
  obtain ⟨n, k, m, hm, H⟩ := X.net
  have s0 := sx_two (h := h) (d := 8) H.1.1 x y
  by_cases e : nt_two h 0 x y = true
  · obtain ⟨hx, hy⟩ := two_in H.1 e
    obtain ⟨g1, s1, X1, F1, H1, L1⟩ := cp_try (d := 8) X hm H
    obtain ⟨v, g2, s2, X2, F2, L2⟩ := lot_ok (d := 4) X1 hm (by omega) H1
    have H2 : NT g2 0 n k m := H.same (fun e h1 h2 => by rw [L2 e (by omega), L1 e (by omega)])
    obtain ⟨g3, s3, X3, F3, H3, L3⟩ := cp_try (d := 8) X2 (by omega) H2
    obtain ⟨g4, hg4⟩ : ∃ g4 : LH, g4 = w1 (w1 g3 16 x.toNatClampNeg (g3.1 16 x.toNatClampNeg + 1)) 16 y.toNatClampNeg ((w1 g3 16 x.toNatClampNeg (g3.1 16 x.toNatClampNeg + 1)).1 16 y.toNatClampNeg - 1) := ⟨_, rfl⟩
    have H4 : NT g4 15 n k m := by
      rw [hg4]
      exact (H3.w6 (by decide) (by decide) (by decide) (by decide) (by decide) (by decide)).w6 (by decide) (by decide) (by decide) (by decide) (by decide) (by decide)
    have L4 : ∀ e, ¬ (15 ≤ e ∧ e < 30) → g4.1 e = g3.1 e := fun e he => by rw [hg4, w1_ne (by omega), w1_ne (by omega)]
    have E4 : g4.2 = g3.2 := by rw [hg4]
    obtain ⟨g5, s5, X5, F5, H5, L5⟩ := try_beg (d := 8) X3 (by omega) H4 L4 E4
    obtain ⟨w, g6, s6, X6, F6, -⟩ := lot_ok (d := 4) X5 (by omega) (by omega) H5
    have s7 := sx_less (d := 9) (h := g6) w v
    refine ⟨qv_less w v, g6, fun Q q => en_X8_toll (by decide) (go_X8_toll_0 (by decide) (s0 _ (go_X8_toll_9 (by decide) ⟨fun z => absurd z (by rw [bI_0, e]; decide), fun _ => go_X8_toll_16 (by decide) (s1 _ (go_X8_toll_27 (by decide) (s2 _ (go_X8_toll_31 (by decide) (s3 _ (go_X8_toll_43 (by decide) ⟨hx, hx, hy, hy, ?_⟩))))))⟩))), by rw [show M + 2000000 = M + 1000000 + 1000000 by omega]; exact X6, (((F1.tr F2).tr F3).tr F5).tr F6⟩
    have := s5 (fun r g => lx_X8_toll 298 (tf_Cd 298 10) Q 77 [.ref 240, .int x, .int y, .int v] [] g) (go_X8_toll_77 (by decide) (s6 _ (go_X8_toll_81 (by decide) (s7 _ (go_X8_toll_85 (by decide) q)))))
    rw [hg4] at this
    exact this
  · exact ⟨_, _, fun Q q => en_X8_toll (by decide) (go_X8_toll_0 (by decide) (s0 _ (go_X8_toll_9 (by decide) ⟨fun _ => q, fun z => absurd (by rw [bI_0]; exact Bool.eq_false_iff.mpr e) z⟩))), X.mono (by omega), Fr.rf⟩
end PT
