/-! ===== the reference's work: what it leaves, exactly ===== -/
section SOW
variable {h g : LH} {d M n k m u : Nat} {c : Nat → Int32}
/-- row s was put on the undo rows, of h -/
def KPr (h g : LH) (u : Nat) : Prop := g.1 270 5 = nI (if u = 10 then 10 else u + 1) ∧ (∀ j, j < 170 → g.1 274 (170 * ((if u = 10 then 10 else u + 1) - 1) + j) = h.1 271 j) ∧ ∀ i, i < (if u = 10 then 10 else u + 1) - 1 → ∀ j, j < 170 → g.1 274 (170 * i + j) = h.1 274 (170 * (if u = 10 then i + 1 else i) + j)
theorem rz_work (R : RI h M) (hM : M ≤ 17000000) {L : Nat} (hL : L ≤ 400) (es : h.1 271 170 = nI L) (ec : (fun i => h.1 272 i &&& 255) = c) {hc : LH} (G : GI h n k M) (N : NR hc 0 h n k m) (hu : u ≤ 10) (eu : h.1 270 5 = nI u) : tf_Sp 11 69 [.ref 270] h (fun w g => ((px_wrk c L).1 ≠ 0 → w = .int (-1) ∧ (∀ i, i < 170 → g.1 271 i = h.1 271 i) ∧ g.1 270 5 = h.1 270 5 ∧ g.1 274 = h.1 274) ∧ ((px_wrk c L).1 = 0 → w = .int (nI (odf n k (lnV (px_all c L 1 80 (px_p c L 0)).1) (lnA (px_all c L 1 80 (px_p c L 0)).1) (px_all c L 1 80 (px_p c L 0)).1.length 0 hc m).2.2) ∧ GI g n k (M + 8000) ∧ NR (odf n k (lnV (px_all c L 1 80 (px_p c L 0)).1) (lnA (px_all c L 1 80 (px_p c L 0)).1) (px_all c L 1 80 (px_p c L 0)).1.length 0 hc m).1 0 g n k (odf n k (lnV (px_all c L 1 80 (px_p c L 0)).1) (lnA (px_all c L 1 80 (px_p c L 0)).1) (px_all c L 1 80 (px_p c L 0)).1.length 0 hc m).2.1 ∧ ((odf n k (lnV (px_all c L 1 80 (px_p c L 0)).1) (lnA (px_all c L 1 80 (px_p c L 0)).1) (px_all c L 1 80 (px_p c L 0)).1.length 0 hc m).2.2 = 0 → g.1 270 5 = h.1 270 5 ∧ g.1 274 = h.1 274) ∧ (0 < (odf n k (lnV (px_all c L 1 80 (px_p c L 0)).1) (lnA (px_all c L 1 80 (px_p c L 0)).1) (px_all c L 1 80 (px_p c L 0)).1.length 0 hc m).2.2 → KPr h g u))) := by
  intro Q q
  obtain ⟨-, U, I, -, Rd⟩ := R
  have ok := px_all_ok (c := c) (l := L) (o := 1) 80 (px_p c L 0) (px_p_le (Nat.zero_le _)).2
  have w0 := wrk_0 (c := c) hL
  have c80 := px_all_80 (c := c) (l := L) (o := 1) 80 (px_p c L 0)
  have we := px_wrk_eq (c := c) hL
  have n7 := G.1.1.2.1
  have k14 := G.1.1.2.2
  have a0 : ∀ e, e ≠ 270 → (w1 h 270 0 0).1 e = h.1 e := fun e he => w1_ne he
  have es1 : (w1 h 270 0 0).1 271 170 = nI L := by rw [a0 271 (by decide)]; exact es
  refine en_X9_work (by decide) (go_X9_work_0 (by decide) ((sp_alO (d := 3) (h := w1 h 270 0 0) hL es1 (Rd.same (a0 275 (by decide)))).cj (sx_alOw (d := 3) (h := w1 h 270 0 0) (c := c) hL es1 (by rw [a0 272 (by decide)]; exact ec) (Rd.same (a0 275 (by decide)))) _ (fun v g2 p2 => ?_)))
  obtain ⟨⟨F2, R2, p2⟩, x2, y2⟩ := p2
  have lo2 : ∀ e, e < 275 → e ≠ 270 → e ≠ 271 → g2.1 e = h.1 e := fun e h1 h2 h3 => (F2.1 e h1 h2 h3).trans (a0 e h2)
  have row2 : ∀ ix, ix ≠ 170 → g2.1 271 ix = h.1 271 ix := fun ix hx => by rw [F2.2.1 ix hx, a0 271 (by decide)]
  have e25 : g2.1 270 5 = h.1 270 5 := F2.2.2.2.trans (w1_at (by decide))
  have rI : ∀ y z : Int32, (∀ ix, ix ≠ 170 → ix ≠ 171 → ix ≠ 172 → (isf g2 y z).1 271 ix = h.1 271 ix) ∧ (∀ e, e ≠ 271 → (isf g2 y z).1 e = g2.1 e) ∧ (isf g2 y z).1 271 171 = y ∧ (isf g2 y z).2 = g2.2 := by
    intro y z
    refine ⟨fun ix h1 h2 h3 => by unfold isf; rw [w1_at h3, w1_at h2]; exact row2 ix h1, fun e he => by unfold isf; rw [w1_ne he, w1_ne he], ?_, rfl⟩
    unfold isf
    rw [w1_at (by decide), w1_eq]
  have k48 : ∀ x1 y z : Int32, (y, z) = px_rwrk c L → (y ≠ 0 ∨ ∃ o, o ≤ 80 ∧ g2.1 270 23 = nI o ∧ NBo g2 o) → lx_X9_work 298 (tf_Cd 298 10) Q 48 [.ref 270, .int x1, tf_z] [.int z, .int y, .ref 270] g2 := by
    intro x1 y z hr hy
    have hr1 : (px_wrk c L).1 = y := by rw [we, ← hr]
    refine go_X9_work_48 (by decide) (sx_isf (d := 9) _ _ _ ?_)
    obtain ⟨r0, rl, s1, sl2⟩ := rI y z
    by_cases y0 : y = 0
    · obtain ⟨o, ho, e23, NBk⟩ := hy.resolve_left (fun z => z y0)
      have z0 : (px_wrk c L).1 = 0 := hr1.trans y0
      obtain ⟨za, oS, os0⟩ := w0 z0
      obtain ⟨-, -, l23, ON, WD⟩ := y2 za
      have q2 := fun v g p => q v g ⟨fun z => absurd z0 z, fun _ => p⟩
      clear q x2 y2 w0 we hr
      generalize (px_all c L 1 80 (px_p c L 0)).1 = ls at *
      have eo : o = ls.length := by
        exact (nI_eq (by omega) (by omega)).mp (e23.symm.trans l23)
      subst eo
      refine go_X9_work_51 (by decide) ⟨fun _ => go_X9_work_64 (by decide) ?_, fun c => absurd (s1.trans y0) c⟩
      generalize isf g2 y z = g5 at r0 rl s1 sl2
      have G5 : GI g5 n k M := G.cong (fun i hi => r0 i (by omega) (by omega) (by omega))
      refine sp_cp (d := 9) (a := 0) (b := 4) (by omega) (by omega) (by omega) _ (fun _ g6 p6 => go_X9_work_70 (by decide) ?_)
      obtain ⟨c1, c2, c3, c4⟩ := p6
      have h6 : ∀ i, i < 170 → g6.1 271 i = h.1 271 i := fun i hi => by rw [c4 i (by omega), r0 i (by omega) (by omega) (by omega)]
      have G6 : GI g6 n k M := G.cong (fun i hi => h6 i hi)
      have N6 : NR hc 0 g6 n k m := N.rw (fun i hi => h6 i hi) n7 k14
      have S6 : GI (sl g6 271 (173 * 4)) n k M := G5.cong (fun i hi => by rw [sl_at, c3 i (by omega), Nat.mul_zero, Nat.zero_add])
      have e6 : g6.1 270 23 = nI ls.length := by rw [c1 270 (by decide), rl 270 (by decide)]; exact e23
      have NB6 : NBo g6 ls.length := NBk.same (by rw [c1 280 (by decide), rl 280 (by decide)])
      have g65 : g6.1 270 5 = nI u := by rw [c1 270 (by decide), rl 270 (by decide), e25]; exact eu
      have g674 : g6.1 274 = h.1 274 := by rw [c1 274 (by decide), rl 274 (by decide), lo2 274 (by decide) (by decide) (by decide)]
      have W6 : ∀ i, i < ls.length → g6.2 279 i = px_W.getD (lnV ls i) 0 := fun i hi => by
        obtain ⟨a, b⟩ := ln_at hi
        rw [c2, sl2]
        exact WD i _ a
      have O6 : ONs g6 ls := ON.same (by rw [c1 280 (by decide), rl 280 (by decide)])
      have hv : ∀ i, i < ls.length → lnV ls i = 2 ∨ (5 ≤ lnV ls i ∧ lnV ls i < 15) := fun i hi => lnV_v (ok _ (ln_at hi).2)
      have h9 : ∀ i, i < ls.length → lnV ls i = 9 → ∃ NN, NN ≤ 60 ∧ g6.1 280 (4 * i + 0) = nI NN := fun i hi z9 => by
        obtain ⟨a, b⟩ := ln_at hi
        obtain ⟨NN, n1, n2, n3⟩ := (px_os_0 ls _ os0).2 i _ a z9
        have KL := ok _ b
        have len : 0 < (ls.getD i (0, 0, [])).2.2.length := by
          have hn : (ls.getD i (0, 0, [])).2.2.length = (tv_o.getD (ls.getD i (0, 0, [])).1 0).toNatClampNeg := KL.2.2.1
          have z9 : (ls.getD i (0, 0, [])).1 = 9 := z9
          rw [hn, z9]
          decide
        have en := no_at len
        refine ⟨NN, n2, ?_⟩
        rw [O6 i _ a 0 _ (by omega) en, (oS_in ls (-1) (fun L hL N hN => by have := ((ok L hL).2.2.2.2 N hN).2; omega) oS).2 _ b 0 _ en]
        exact n3
      have wx := wr_X (h := g6) (n := n) (k := k) (M := M) (V := lnV ls) (x1 := x1) (Q := Q) hM ho e6 NB6 W6 hv h9 ls.length 0 g6 hc m (by omega) (G6.mono (by omega)) N6 FD.rf rfl
      rw [odf_r ok O6 oS hL] at wx
      refine wx (fun g7 G7 N7 F7 => ?_)
      clear wx
      have bd := odf_i (n := n) (k := k) (V := lnV ls) (A := lnA ls) ls.length 0 hc m
      generalize odf n k (lnV ls) (lnA ls) ls.length 0 hc m = P at *
      have g75 : g7.1 270 5 = nI u := by rw [F7.2.1 5 (by decide) (by decide)]; exact g65
      have g774 : g7.1 274 = h.1 274 := by rw [F7.1 274 (by decide) (by decide) (by decide)]; exact g674
      refine go_X9_work_127 (by decide) ⟨fun z => go_X9_work_136 (by decide) (q2 _ _ ⟨rfl, G7, N7, fun _ => ⟨g75.trans eu.symm, g774⟩, fun y => ?_⟩), fun z => rx_keeps (d := 9) (s := 4) (by omega) hu g75 _ (fun _ g8 p8 => go_X9_work_136 (by decide) (q2 _ _ ?_))⟩
      · have := (nI_leI (a := P.2.2) (b := 0) (by omega) (by omega)).mp z
        omega
      · obtain ⟨k5, k1, k2, k3, k4⟩ := p8
        have r8 : ∀ i, i < 170 → g8.1 271 i = g7.1 271 i := fun i _ => by rw [k3 271 (by decide) (by decide)]
        refine ⟨rfl, G7.cong (fun i hi => r8 i hi), N7.rw (fun i hi => r8 i hi) n7 k14, fun y => ?_, fun _ => ⟨k5, fun j hj => ?_, fun i hi j hj => ?_⟩⟩
        · rw [y] at z
          exact absurd (by decide) z
        · rw [k1 j hj, F7.2.2 _ (by omega), c3 j (by omega), Nat.mul_zero, Nat.zero_add, r0 j (by omega) (by omega) (by omega)]
        · rw [k2 i hi j hj, g774]
    · refine go_X9_work_51 (by decide) ⟨fun c => absurd (s1.symm.trans c) y0, fun _ => q _ _ ⟨fun _ => ⟨rfl, fun i hi => r0 i (by omega) (by omega) (by omega), by rw [rl 270 (by decide)]; exact e25, by rw [rl 274 (by decide)]; exact lo2 274 (by decide) (by decide) (by decide)⟩, fun z => absurd (hr1.symm.trans z) y0⟩⟩
  cases za : (px_all c L 1 80 (px_p c L 0)).2 with
  | some p =>
    obtain ⟨rfl, e12⟩ := x2 p za
    have rl : px_rwrk c L = (1, nI p) := by unfold px_rwrk; rw [za]
    exact go_X9_work_10 (by decide) ⟨fun _ => go_X9_work_33 (by decide) ⟨fun _ => k48 _ _ _ (by rw [rl, e12]) (Or.inl (by decide)), fun z => absurd rfl z⟩, fun z => absurd rfl z⟩
  | none =>
    obtain ⟨rfl, e13, e23, -⟩ := y2 za
    have rl : px_rwrk c L = (if px_oS (px_all c L 1 80 (px_p c L 0)).1 (-1) ≠ -1 then (2, px_oS (px_all c L 1 80 (px_p c L 0)).1 (-1)) else (0, -1)) := by unfold px_rwrk; rw [za]
    rcases p2 with p2 | ⟨-, p2⟩
    · exact absurd p2 (by intro y; cases y)
    refine go_X9_work_10 (by decide) ⟨fun z => absurd z (by decide), fun _ => go_X9_work_20 (by decide) ⟨fun c13 => go_X9_work_32 (by decide) (go_X9_work_33 (by decide) ⟨fun z => absurd z (by decide), fun _ => go_X9_work_44 (by decide) (k48 _ _ _ ?_ (Or.inr p2))⟩), fun c13 => go_X9_work_33 (by decide) ⟨fun z => absurd z (by decide), fun _ => go_X9_work_44 (by decide) (k48 _ _ _ ?_ (Or.inl (by decide)))⟩⟩⟩
    · rw [rl, if_neg (fun y => y (e13.symm.trans c13)), c13]
    · rw [rl, if_pos (fun y => c13 (e13.trans y)), e13]
end SOW
