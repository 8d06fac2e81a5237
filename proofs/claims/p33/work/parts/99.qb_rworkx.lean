/-! ===== the reference's work: what it finds at fault ===== -/
/-- what work finds at fault, by the reference -/
def px_rwrk (c : Nat → Int32) (L : Nat) : Int32 × Int32 := match (px_all c L 1 80 (px_p c L 0)).2 with
  | some p => (1, nI p)
  | none => if px_oS (px_all c L 1 80 (px_p c L 0)).1 (-1) ≠ -1 then (2, px_oS (px_all c L 1 80 (px_p c L 0)).1 (-1)) else (0, -1)
section RXE
variable {h g : LH} {d M : Nat} {c : Nat → Int32}
theorem rx_work (R : RI h M) (hM : M ≤ 17000000) {L : Nat} (hL : L ≤ 400) (es : h.1 271 170 = nI L) (ec : (fun i => h.1 272 i &&& 255) = c) : tf_Sp 11 69 [.ref 270] h (fun _ g => (g.1 271 171, g.1 271 172) = px_rwrk c L) := by
  intro Q q
  obtain ⟨⟨n, k, GIh⟩, U, I, -, Rd⟩ := R
  have a0 : ∀ e, e ≠ 270 → (w1 h 270 0 0).1 e = h.1 e := fun e he => w1_ne he
  have es1 : (w1 h 270 0 0).1 271 170 = nI L := by rw [a0 271 (by decide)]; exact es
  refine en_X9_work (by decide) (go_X9_work_0 (by decide) ((sp_alO (d := 3) (h := w1 h 270 0 0) hL es1 (Rd.same (a0 275 (by decide)))).cj (sx_alO (d := 3) (h := w1 h 270 0 0) (c := c) hL es1 (by rw [a0 272 (by decide)]; exact ec) (Rd.same (a0 275 (by decide)))) _ (fun v g2 p2 => ?_)))
  obtain ⟨⟨F2, R2, p2⟩, x2, y2⟩ := p2
  have lo2 : ∀ e, e < 275 → e ≠ 270 → e ≠ 271 → g2.1 e = h.1 e := fun e h1 h2 h3 => (F2.1 e h1 h2 h3).trans (a0 e h2)
  have row2 : ∀ ix, ix ≠ 170 → g2.1 271 ix = h.1 271 ix := fun ix hx => by rw [F2.2.1 ix hx, a0 271 (by decide)]
  have e25 : g2.1 270 5 = h.1 270 5 := F2.2.2.2.trans (w1_at (by decide))
  have rI : ∀ y z : Int32, (∀ ix, ix ≠ 170 → ix ≠ 171 → ix ≠ 172 → (isf g2 y z).1 271 ix = h.1 271 ix) ∧ (∀ e, e ≠ 271 → (isf g2 y z).1 e = g2.1 e) ∧ (isf g2 y z).1 271 171 = y ∧ (isf g2 y z).1 271 172 = z := by
    intro y z
    refine ⟨fun ix h1 h2 h3 => by unfold isf; rw [w1_at h3, w1_at h2]; exact row2 ix h1, fun e he => by unfold isf; rw [w1_ne he, w1_ne he], ?_, ?_⟩
    · unfold isf
      rw [w1_at (by decide), w1_eq]
    · unfold isf
      rw [w1_eq]
  have k48 : ∀ x1 y z : Int32, (y, z) = px_rwrk c L → (y ≠ 0 ∨ ∃ o, o ≤ 80 ∧ g2.1 270 23 = nI o ∧ NBo g2 o) → lx_X9_work 298 (tf_Cd 298 10) Q 48 [.ref 270, .int x1, tf_z] [.int z, .int y, .ref 270] g2 := by
    intro x1 y z hr hy
    refine go_X9_work_48 (by decide) (sx_isf (d := 9) _ _ _ ?_)
    obtain ⟨r0, rl, s1, s2⟩ := rI y z
    by_cases y0 : y = 0
    · obtain ⟨o, ho, e23, N⟩ := hy.resolve_left (fun z => z y0)
      refine go_X9_work_51 (by decide) ⟨fun _ => go_X9_work_64 (by decide) ?_, fun c => absurd (s1.trans y0) c⟩
      generalize isf g2 y z = g5 at r0 rl s1 s2
      have G5 : GI g5 n k M := GIh.cong (fun i hi => r0 i (by omega) (by omega) (by omega))
      refine sp_cp (d := 9) (a := 0) (b := 4) (by omega) (by omega) (by omega) _ (fun _ g6 p6 => go_X9_work_70 (by decide) ?_)
      obtain ⟨c1, -, c3, c4⟩ := p6
      have G6 : GI g6 n k M := G5.cong (fun i hi => c4 i (by omega))
      have S6 : GI (sl g6 271 (173 * 4)) n k M := G5.cong (fun i hi => by rw [sl_at, c3 i (by omega), Nat.mul_zero, Nat.zero_add])
      have e6 : g6.1 270 23 = nI o := by rw [c1 270 (by decide), rl 270 (by decide)]; exact e23
      have N6 : NBo g6 o := N.same (by rw [c1 280 (by decide), rl 280 (by decide)])
      have fin : ∀ (x : Int32) (g8 : LH), (∀ ix, 170 ≤ ix → g8.1 271 ix = g6.1 271 ix) → lx_X9_work 298 (tf_Cd 298 10) Q 136 [.ref 270, .int x1, .int x] [] g8 := by
        intro x g8 x8
        refine go_X9_work_136 (by decide) (q _ g8 ?_)
        show (g8.1 271 171, g8.1 271 172) = px_rwrk c L
        rw [x8 171 (by omega), x8 172 (by omega), c4 171 (by omega), c4 172 (by omega), s1, s2]
        exact hr
      have U6 : RU g6 M := U.same (by rw [c1 270 (by decide), rl 270 (by decide)]; exact e25) (by rw [c1 274 (by decide), rl 274 (by decide)]; exact lo2 274 (by decide) (by decide) (by decide))
      refine wr_L hM ho e6 N6 (fun x g7 G7 F7 => ?_) o 0 g6 (by omega) (G6.mono (by omega)) FD.rf
      have U7 : RU g7 (M + 8000) := (U6.mono (by omega)).same (F7.2.1 5 (by decide) (by decide)) (F7.1 274 (by decide) (by decide) (by decide))
      have S7 : GI (sl g7 271 (173 * 4)) n k (M + 8000) := (S6.mono (by omega)).sl_sl (fun i hi => F7.2.2 _ (by omega))
      refine go_X9_work_127 (by decide) ⟨fun _ => fin x g7 F7.2.2, fun _ => sp_keeps (d := 9) (s := 4) (by omega) U7 S7 _ (fun _ g8 p8 => ?_)⟩
      exact fin x g8 (fun ix hx => by rw [p8.2.1 271 (by decide) (by decide)]; exact F7.2.2 ix hx)
    · refine go_X9_work_51 (by decide) ⟨fun c => absurd (s1.symm.trans c) y0, fun _ => q _ _ ?_⟩
      show ((isf g2 y z).1 271 171, (isf g2 y z).1 271 172) = px_rwrk c L
      rw [s1, s2]
      exact hr
  cases za : (px_all c L 1 80 (px_p c L 0)).2 with
  | some p =>
    obtain ⟨rfl, e12⟩ := x2 p za
    have rl : px_rwrk c L = (1, nI p) := by unfold px_rwrk; rw [za]
    exact go_X9_work_10 (by decide) ⟨fun _ => go_X9_work_33 (by decide) ⟨fun _ => k48 _ _ _ (by rw [rl, e12]) (Or.inl (by decide)), fun z => absurd rfl z⟩, fun z => absurd rfl z⟩
  | none =>
    obtain ⟨rfl, e13, e23, -⟩ := y2 za
    have rl : px_rwrk c L = (if px_oS (px_all c L 1 80 (px_p c L 0)).1 (-1) ≠ -1 then (2, px_oS (px_all c L 1 80 (px_p c L 0)).1 (-1)) else (0, -1)) := by unfold px_rwrk; rw [za]
    rcases p2 with p2 | ⟨-, p2⟩
    · exact absurd p2 (by intro y; cases y)
    refine go_X9_work_10 (by decide) ⟨fun z => absurd z (by decide), fun _ => go_X9_work_20 (by decide) ⟨fun c13 => go_X9_work_32 (by decide) (go_X9_work_33 (by decide) ⟨fun z => absurd z (by decide), fun _ => go_X9_work_44 (by decide) (k48 _ _ _ ?_ (Or.inr p2))⟩), fun c13 => go_X9_work_33 (by decide) ⟨fun z => absurd z (by decide), fun _ => go_X9_work_44 (by decide) (k48 _ _ _ ?_ (Or.inl (by decide)))⟩⟩⟩
    · rw [rl, if_neg (fun y => y (e13.symm.trans c13)), c13]
    · rw [rl, if_pos (fun y => c13 (e13.trans y)), e13]
end RXE
