/-! ===== the class's work: what it leaves, exactly ===== -/
section SNW
variable {h g : LH} {M d : Nat}
theorem cz_work {l : Nat} (X : CI h M) (hM : M < 1700000000) (hl : l ≤ 400) (el : h.1 251 1 = nI l) : tf_Sp 11 192 [.ref 240] h (fun v g => ((px_wrk (h.1 252) l).1 ≠ 0 → v = .int (-1) ∧ ∀ e, e ≠ 251 → ¬ (259 ≤ e ∧ e ≤ 264) → g.1 e = h.1 e) ∧ ((px_wrk (h.1 252) l).1 = 0 → ∃ (gt : LH) (n k m : Nat), (∀ e, e ≠ 251 → ¬ (259 ≤ e ∧ e ≤ 264) → gt.1 e = h.1 e) ∧ XA gt M ∧ m ≤ M ∧ NT (ac_sv gt) 0 n k m ∧ (∃ c, RO (ac_sv gt) c) ∧ v = .int (nI (odf n k (lnV (px_all (h.1 252) l 1 80 (px_p (h.1 252) l 0)).1) (lnA (px_all (h.1 252) l 1 80 (px_p (h.1 252) l 0)).1) (px_all (h.1 252) l 1 80 (px_p (h.1 252) l 0)).1.length 0 (ac_sv gt) m).2.2) ∧ g = ac_ca (odf n k (lnV (px_all (h.1 252) l 1 80 (px_p (h.1 252) l 0)).1) (lnA (px_all (h.1 252) l 1 80 (px_p (h.1 252) l 0)).1) (px_all (h.1 252) l 1 80 (px_p (h.1 252) l 0)).1.length 0 (ac_sv gt) m).1 (bI (decide (0 < (odf n k (lnV (px_all (h.1 252) l 1 80 (px_p (h.1 252) l 0)).1) (lnA (px_all (h.1 252) l 1 80 (px_p (h.1 252) l 0)).1) (px_all (h.1 252) l 1 80 (px_p (h.1 252) l 0)).1.length 0 (ac_sv gt) m).2.2))))) := by
  intro Q q
  obtain ⟨XAh, P⟩ := X
  have ok := px_all_ok (c := h.1 252) (l := l) (o := 1) 80 (px_p (h.1 252) l 0) (px_p_le (Nat.zero_le _)).2
  have w0 := wrk_0 (c := h.1 252) hl
  have k29 : ∀ g : LH, FS h g → (px_all (h.1 252) l 1 80 (px_p (h.1 252) l 0)).1.length ≤ 80 → g.1 259 0 = nI (px_all (h.1 252) l 1 80 (px_p (h.1 252) l 0)).1.length → LSo g 0 (px_all (h.1 252) l 1 80 (px_p (h.1 252) l 0)).1 → VB g (px_all (h.1 252) l 1 80 (px_p (h.1 252) l 0)).1.length → fp g = px_wrk (h.1 252) l → lx_X8_work 298 (tf_Cd 298 10) Q 29 [.ref 240, tf_z] [] g := by
    intro g F hc e0 S V zf
    have zf1 : g.1 259 1 = (px_wrk (h.1 252) l).1 := by rw [← zf]; rfl
    obtain ⟨L, L2, L3⟩ := tkf_lo (h := g)
    have s1 := sx_tkf (d := 9) (h := g)
    generalize tkf g = gt at L L2 L3 s1
    have Lh : ∀ e, e ≠ 251 → ¬ (259 ≤ e ∧ e ≤ 264) → gt.1 e = h.1 e := fun e h1 h2 => (L e h1).trans (F.1 e h2)
    have XT : XA gt M := XAh.lo (fun e he => Lh e (by omega) (by omega))
    refine go_X8_work_29 (by decide) (s1 _ (go_X8_work_33 (by decide) ⟨fun y => ?_, fun y => q _ gt ⟨fun _ => ⟨rfl, Lh⟩, fun z => absurd ?_ y⟩⟩))
    · rw [L 259 (by decide), zf1] at y
      obtain ⟨-, -, os0⟩ := w0 y
      obtain ⟨X1, F1, e15⟩ := sv_ok XT
      have s2 := sx_sv (d := 7) XT
      obtain ⟨n, k, m, hm, H⟩ := X1.net
      obtain ⟨c, R⟩ := X1.2.1
      have q2 := fun v g p => q v g ⟨fun z => absurd y z, fun _ => ⟨gt, n, k, m, Lh, XT, hm, H, ⟨c, R⟩, p⟩⟩
      clear q
      generalize hls : (px_all (h.1 252) l 1 80 (px_p (h.1 252) l 0)).1 = ls at *
      have e1 : (ac_sv gt).1 259 0 = nI ls.length := by rw [F1.1 259 (by decide), L 259 (by decide)]; exact e0
      have up : ∀ e, 260 ≤ e → e < 264 → (ac_sv gt).1 e = g.1 e := fun e z1 z2 => by rw [F1.1 e (by omega), L e (by omega)]
      have S1 : LSo (ac_sv gt) 0 ls := fun i L hi => ⟨(S i L hi).1.same up, (S i L hi).2⟩
      have V1 : VB (ac_sv gt) ls.length := V.same (up 260 (by decide) (by decide))
      have O1 : OGr (ac_sv gt) ls.length := S1.ogr (px_os_0 ls _ os0).2
      have hv : ∀ i, i < ls.length → vbn (ac_sv gt) i = 2 ∨ (5 ≤ vbn (ac_sv gt) i ∧ vbn (ac_sv gt) i < 15) := fun i hi => by
        obtain ⟨a, b⟩ := ln_at hi
        have A := S1 i _ a
        rw [Nat.zero_add] at A
        rw [A.1.vb (ok _ b).1]
        exact lnV_v (ok _ b)
      have wx := wk_X (h := ac_sv gt) (n := n) (k := k) hc e1 V1 O1 hv (Q := Q) ls.length 0 (ac_sv gt) m c (by omega) H (by omega) R Fr.rf
      rw [odf_c ok S1] at wx
      refine go_X8_work_45 (by decide) (s2 _ (go_X8_work_49 (by decide) (wx ?_)))
      have bd := odf_i (n := n) (k := k) (V := lnV ls) (A := lnA ls) ls.length 0 (ac_sv gt) m
      generalize odf n k (lnV ls) (lnA ls) ls.length 0 (ac_sv gt) m = W at *
      have k97 : ∀ b : Bool, b = decide (0 < W.2.2) → lx_X8_work 298 (tf_Cd 298 10) Q 97 [.ref 240, .int (nI W.2.2)] [.int (bI b), .ref 240] W.1 := by
        rintro b rfl
        exact go_X8_work_97 (by decide) (sx_ca (d := 9) _ _ (go_X8_work_100 (by decide) (q2 _ _ ⟨rfl, rfl⟩)))
      refine go_X8_work_87 (by decide) ⟨fun z => go_X8_work_96 (by decide) (k97 false ?_), fun z => k97 true ?_⟩
      · have := (nI_leI (a := W.2.2) (b := 0) (by omega) (by omega)).mp z
        exact (decide_eq_false (by omega)).symm
      · refine (decide_eq_true ?_).symm
        rcases Nat.eq_zero_or_pos W.2.2 with y0 | y0
        · rw [y0] at z
          exact absurd (by decide) z
        · exact y0
    · rw [L 259 (by decide), zf1]
      exact z
  refine en_X8_work (by decide) (go_X8_work_0 (by decide) (sx_rd (d := 3) hl el 1 _ (fun _ g1 p1 => ?_)))
  obtain ⟨-, F1, S, W⟩ := p1
  have c80 := px_all_80 (c := h.1 252) (l := l) (o := 1) 80 (px_p (h.1 252) l 0)
  have V := S.vb
  have So := S.so
  unfold px_wrk at k29
  have W2 := W.fp
  clear w0 q ok
  generalize px_all (h.1 252) l 1 80 (px_p (h.1 252) l 0) = r at c80 V So W S k29 W2
  obtain ⟨ls, w⟩ := r
  refine go_X8_work_12 (by decide) ⟨fun z => ?_, fun z => ?_⟩
  · cases w with
    | some w => exact absurd (W.1.symm.trans z) (by decide)
    | none =>
      refine sx_co (d := 7) So S.1 c80 _ (fun _ g2 p2 => ?_)
      obtain ⟨G2, z2⟩ := p2
      have z3 : fp g2 = px_os ls (0, -1) := by rw [z2]; show px_os ls (g1.1 259 1, g1.1 259 2) = _; rw [W.1, W.2]
      exact k29 g2 (F1.tr G2.fs) c80 ((G2.2.2 0 (by decide) (by decide)).trans S.1) (So.fl G2) (V.same (G2.1 260 (by decide))) z3
  · cases w with
    | none => exact absurd W.1 z
    | some w => exact k29 g1 F1 c80 S.1 So V W2
end SNW
