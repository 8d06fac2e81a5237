/-! ===== one order on both sides: the reference ===== -/
section SBO
variable {h g h3 r : LH} {n k m M d : Nat}
theorem rx_ida {x v low : Int32} {w : Nat} {can : Bool} (G : GI r n k M) (N : NR h 0 r n k m) (hw : (w = 2 ∧ low = 0) ∨ (w = 6 ∧ low = 0) ∨ (w = 3 ∧ low = -99)) (ec : can = rf_cb r x w v low) (hN : can = true → ∀ a, a < k → x = nI a → (w = 3 → NR h3 0 (rp r a 3 v) n k m) ∧ (w ≠ 3 → ∃ h2, h3 = nt_beg h2 0 n k 1 ∧ NB h2 0 (rp r a w v) n k ∧ TA h2 0 (rp r a w v) m)) : tf_Sp (d + 5) 67 [.ref 270, .int x, .int (nI w), .int v, .int low] r (fun x g => x = .int (bI can) ∧ NR (if can = true then h3 else h) 0 g n k m) := by
  intro Q q
  have w7 : w < 7 := by omega
  refine en_X9_isDoneArc (by decide) (go_X9_isDoneArc_0 (by decide) (sx_cb (d := d + 1) G.1 x w7 v low _ (go_X9_isDoneArc_9 (by decide) ⟨fun z => go_X9_isDoneArc_23 (by decide) ⟨bI_nar _, q _ r ⟨by rw [ec], ?_⟩⟩, fun z => ?_⟩)))
  · rw [bI_0, ← ec] at z
    rw [z, if_neg (by decide)]
    exact N
  · rw [bI_0, Bool.not_eq_false, ← ec] at z
    refine rx_becomes (d := d) (h3 := h3) (m := m) G hw (ec.symm.trans z) (hN z) _ (fun _ g p => go_X9_isDoneArc_23 (by decide) ⟨bI_nar _, q _ g ⟨by rw [ec], ?_⟩⟩)
    rw [z, if_pos rfl]
    exact p
/-- many pivots -/
theorem rx_id9 {NN : Nat} {b c : Int32} (hN : NN ≤ 100) (hM : M ≤ 18000000) (G : GI r n k M) (N : NR h 0 r n k m) : tf_Sp (d + 8) 68 [.ref 270, .long (px_W.getD 9 0), .int (nI NN), .int b, .int c] r (fun v g => v = .int (bI (decide (0 < (rt_run 0 n k (h.1 0 2) NN 0 m h).1))) ∧ NR (rt_run 0 n k (h.1 0 2) NN 0 m h).2 0 g n k (m + (rt_run 0 n k (h.1 0 2) NN 0 m h).1)) := by
  intro Q q
  have ru : r.1 271 2 = h.1 0 2 := N.1.1.2.2.symm
  have px := rx_pt (d := d) (b := 0) (NN := NN) (by omega) (by omega) (by omega) N G
  rw [ru] at px
  obtain ⟨-, p2, -, -⟩ := run_m (b := 0) (n := n) (k := k) (ru := h.1 0 2) (f := 0) (i := 0) NN 0 m h
  generalize rt_run 0 n k (h.1 0 2) NN 0 m h = P at px q p2
  refine en_X9_isDone (by decide) (go_X9_isDone_0 (by decide) ⟨fun _ => px _ (fun v g p => ?_), fun z => absurd (show lg_cmp (px_W.getD 9 0) 482805706612 = 0 by decide) z⟩)
  obtain ⟨rfl, N2⟩ := p
  refine go_X9_isDone_13 (by decide) ⟨fun z => go_X9_isDone_20 (by decide) (go_X9_isDone_21 (by decide) ⟨rfl, q _ g ⟨?_, N2⟩⟩), fun z => go_X9_isDone_21 (by decide) ⟨rfl, q _ g ⟨?_, N2⟩⟩⟩
  · have z := (nI_leI (a := P.1) (b := 0) (by omega) (by omega)).mp z
    rw [decide_eq_false (by omega)]
    rfl
  · have : 0 < P.1 := by
      rcases Nat.eq_zero_or_pos P.1 with y | y
      · rw [y] at z
        exact absurd (show (nI 0) ≤ (0 : Int32) by decide) z
      · exact y
    rw [decide_eq_true this]
    rfl
/-- a shift -/
theorem rx_id10 {a b c : Int32} (G : GI r n k M) (N : NR h 0 r n k m) : tf_Sp (d + 8) 68 [.ref 270, .long (px_W.getD 10 0), .int a, .int b, .int c] r (fun v g => v = .int (bI (nt_canMove h 0 a b c)) ∧ NR (if nt_canMove h 0 a b c = true then nt_beg (nt_mv h 0 a b c) 0 n k 1 else h) 0 g n k m) := by
  intro Q q
  rw [cmv_eq N.1 G.1] at q
  refine en_X9_isDone (by decide) (go_X9_isDone_0 (by decide) ⟨fun z => absurd z (by decide), fun _ => go_X9_isDone_22 (by decide) ⟨fun _ => sx_rcs (d := d + 3) G.1 _ _ _ _ (go_X9_isDone_39 (by decide) ⟨fun z => go_X9_isDone_55 (by decide) ⟨bI_nar _, q _ r ⟨rfl, ?_⟩⟩, fun z => ?_⟩), fun z => absurd (show lg_cmp (px_W.getD 10 0) 495672977012 = 0 by decide) z⟩⟩)
  · rw [bI_0] at z
    rw [z, if_neg (by decide)]
    exact N
  · rw [bI_0, Bool.not_eq_false] at z
    refine rx_shifts (d := d + 3) G z N.1.nb N.2.2 _ (fun _ g p => go_X9_isDone_55 (by decide) ⟨bI_nar _, q _ g ⟨rfl, ?_⟩⟩)
    rw [z, if_pos rfl]
    exact p
/-- cold -/
theorem rx_id14 {a b c : Int32} (G : GI r n k M) (N : NR h 0 r n k m) : tf_Sp (d + 8) 68 [.ref 270, .long (px_W.getD 14 0), .int a, .int b, .int c] r (fun v g => v = .int (bI true) ∧ NR (nt_beg h 0 n k 0) 0 g n k m) := by
  intro Q q
  refine en_X9_isDone (by decide) (go_X9_isDone_0 (by decide) ⟨fun z => absurd z (by decide), fun _ => go_X9_isDone_22 (by decide) ⟨fun z => absurd z (by decide), fun _ => go_X9_isDone_58 (by decide) ⟨fun z => absurd z (by decide), fun _ => ⟨fun z => absurd z (by decide), fun _ => go_X9_isDone_96 (by decide) ⟨fun z => absurd z (by decide), fun _ => go_X9_isDone_114 (by decide) ⟨fun z => absurd z (by decide), fun _ => ⟨fun z => absurd z (by decide), fun _ => go_X9_isDone_155 (by decide) ⟨fun _ => rx_bga (d := d + 4) (M := M) (by omega) G.bi N.1.nb N.2.2 0 _ (fun _ g p => go_X9_isDone_168 (by decide) (go_X9_isDone_181 (by decide) (q _ g ⟨rfl, p.2.2.2⟩))), fun z => absurd (show lg_cmp (px_W.getD 14 0) 1668246628 = 0 by decide) z⟩⟩⟩⟩⟩⟩⟩⟩)
/-- a bound -/
theorem rx_id12 {a b c : Int32} (G : GI r n k M) (N : NR h 0 r n k m) : tf_Sp (d + 8) 68 [.ref 270, .long (px_W.getD 12 0), .int a, .int b, .int c] r (fun v g => v = .int (bI (nt_canB h 0 a b)) ∧ NR (if nt_canB h 0 a b = true then nt_beg (w1 h (0 + 4) a.toNatClampNeg b) 0 n k 1 else h) 0 g n k m) := by
  intro Q q
  have n7 := G.1.1.2.1
  have k14 := G.1.1.2.2
  have za := rx_ida (d := d + 2) (w := 2) (low := 0) (x := a) (v := b) (h3 := nt_beg (w1 h (0 + 4) a.toNatClampNeg b) 0 n k 1) G N (Or.inl ⟨rfl, rfl⟩) (cb_eq N.1 G.1 a b) (fun _ a2 ha ea => ⟨fun z => absurd z (by decide), fun _ => ⟨_, rfl, by
    rw [ea, nI_clamp (by omega)]
    exact N.1.nb.bound k14 n7, N.2.2.bx (fun o h1 h2 => w1_ne (by omega))⟩⟩)
  refine en_X9_isDone (by decide) (go_X9_isDone_0 (by decide) ⟨fun z => absurd z (by decide), fun _ => go_X9_isDone_22 (by decide) ⟨fun z => absurd z (by decide), fun _ => go_X9_isDone_58 (by decide) ⟨fun z => absurd z (by decide), fun _ => ⟨fun z => absurd z (by decide), fun _ => go_X9_isDone_96 (by decide) ⟨fun _ => za _ (fun v g p => ?_), fun z => absurd (show lg_cmp (px_W.getD 12 0) 512869295470 = 0 by decide) z⟩⟩⟩⟩⟩)
  obtain ⟨rfl, N2⟩ := p
  exact go_X9_isDone_113 (by decide) ⟨bI_nar _, q _ g ⟨rfl, N2⟩⟩
/-- blocked, or no longer -/
theorem rx_id5 {v : Nat} {y : Int32} {a b c : Int32} (hv : (v = 5 ∧ y = 0) ∨ (v = 11 ∧ y = 1)) (G : GI r n k M) (N : NR h 0 r n k m) : tf_Sp (d + 8) 68 [.ref 270, .long (px_W.getD v 0), .int a, .int b, .int c] r (fun x g => x = .int (bI (nt_canOpen h 0 a y)) ∧ NR (if nt_canOpen h 0 a y = true then nt_beg (nt_op h 0 a y) 0 n k 1 else h) 0 g n k m) := by
  intro Q q
  have n7 := G.1.1.2.1
  have k14 := G.1.1.2.2
  have oe : ∀ e, e ≠ 7 → (nt_op h 0 a y).1 e = h.1 e := fun e he => by unfold nt_op; rw [w1_ne (by omega)]
  have za := rx_ida (d := d + 2) (w := 6) (low := 0) (x := a) (v := if y = 0 then 1 else 0) (h3 := nt_beg (nt_op h 0 a y) 0 n k 1) G N (Or.inr (Or.inl ⟨rfl, rfl⟩)) (co_eq N.1 G.1 a y (hv.elim (fun z => Or.inl z.2) (fun z => Or.inr z.2))) (fun _ a2 ha ea => ⟨fun z => absurd z (by decide), fun _ => ⟨_, rfl, by
    unfold nt_op
    rw [ea, nI_clamp (by omega)]
    exact N.1.nb.opn k14 n7, N.2.2.bx (fun o h1 h2 => oe _ (by omega))⟩⟩)
  have k91 : ∀ (w : Int64) (y2 : Int32), y2 = (if y = 0 then 1 else 0) → lx_X9_isDone 298 (tf_Cd 298 (d + 7)) Q 91 [.ref 270, .long w, tf_z, .int a, .int b, .int c, tf_z] [.int y2, .int 6, .int a, .ref 270] r := by
    rintro w y2 rfl
    refine go_X9_isDone_91 (by decide) (za _ (fun v g p => ?_))
    obtain ⟨rfl, N2⟩ := p
    exact go_X9_isDone_95 (by decide) ⟨bI_nar _, q _ g ⟨rfl, N2⟩⟩
  rcases hv with ⟨rfl, rfl⟩ | ⟨rfl, rfl⟩
  · exact en_X9_isDone (by decide) (go_X9_isDone_0 (by decide) ⟨fun z => absurd z (by decide), fun _ => go_X9_isDone_22 (by decide) ⟨fun z => absurd z (by decide), fun _ => go_X9_isDone_58 (by decide) ⟨fun _ => go_X9_isDone_74 (by decide) ⟨fun _ => k91 _ _ rfl, fun z => absurd (show lg_cmp (px_W.getD 5 0) 422726034283 = 0 by decide) z⟩, fun z => absurd (show lg_cmp (px_W.getD 5 0) 422726034283 = 0 by decide) z⟩⟩⟩)
  · exact en_X9_isDone (by decide) (go_X9_isDone_0 (by decide) ⟨fun z => absurd z (by decide), fun _ => go_X9_isDone_22 (by decide) ⟨fun z => absurd z (by decide), fun _ => go_X9_isDone_58 (by decide) ⟨fun z => absurd z (by decide), fun _ => ⟨fun _ => go_X9_isDone_74 (by decide) ⟨fun z => absurd z (by decide), fun _ => go_X9_isDone_90 (by decide) (k91 _ _ rfl)⟩, fun z => absurd (show lg_cmp (px_W.getD 11 0) 1869636974 = 0 by decide) z⟩⟩⟩⟩)
/-- a cost -/
theorem rx_id13 {v : Nat} {y : Int32} {a b c : Int32} (hv : (v = 13 ∧ y = b) ∨ (v = 2 ∧ y = -b)) (G : GI r n k M) (N : NR h 0 r n k m) : tf_Sp (d + 8) 68 [.ref 270, .long (px_W.getD v 0), .int a, .int b, .int c] r (fun x g => x = .int (bI (nt_canC h 0 a y)) ∧ NR (if nt_canC h 0 a y = true then nt_prs (w1 h (0 + 5) a.toNatClampNeg y) 0 n else h) 0 g n k m) := by
  intro Q q
  have n7 := G.1.1.2.1
  have k14 := G.1.1.2.2
  have ec := cc_eq N.1 G.1 a y
  have za := rx_ida (d := d + 2) (w := 3) (low := -99) (x := a) (v := y) (h3 := nt_prs (w1 h (0 + 5) a.toNatClampNeg y) 0 n) G N (Or.inr (Or.inr ⟨rfl, rfl⟩)) ec (fun cn a2 ha ea => ⟨fun _ => by
    rw [ea, nI_clamp (by omega)]
    have cr : rf_cb r a 3 y (-99) = true := ec.symm.trans cn
    unfold rf_cb at cr
    rw [if_neg (by decide)] at cr
    unfold rf_in at cr
    simp only [Bool.and_eq_true, Bool.not_eq_true', decide_eq_false_iff_not] at cr
    obtain ⟨-, cr2, -⟩ := cr
    have t1 := Int32.not_lt.mp cr2.1
    have t2 := Int32.not_lt.mp cr2.2
    rw [Int32.le_iff_toInt_le] at t1 t2
    have y1 : (-99 : Int32).toInt = -99 := rfl
    have y2 : (99 : Int32).toInt = 99 := rfl
    have e99 : (y + 99).toInt = y.toInt + 99 := by
      rw [Int32.toInt_add, y2, Int.bmod_eq_of_le (by omega) (by omega)]
    have hpos : ¬ y + 99 < 0 := by
      rw [Int32.lt_iff_toInt_lt, e99]
      have : (0 : Int32).toInt = 0 := rfl
      omega
    obtain ⟨j, hj, ej⟩ := nI_of hpos
    have hj2 : j ≤ 198 := by
      have := congrArg Int32.toInt ej
      rw [e99, nI_toInt hj] at this
      omega
    exact N.cost (by omega) G.2.2.2.2.1.1 ha (G.cost hj2 ej), fun z => absurd rfl z⟩)
  have k149 : ∀ w : Int64, lx_X9_isDone 298 (tf_Cd 298 (d + 7)) Q 149 [.ref 270, .long w, tf_z, .int a, .int b, .int c, tf_z] [.int y, .int 3, .int a, .ref 270] r := by
    intro w
    refine go_X9_isDone_149 (by decide) (za _ (fun v g p => ?_))
    obtain ⟨rfl, N2⟩ := p
    exact go_X9_isDone_154 (by decide) ⟨bI_nar _, q _ g ⟨rfl, N2⟩⟩
  rcases hv with ⟨rfl, rfl⟩ | ⟨rfl, rfl⟩
  · exact en_X9_isDone (by decide) (go_X9_isDone_0 (by decide) ⟨fun z => absurd z (by decide), fun _ => go_X9_isDone_22 (by decide) ⟨fun z => absurd z (by decide), fun _ => go_X9_isDone_58 (by decide) ⟨fun z => absurd z (by decide), fun _ => ⟨fun z => absurd z (by decide), fun _ => go_X9_isDone_96 (by decide) ⟨fun z => absurd z (by decide), fun _ => go_X9_isDone_114 (by decide) ⟨fun _ => go_X9_isDone_130 (by decide) ⟨fun z => absurd z (by decide), fun _ => go_X9_isDone_147 (by decide) (k149 _)⟩, fun z => absurd (show lg_cmp (px_W.getD 13 0) 109299962636133 = 0 by decide) z⟩⟩⟩⟩⟩⟩)
  · exact en_X9_isDone (by decide) (go_X9_isDone_0 (by decide) ⟨fun z => absurd z (by decide), fun _ => go_X9_isDone_22 (by decide) ⟨fun z => absurd z (by decide), fun _ => go_X9_isDone_58 (by decide) ⟨fun z => absurd z (by decide), fun _ => ⟨fun z => absurd z (by decide), fun _ => go_X9_isDone_96 (by decide) ⟨fun z => absurd z (by decide), fun _ => go_X9_isDone_114 (by decide) ⟨fun z => absurd z (by decide), fun _ => ⟨fun _ => go_X9_isDone_130 (by decide) ⟨fun _ => k149 _, fun z => absurd (show lg_cmp (px_W.getD 2 0) 1734437230 = 0 by decide) z⟩, fun z => absurd (show lg_cmp (px_W.getD 2 0) 1734437230 = 0 by decide) z⟩⟩⟩⟩⟩⟩⟩)
/-- another rule, in a grid on both sides -/
theorem NR.rule (G : GI r n k M) (N : NR h 0 r n k m) (x : Int32) : NR (w1 h 0 2 x) 0 (w1 r 271 2 x) n k m := by
  have n7 := G.1.1.2.1
  have k14 := G.1.1.2.2
  have ew : ∀ i, i ≠ 2 → (w1 r 271 2 x).1 271 i = r.1 271 i := fun i hi => w1_at hi
  have he : ∀ e, e ≠ 0 → (w1 h 0 2 x).1 e = h.1 e := fun e he => w1_ne he
  have G3 : GI (w1 r 271 2 x) n k M := G.ru
  exact ⟨N.1.mv n7 k14 (w1_at (by decide)) (w1_at (by decide)) (w1_eq.trans w1_eq.symm) (fun o h1 h2 => he _ (by omega)) (fun i h1 h2 => ew i (by omega)), (N.2.1.mv G.2.2.2.2.1.1 G3 (RT.of (fun i h1 h2 => ew i (by omega)) n7 k14)).cl n7 (fun p _ => by rw [he _ (by omega)]) (fun p _ => by rw [he _ (by omega)]) (fun p _ => by rw [he _ (by omega)]), N.2.2.mv (fun o h1 h2 => he _ (by omega)) (fun i h1 h2 => ew i (by omega))⟩
theorem rx_id6 {v : Nat} {a b c : Int32} (hv : v = 6 ∨ v = 7 ∨ v = 8) (G : GI r n k M) (N : NR h 0 r n k m) : tf_Sp (d + 8) 68 [.ref 270, .long (px_W.getD v 0), .int a, .int b, .int c] r (fun x g => x = .int (bI true) ∧ NR (w1 h 0 2 (nI (v - 6))) 0 g n k m) := by
  intro Q q
  have k180 : ∀ w : Int64, lx_X9_isDone 298 (tf_Cd 298 (d + 7)) Q 180 [.ref 270, .long w, tf_z, .int a, .int b, .int c, tf_z] [.int (nI (v - 6)), .int 2, .ref 271] r := fun w => go_X9_isDone_180 (by decide) (show tf_K 271 = 8 by decide) (show tf_N 271 = 865 by decide) (by decide) ⟨vi_of (j := 2) (by decide) (by decide), go_X9_isDone_181 (by decide) (q _ (w1 r 271 2 (nI (v - 6))) ⟨rfl, N.rule G (nI (v - 6))⟩)⟩
  rcases hv with rfl | rfl | rfl
  · exact en_X9_isDone (by decide) (go_X9_isDone_0 (by decide) ⟨fun z => absurd z (by decide), fun _ => go_X9_isDone_22 (by decide) ⟨fun z => absurd z (by decide), fun _ => go_X9_isDone_58 (by decide) ⟨fun z => absurd z (by decide), fun _ => ⟨fun z => absurd z (by decide), fun _ => go_X9_isDone_96 (by decide) ⟨fun z => absurd z (by decide), fun _ => go_X9_isDone_114 (by decide) ⟨fun z => absurd z (by decide), fun _ => ⟨fun z => absurd z (by decide), fun _ => go_X9_isDone_155 (by decide) ⟨fun z => absurd z (by decide), fun _ => go_X9_isDone_171 (by decide) (en_X9_ruleBy (by decide) (go_X9_ruleBy_0 (by decide) ⟨fun _ => go_X9_ruleBy_37 (by decide) (k180 _), fun z => absurd (show lg_cmp (px_W.getD 6 0) 439855772532 = 0 by decide) z⟩))⟩⟩⟩⟩⟩⟩⟩⟩)
  · exact en_X9_isDone (by decide) (go_X9_isDone_0 (by decide) ⟨fun z => absurd z (by decide), fun _ => go_X9_isDone_22 (by decide) ⟨fun z => absurd z (by decide), fun _ => go_X9_isDone_58 (by decide) ⟨fun z => absurd z (by decide), fun _ => ⟨fun z => absurd z (by decide), fun _ => go_X9_isDone_96 (by decide) ⟨fun z => absurd z (by decide), fun _ => go_X9_isDone_114 (by decide) ⟨fun z => absurd z (by decide), fun _ => ⟨fun z => absurd z (by decide), fun _ => go_X9_isDone_155 (by decide) ⟨fun z => absurd z (by decide), fun _ => go_X9_isDone_171 (by decide) (en_X9_ruleBy (by decide) (go_X9_ruleBy_0 (by decide) ⟨fun z => absurd z (by decide), fun _ => go_X9_ruleBy_12 (by decide) ⟨fun _ => go_X9_ruleBy_37 (by decide) (k180 _), fun z => absurd (show lg_cmp (px_W.getD 7 0) 495874041200 = 0 by decide) z⟩⟩))⟩⟩⟩⟩⟩⟩⟩⟩)
  · exact en_X9_isDone (by decide) (go_X9_isDone_0 (by decide) ⟨fun z => absurd z (by decide), fun _ => go_X9_isDone_22 (by decide) ⟨fun z => absurd z (by decide), fun _ => go_X9_isDone_58 (by decide) ⟨fun z => absurd z (by decide), fun _ => ⟨fun z => absurd z (by decide), fun _ => go_X9_isDone_96 (by decide) ⟨fun z => absurd z (by decide), fun _ => go_X9_isDone_114 (by decide) ⟨fun z => absurd z (by decide), fun _ => ⟨fun z => absurd z (by decide), fun _ => go_X9_isDone_155 (by decide) ⟨fun z => absurd z (by decide), fun _ => go_X9_isDone_171 (by decide) (en_X9_ruleBy (by decide) (go_X9_ruleBy_0 (by decide) ⟨fun z => absurd z (by decide), fun _ => go_X9_ruleBy_12 (by decide) ⟨fun z => absurd z (by decide), fun _ => go_X9_ruleBy_24 (by decide) ⟨fun _ => go_X9_ruleBy_37 (by decide) (k180 _), fun z => absurd (show lg_cmp (px_W.getD 8 0) 491496238692 = 0 by decide) z⟩⟩⟩))⟩⟩⟩⟩⟩⟩⟩⟩)
end SBO
