/-! ===== next on both sides ===== -/
section TCN
variable {h g hc r T : LH} {t M d n k m b : Nat}
theorem rin_lt {j c : Nat} (hj : j < 2 ^ 31) (hc : c < 2 ^ 31) : rf_in (nI j) 0 (nI c - 1) = true ↔ j < c := by
  unfold rf_in
  have e0 : ¬ nI j < 0 := nI_nlt (a := j) (b := 0) (by omega) (by omega)
  rcases Nat.eq_zero_or_pos c with z | z
  · rw [z]
    have : (nI 0 - 1 : Int32) < nI j := by
      rw [Int32.lt_iff_toInt_lt, nI_toInt (by omega), show (nI 0 - 1 : Int32).toInt = -1 by decide]
      omega
    simp [this]
  · have e : nI c - 1 = nI (c - 1) := by
      rw [show c = c - 1 + 1 by omega]
      exact nI_pred _
    rw [e]
    have : (nI (c - 1) < nI j) ↔ c - 1 < j := nI_ltI (by omega) (by omega)
    simp only [e0, this, decide_false, Bool.not_false, Bool.true_and, Bool.not_eq_true', decide_eq_false_iff_not]
    omega
theorem rin_m10 {x : Int32} {c : Nat} (hc : c < 1000) (hx : x < 10) : rf_in (x - 10) 0 (nI c - 1) = false := by
  have hx2 : x.toInt < 10 := by
    have := Int32.lt_iff_toInt_lt.mp hx
    have e : (10 : Int32).toInt = 10 := by decide
    omega
  have lo := Int32.le_toInt x
  have s : (x - 10).toInt = (x.toInt - (10 : Int32).toInt).bmod (2 ^ 32) := Int32.toInt_sub x 10
  have e10 : (10 : Int32).toInt = 10 := by decide
  rw [e10, Int.bmod_def] at s
  by_cases c0 : x - 10 < 0
  · unfold rf_in
    simp [c0]
  · have p : ¬ (x - 10).toInt < 0 := fun z => c0 (Int32.lt_iff_toInt_lt.mpr z)
    obtain ⟨j, hj, e⟩ := nI_of c0
    have ej : (x - 10).toInt = (j : Int) := by rw [e, nI_toInt hj]
    have big : 1000 ≤ j := by
      split at s <;> omega
    rw [e]
    refine Bool.eq_false_iff.mpr (fun z => ?_)
    have := (rin_lt hj (by omega)).mp z
    omega
/-- what stands at a place of a way, told alike -/
theorem told_v {c : Nat} {id : Nat → Int32} (hn : n ≤ 7) (hk : k ≤ 14) (hc8 : c ≤ 8) (e2 : g.1 241 2 = nI c) (row : ∀ i, i < c → g.1 242 i = eK (id i)) (D : ∀ i, i < c → ED n k (id i)) (x y : Int32) : rt_told g x y = if rf_in (x - 10) 0 (nI c - 1) = true then id (x - 10).toNatClampNeg else y := by
  unfold rt_told
  rw [e2]
  by_cases c1 : x < 10
  · rw [if_pos c1, rin_m10 (by omega) c1]
    rfl
  · rw [if_neg c1]
    have h0 : ¬ x < 0 := fun z => c1 (Int32.lt_trans z (by decide))
    obtain ⟨j, hj, e⟩ := nI_of h0
    subst e
    have h10 : 10 ≤ j := by
      rcases Nat.lt_or_ge j 10 with z | z
      · exact absurd (nI_lt (b := 10) z (by omega)) c1
      · exact z
    have e2 : nI j - 10 = nI (j - 10) := by
      have : nI (j - 10) + nI 10 = nI j := by rw [nI_add]; congr 1; omega
      rw [← this]
      exact Int32.add_sub_cancel _ _
    rw [e2, nI_clamp (by omega)]
    by_cases z : j - 10 < c
    · rw [if_pos (nI_lt z (by omega)), if_pos ((rin_lt (by omega) (by omega)).mpr z), row _ z]
      exact told_eK hn hk (D _ z)
    · rw [if_neg (fun y => z ((nI_ltI (by omega) (by omega)).mp y)), if_neg (fun y => z ((rin_lt (by omega) (by omega)).mp y))]
theorem told_cI {z : Nat} (hn : n ≤ 7) (hz : z ≤ n) (e0 : g.1 0 0 = nI n) : nt_told g 0 (cI n z) = nI z := by
  unfold nt_told
  by_cases c : z = n
  · rw [if_pos ((cI_7 hn hz).mpr c), e0, c]
  · rw [if_neg (fun y => c ((cI_7 hn hz).mp y)), cI_lt (by omega)]
/-! where they meet -/
theorem rt_add3j {e al : Int32} : (rt_add g e al).1 241 3 = g.1 241 3 := by
  unfold rt_add
  split
  · rfl
  · rw [w1_at (by decide), w1_ne (by decide), w1_ne (by decide)]
theorem rt_clb_3 : ∀ (f : Nat) (a : Int32) (g : LH), (rt_clb b f a g).1 241 3 = g.1 241 3 := by
  intro f
  induction f with
  | zero => intro a g; rfl
  | succ f ih =>
    intro a g
    unfold rt_clb
    split
    · rfl
    · split
      · rfl
      · rw [ih, rt_add3j]
theorem rt_ds_3 : ∀ (cc f : Nat) (a : Int32) (g : LH), (rt_ds b cc f a g).1 241 3 = g.1 241 3 := by
  intro cc f
  induction f with
  | zero => intro a g; rfl
  | succ f ih =>
    intro a g
    unfold rt_ds
    split
    · rfl
    · rw [ih, w1_ne (by decide), w1_ne (by decide)]
theorem cy_lv_3 : ∀ (f i : Nat) (g : LH), (cy_lv b f i g).1 241 3 = g.1 241 3 := by
  intro f
  induction f with
  | zero => intro i g; rfl
  | succ f ih =>
    intro i g
    unfold cy_lv
    rw [ih]
    split
    · rw [w1_at (by decide)]
    · rfl
theorem rt_desc_3 {c : Nat} {a : Int32} : (rt_desc g b n c a).1 241 3 = g.1 241 3 := by
  unfold rt_desc
  split
  · rw [w1_at (by decide), rt_ds_3]
  · rfl
theorem rt_cyc_3 {x : Int32} : (rt_cyc h b n x).1 241 3 = rt_meet (w1 h 241 2 0) b n (cy_to h b x) 8 (cy_fr h b x) := by
  unfold rt_cyc
  rw [cy_lv_3]
  unfold cy_7
  rw [w1_at (by decide), w1_at (by decide)]
  unfold cy_6
  rw [rt_clb_3]
  unfold cy_5
  rw [rt_add3j, w1_at (by decide), rt_desc_3]
  unfold cy_2
  rw [w1_eq]
theorem cyc_j (L : LT T n k) (hb : b ≤ 225) (C : CT h b T n) (E : TLe h b T n k) {a x y : Nat} (ha : a < k) (hx : x < n) (hy : y < n) (st : h.1 (b + 7) a = rm T a 5) (ex : (if rm T a 5 = 0 then rm T a 0 else rm T a 1) = nI x) (ey : (if rm T a 5 = 0 then rm T a 1 else rm T a 0) = nI y) : (rt_cyc h b n (nI a)).1 241 3 = cI n (lc_z T x y) ∧ lc_z T x y ≤ n := by
  have n7 := L.1.1.2.1
  have k14 := L.1.1.2.2
  have ca : (nI a).toNatClampNeg = a := nI_clamp (by omega)
  have efr : cy_fr h b (nI a) = cI n x := by
    unfold cy_fr
    rw [ca, st, (E.1 a ha).1, (E.1 a ha).2, cI_lt hx]
    exact ex
  have eto : cy_to h b (nI a) = cI n y := by
    unfold cy_to
    rw [ca, st, (E.1 a ha).1, (E.1 a ha).2, cI_lt hy]
    exact ey
  obtain ⟨i, j, di, dj, hi, hj, ez, ej, ds, hij⟩ := lc_z_tw L (Nat.le_of_lt hx) (Nat.le_of_lt hy)
  have ti := L.tu i x (Nat.le_of_lt hx) hi
  have C1 : CT (w1 h 241 2 0) b T n := C.same (w1_ne (by omega)) (w1_ne (by omega))
  have mt := ct_meet L C1 (Nat.le_of_lt hx) (Nat.le_of_lt hy) hi hj ej ds 8 0 (Nat.zero_le _) (by omega)
  rw [rt_cyc_3, efr, eto]
  refine ⟨?_, by rw [ez]; exact ti.1⟩
  rw [ez]
  exact mt
theorem gd_31 : ∀ (i c x : Nat) (g : LH), (gd c i x g).1 270 31 = g.1 270 31
  | 0, _, _, _ => rfl
  | i + 1, c, x, g => by rw [gd, gd_31 i, as1_lo.2.2 31 (by decide)]
theorem gu_31 : ∀ (j c y : Nat) (g : LH), (gu c j y g).1 270 31 = g.1 270 31
  | 0, _, _, _ => rfl
  | j + 1, c, y, g => by rw [gu, gu_31 j, as1_lo.2.2 31 (by decide)]
theorem lc_31 {a x y : Nat} : (lc T a x y).1 270 31 = nI (lc_z T x y) := by
  unfold lc
  rw [gu_31]
  unfold lc_3
  rw [as1_lo.2.2 31 (by decide)]
  unfold lc_2
  rw [gd_31]
  unfold lc_1
  rw [w1_at (by decide), w1_eq]
/-- next, of the class -/
theorem cv_next {c0 : Nat} (H : NT h 0 n k m) (R0 : RO h c0) (x : Int32) : (nt_pick h 0 k (h.1 0 2) = -1 → tf_Rt 11 197 [.ref 240, .int x] h (.int (-1)) h) ∧ (nt_pick h 0 k (h.1 0 2) ≠ -1 → tf_Rt 11 197 [.ref 240, .int x] h (.int (qv_next (rt_cyc h 0 n (nt_pick h 0 k (h.1 0 2))) x (nt_pick h 0 k (h.1 0 2)))) (rt_cyc h 0 n (nt_pick h 0 k (h.1 0 2)))) := by
  have s1 := sx_pick2 (d := 7) H (h.1 0 2)
  refine ⟨fun e => fun Q q => en_X8_next (by decide) (go_X8_next_0 (by decide) (s1 _ (go_X8_next_14 (by decide) ⟨fun _ => q, fun z => absurd e z⟩))), fun e => ?_⟩
  have hp := vi_mono ((H.pick (h.1 0 2)).resolve_left e) H.1.arcs.2
  generalize nt_pick h 0 k (h.1 0 2) = p at s1 e hp
  obtain ⟨H2, ⟨c, R⟩, -, h6, L⟩ := cyc_ok H.1 R0 hp
  have s2 := sx_cyc (d := 7) H.1 R0 hp
  generalize rt_cyc h 0 n p = g at s2 H2 R L h6
  have s3 := sx_leav (d := 9) h6
  have s4 := sx_toldNode (h := g) (d := 9) H2.1 (g.1 241 3)
  have s5 := sx_rtold (d := 8) R x (-1)
  have s6 := sx_toldEdge (h := g) (d := 9) (g.1 242 (g.1 241 6).toNatClampNeg)
  intro Q q
  unfold qv_next at q
  refine en_X8_next (by decide) (go_X8_next_0 (by decide) (s1 _ (go_X8_next_14 (by decide) ⟨fun z => absurd z e, fun _ => go_X8_next_22 (by decide) (s2 _ (go_X8_next_34 (by decide) ⟨fun c => go_X8_next_112 (by decide) (s5 _ (go_X8_next_121 (by decide) ?_)), fun c => go_X8_next_68 (by decide) ?_, fun c => go_X8_next_70 (by decide) (s3 _ (go_X8_next_77 (by decide) (s6 _ (go_X8_next_80 (by decide) ?_)))), fun c => go_X8_next_81 (by decide) ?_, fun c => go_X8_next_89 (by decide) (s4 _ (go_X8_next_103 (by decide) ?_)), fun c => go_X8_next_104 (by decide) ?_, trivial⟩))⟩)))
  · rw [if_neg (by omega), if_neg (by omega), if_neg (by omega), if_neg (by omega), if_neg (by omega)] at q
    exact q
  · rw [c] at q
    exact q
  · rw [c] at q
    exact q
  · rw [c] at q
    exact q
  · rw [c] at q
    exact q
  · rw [c] at q
    exact q
theorem xv_next (G0 : GI g n k M) (N : NR h 0 g n k m) (x : Int32) : XV 80 [.int x] g (if nt_pick h 0 k (h.1 0 2) = -1 then -1 else qv_next (rt_cyc h 0 n (nt_pick h 0 k (h.1 0 2))) x (nt_pick h 0 k (h.1 0 2))) := by
  intro Q q
  have q2 : ∀ (v : Int32) (g : LH), v = (if nt_pick h 0 k (h.1 0 2) = -1 then -1 else qv_next (rt_cyc h 0 n (nt_pick h 0 k (h.1 0 2))) x (nt_pick h 0 k (h.1 0 2))) → Q (.int v) g := fun v g e => q _ g (by rw [e])
  clear q
  have G : GI (w1 g 270 0 0) n k M := G0.w (by decide)
  have N1 : NR h 0 (w1 g 270 0 0) n k m := N.w0 G0
  have pk := N1.pick G
  rw [← N1.1.1.2.2] at pk
  rw [pk] at q2
  obtain ⟨T, P, C, Pe, E, F, Co, S, G2⟩ := N1.lay G
  have e00 := N1.1.1.1
  refine en_X9_next (by decide) (go_X9_next_0 (by decide) (sx_lt (h := w1 g 270 0 0) (d := 7) G.1 _ (go_X9_next_9 (by decide) ?_)))
  generalize lt (w1 g 270 0 0) n k = g1 at *
  have hn := G2.1.1
  have H1 := G2.1
  have S1 := G2.2.2.1
  have s2 := sx_en (d := 6) H1 S1
  refine s2 _ (go_X9_next_13 (by decide) ⟨fun c => q2 _ _ (by rw [if_pos c]), fun c => go_X9_next_21 (by decide) ?_⟩)
  rw [if_neg c] at q2
  obtain ⟨a, ha, ea⟩ := vi_nI ((en_f_in H1 S1 k 0 (-1) (by omega) (Or.inl rfl)).resolve_left c)
  have ho := (en_f_off H1 S1 k 0 (-1) (by omega) (Or.inl rfl)).resolve_left c
  rw [ea, nI_clamp (by omega)] at ho
  rw [ea] at q2 ⊢
  have hxy : ∃ x y, x < n ∧ y < n ∧ (if rm g1 a 5 = 0 then rm g1 a 0 else rm g1 a 1) = nI x ∧ (if rm g1 a 5 = 0 then rm g1 a 1 else rm g1 a 0) = nI y := by
    obtain ⟨p, q, hp, hq, e1, e2⟩ := H1.ends ha
    by_cases z : rm g1 a 5 = 0
    · exact ⟨p, q, hp, hq, by rw [if_pos z]; exact e1, by rw [if_pos z]; exact e2⟩
    · exact ⟨q, p, hq, hp, by rw [if_neg z]; exact e2, by rw [if_neg z]; exact e1⟩
  obtain ⟨u, v, hu, hv, eu, ev⟩ := hxy
  have w5 := off_w ho
  have st : h.1 (0 + 7) a = rm g1 a 5 := by
    rcases S a ha with ⟨-, e, -⟩ | ⟨e, -, -⟩
    · exact e
    · rw [off_6 ho] at e
      exact absurd e (by decide)
  have s3 := sx_lc (d := 5) T ha hu hv eu ev
  obtain ⟨Y, FJ, -⟩ := lc_ok T ha (show u ≤ n by omega) (show v ≤ n by omega)
  have lst := lc_least T G2.2.2.2.1 ha (show u ≤ n by omega) (show v ≤ n by omega) ho
  have s4 := sx_rlr (d := 7) Y
  obtain ⟨mm, hm, em, s5⟩ := sx_lv2 (d := 7) Y lst
  obtain ⟨c2, c8, row, c5, c4, c6, lo⟩ := cyc_eq T (by omega) C E F G2.2.2.2.2.1.1 ha hu hv st w5 eu ev lst
  obtain ⟨c3, zl⟩ := cyc_j T (by omega) C E ha hu hv st eu ev
  have D := fun i (hi : i < lc_n g1 u v) => lc_ed T (m := i) ha (show u ≤ n by omega) (show v ≤ n by omega) hi
  have j31 := lc_31 (T := g1) (a := a) (x := u) (y := v)
  have tv := told_v (g := rt_cyc h 0 n (nI a)) hn.2.1 hn.2.2 c8 c2 (fun i hi => (row i hi).1) D x (-1)
  refine s3 _ (go_X9_next_26 (by decide) (s4 _ (go_X9_next_30 (by decide) ?_)))
  rw [em] at c6
  have rowm := (row mm hm).1
  have Dm := D mm hm
  unfold qv_next at q2
  rw [c2, c3, c4, c6, nI_clamp (by omega), rowm, told_eK hn.2.1 hn.2.2 Dm, told_cI hn.2.1 zl (by rw [lo 0 (by omega)]; exact e00), tv] at q2
  generalize rlr (lc g1 a u v) (lc_n g1 u v) 0 1000000 = dl at *
  generalize lc g1 a u v = g3 at *
  refine ⟨fun w => go_X9_next_88 (by decide) (sx_in (d := 9) _ _ _ _ (go_X9_next_102 (by decide) ⟨fun b => go_X9_next_117 (by decide) (go_X9_next_118 (by decide) (q2 _ _ ?_)), fun b => ⟨?_, go_X9_next_118 (by decide) (q2 _ _ ?_)⟩⟩)), fun w => go_X9_next_68 (by decide) (q2 _ _ (by rw [if_pos w])), fun w => go_X9_next_70 (by decide) (s5 _ (go_X9_next_75 (by decide) (q2 _ _ (by rw [if_neg (by omega), if_pos w])))), fun w => go_X9_next_76 (by decide) (q2 _ _ (by rw [if_neg (by omega), if_neg (by omega), if_pos w])), fun w => go_X9_next_78 (by decide) (q2 _ _ (by rw [if_neg (by omega), if_neg (by omega), if_neg (by omega), if_pos w, j31])), fun w => go_X9_next_83 (by decide) (q2 _ _ (by rw [if_neg (by omega), if_neg (by omega), if_neg (by omega), if_neg (by omega), if_pos w, Y.1])), trivial⟩
  · rw [bI_0, Y.1] at b
    rw [if_neg (by omega), if_neg (by omega), if_neg (by omega), if_neg (by omega), if_neg (by omega), b]
    rfl
  · rw [bI_0, Bool.not_eq_false, Y.1] at b
    exact in_c Y.2.1 b
  · rw [bI_0, Bool.not_eq_false, Y.1] at b
    rw [if_neg (by omega), if_neg (by omega), if_neg (by omega), if_neg (by omega), if_neg (by omega), if_pos b]
theorem ze_18 (I : IZ h t) (x : Int32) : lk_eq h 197 [.ref 240, .int x] 80 [.ref 270, .int x] (fun g => IZ g (t + 1)) := by
  obtain ⟨n, k, m, hm, H, G, N⟩ := I.1.1
  obtain ⟨c0, R0⟩ := I.2.1.1.1.1.2.1
  obtain ⟨a, b⟩ := cv_next H R0 x
  have F := rt_cyc_fr (h := h) (b := 0) (n := n) (x := nt_pick h 0 k (h.1 0 2))
  by_cases e : nt_pick h 0 k (h.1 0 2) = -1
  · have := xv_next G N x
    rw [if_pos e] at this
    exact ze_q (iz_18 I x) (a e) this
  · have rw1 : RW h (rt_cyc h 0 n (nt_pick h 0 k (h.1 0 2))) := RW.of (F.1 271 (by decide))
    have := xv_next (G.cong rw1) (N.rw rw1 G.1.1.2.1 G.1.1.2.2) x
    rw [if_neg e] at this
    exact ze_q (iz_18 I x) (b e) this
end TCN
