/-! ===== the class's public acts return ===== -/
section PU
variable {h : LH} {M : Nat}
theorem pu_fault (x : Int32) : ∃ v : Int32, tf_Rt 11 183 [.ref 240, .int x] h (.int v) h := by
  by_cases c : x = 0
  · exact ⟨_, fun Q q => en_X8_fault (by decide) (go_X8_fault_0 (by decide) ⟨fun _ => go_X8_fault_14 (by decide) (go_X8_fault_21 (by decide) q), fun z => absurd c z⟩)⟩
  · exact ⟨_, fun Q q => en_X8_fault (by decide) (go_X8_fault_0 (by decide) ⟨fun z => absurd z c, fun _ => go_X8_fault_21 (by decide) q⟩)⟩
theorem Fr.lo {h g : LH} (h1 : ∀ e, 244 ≤ e → g.1 e = h.1 e) (h2 : g.2 = h.2) : Fr h g := ⟨h1, h2⟩
theorem run_2 {b n k : Nat} {rule : Int32} : ∀ (f i m : Nat) (h : LH), (∀ m x, (rt_step h b n m x).2 = h.2) → True := fun _ _ _ _ _ => trivial
theorem cps_tc2 {g : LH} {t m : Nat} {x y z : Int32} : (nt_tc g t m x y z).2 = g.2 := by
  unfold nt_tc
  split <;> rfl
theorem nt_rh_2 {b : Nat} {goes : Int32} : ∀ (f : Nat) (a u e : Int32) (h : LH), (nt_rh b goes f a u e h).2 = h.2
  | 0, _, _, _, _ => rfl
  | f + 1, a, u, e, h => by
    unfold nt_rh
    split
    · rfl
    · split
      · rfl
      · rw [nt_rh_2 f]
theorem rt_ex_2 {g : LH} {b n : Nat} {x y : Int32} : (rt_ex g b n x y).2 = g.2 := by
  unfold rt_ex nt_prs
  split
  · rfl
  · show (nt_pl b n n 0 _).2 = g.2
    rw [nt_pl_2]
    split
    · show (nt_rh b y n _ _ _ _).2 = g.2
      rw [nt_rh_2]
      rfl
    · show (nt_rh b y n _ _ _ _).2 = g.2
      rw [nt_rh_2]
      rfl
theorem st_fl_2 {b : Nat} : ∀ (f i : Nat) (h : LH), (st_fl b f i h).2 = h.2
  | 0, _, _ => rfl
  | f + 1, i, h => by rw [st_fl, st_fl_2 f (i + 1)]
theorem rt_add_2 {g : LH} {e al : Int32} : (rt_add g e al).2 = g.2 := by
  unfold rt_add
  split <;> rfl
theorem rt_add_hi {g : LH} {x al : Int32} {e : Nat} (he : 244 ≤ e) : (rt_add g x al).1 e = g.1 e := by
  unfold rt_add
  split
  · rfl
  · rw [w1_ne (by omega), w1_ne (by omega), w1_ne (by omega)]
theorem rt_clb_fr {b : Nat} : ∀ (f : Nat) (a : Int32) (h : LH), Fr h (rt_clb b f a h)
  | 0, _, _ => Fr.rf
  | f + 1, a, h => by
    unfold rt_clb
    split
    · exact Fr.rf
    · split
      · exact Fr.rf
      · exact Fr.tr ⟨fun e he => rt_add_hi he, rt_add_2⟩ (rt_clb_fr f _ _)
theorem rt_ds_fr {b c : Nat} : ∀ (f : Nat) (a : Int32) (h : LH), Fr h (rt_ds b c f a h)
  | 0, _, _ => Fr.rf
  | f + 1, a, h => by
    unfold rt_ds
    split
    · exact Fr.rf
    · exact Fr.tr ((Fr.rf.w (by decide)).w (by decide)) (rt_ds_fr f _ _)
theorem rt_desc_fr {b n c : Nat} {a : Int32} : Fr h (rt_desc h b n c a) := by
  unfold rt_desc
  split
  · exact (rt_ds_fr _ _ _).w (by decide)
  · exact Fr.rf
theorem cy_lv_fr {b : Nat} : ∀ (f i : Nat) (h : LH), Fr h (cy_lv b f i h)
  | 0, _, _ => Fr.rf
  | f + 1, i, h => by
    unfold cy_lv
    split
    · exact Fr.tr (Fr.rf.w (by decide)) (cy_lv_fr f _ _)
    · exact cy_lv_fr f _ _
theorem rt_cyc_fr {b n : Nat} {x : Int32} : Fr h (rt_cyc h b n x) := by
  unfold rt_cyc
  refine Fr.tr ?_ (cy_lv_fr _ _ _)
  unfold cy_7
  refine Fr.w (Fr.w ?_ (by decide)) (by decide)
  unfold cy_6
  refine Fr.tr ?_ (rt_clb_fr _ _ _)
  unfold cy_5
  refine Fr.tr ?_ ⟨fun e he => rt_add_hi he, rt_add_2⟩
  refine Fr.w ?_ (by decide)
  refine Fr.tr ?_ rt_desc_fr
  unfold cy_2
  exact (Fr.rf.w (by decide)).w (by decide)
theorem rt_step_2 {b n m : Nat} {x : Int32} : (rt_step h b n m x).2 = h.2 := by
  unfold rt_step
  rw [cps_tc2]
  unfold st_2
  rw [rt_ex_2]
  unfold st_1
  rw [st_fl_2]
  exact rt_cyc_fr.2
theorem rt_step_fr {b n k m c0 : Nat} (H : NT h b n k m) (R0 : RO h c0) {x : Int32} (hx : vp_in x k) : Fr h (rt_step h b n m x) := by
  refine ⟨fun e he => ?_, rt_step_2⟩
  have hb := H.1.2.1
  have hb2 := nt_b225 H.1.1
  have hx14 : vp_in x 14 := vi_mono hx (by omega)
  obtain ⟨⟨H1, R1⟩, -, -⟩ := st1_ok H.1 R0 hx14
  unfold rt_step
  rw [nt_tc_lo (by omega)]
  obtain ⟨H2, ⟨c, R2⟩, V5, V6⟩ := (st1_ok H.1 R0 hx14).2.1
  unfold st_2
  rw [(st2_ok (y := st_y (st_1 h b n x)) H2 R2 hx14 V6).2.2.2.2 e (by omega)]
  unfold st_1
  rw [(st_fl_ok (rt_cnt (rt_cyc h b n x)) 0 (rt_cyc h b n x) H1 R1).2.2 e (by omega)]
  exact rt_cyc_fr.1 e he
theorem rt_run_fr {b n k : Nat} {rule : Int32} : ∀ (f i m : Nat) (h : LH) (c : Nat), NT h b n k m → RO h c → Fr h (rt_run b n k rule f i m h).2
  | 0, _, _, _, _, _, _ => Fr.rf
  | f + 1, i, m, h, c, H, R => by
    rw [rt_run]
    by_cases c1 : nt_pick h b k rule = -1
    · rw [if_pos c1]
      exact Fr.rf
    · rw [if_neg c1]
      have hx := (H.pick rule).resolve_left c1
      obtain ⟨-, -, -, ⟨HT, c2, R2⟩, -⟩ := st_ok H R hx
      exact Fr.tr (rt_step_fr H R hx) (rt_run_fr f (i + 1) (m + 1) _ c2 HT R2)
theorem rt_step_240 {b n k m c0 : Nat} (H : NT h b n k m) (R0 : RO h c0) {x : Int32} (hx : vp_in x k) : (rt_step h b n m x).1 240 = h.1 240 := by
  have hb := H.1.2.1
  have hb2 := nt_b225 H.1.1
  have hx14 : vp_in x 14 := vi_mono hx (by omega)
  obtain ⟨⟨H1, R1⟩, ⟨H2, ⟨c, R2⟩, V5, V6⟩, -⟩ := st1_ok H.1 R0 hx14
  unfold rt_step
  rw [nt_tc_lo (by omega)]
  unfold st_2
  rw [(st2_ok (y := st_y (st_1 h b n x)) H2 R2 hx14 V6).2.2.2.2 240 (by omega)]
  unfold st_1
  rw [(st_fl_ok (rt_cnt (rt_cyc h b n x)) 0 (rt_cyc h b n x) H1 R1).2.2 240 (by omega)]
  have c240 : ∀ (f : Nat) (a : Int32) (g : LH), (rt_clb b f a g).1 240 = g.1 240 := by
    intro f
    induction f with
    | zero => intro a g; rfl
    | succ f ih =>
      intro a g
      unfold rt_clb
      split
      · rfl
      · split
        · rfl
        · rw [ih]
          unfold rt_add
          split
          · rfl
          · rw [w1_ne (by decide), w1_ne (by decide), w1_ne (by decide)]
  have d240 : ∀ (cc f : Nat) (a : Int32) (g : LH), (rt_ds b cc f a g).1 240 = g.1 240 := by
    intro cc f
    induction f with
    | zero => intro a g; rfl
    | succ f ih =>
      intro a g
      unfold rt_ds
      split
      · rfl
      · rw [ih, w1_ne (by decide), w1_ne (by decide)]
  have l240 : ∀ (f i : Nat) (g : LH), (cy_lv b f i g).1 240 = g.1 240 := by
    intro f
    induction f with
    | zero => intro i g; rfl
    | succ f ih =>
      intro i g
      unfold cy_lv
      rw [ih]
      split
      · rw [w1_ne (by decide)]
      · rfl
  unfold rt_cyc
  rw [l240]
  unfold cy_7
  rw [w1_ne (by decide), w1_ne (by decide)]
  unfold cy_6
  rw [c240]
  unfold cy_5 rt_add
  have e2 : ∀ g : LH, ∀ a : Int32, (rt_desc g b n 0 a).1 240 = g.1 240 := by
    intro g a
    unfold rt_desc
    split
    · rw [w1_ne (by decide), d240]
    · rfl
  split
  · rw [w1_ne (by decide), e2]
    unfold cy_2
    rw [w1_ne (by decide), w1_ne (by decide)]
  · rw [w1_ne (by decide), w1_ne (by decide), w1_ne (by decide), w1_ne (by decide), e2]
    unfold cy_2
    rw [w1_ne (by decide), w1_ne (by decide)]
theorem rt_run_240 {b n k : Nat} {rule : Int32} : ∀ (f i m : Nat) (h : LH) (c : Nat), NT h b n k m → RO h c → (rt_run b n k rule f i m h).2.1 240 = h.1 240
  | 0, _, _, _, _, _, _ => rfl
  | f + 1, i, m, h, c, H, R => by
    rw [rt_run]
    by_cases c1 : nt_pick h b k rule = -1
    · rw [if_pos c1]
    · rw [if_neg c1]
      have hx := (H.pick rule).resolve_left c1
      obtain ⟨-, -, -, ⟨HT, c2, R2⟩, -⟩ := st_ok H R hx
      rw [rt_run_240 f (i + 1) (m + 1) _ c2 HT R2, rt_step_240 H R hx]
/-- pivots on a grid: all ranges stay -/
theorem XA.run {r0 n k m c N : Nat} (X : XA h M) (hr : r0 < 16) (hm : m ≤ M) (H : NT h (15 * r0) n k m) (R : RO h c) (rule : Int32) : XA (rt_run (15 * r0) n k rule N 0 m h).2 (M + N) ∧ Fr h (rt_run (15 * r0) n k rule N 0 m h).2 := by
  obtain ⟨⟨m2, hm2, H2⟩, ⟨c2, R2⟩, L⟩ := rt_run_ok (rule := rule) N 0 m h c H R
  have F := rt_run_fr (rule := rule) N 0 m h c H R
  have E := rt_run_240 (rule := rule) N 0 m h c H R
  generalize (rt_run (15 * r0) n k rule N 0 m h).2 = g at H2 R2 L F E ⊢
  exact ⟨⟨(X.1.mono (by omega)).put hr (show m2 ≤ M + N by omega) H2 L, ⟨c2, R2⟩, by rw [E]; exact X.2.2.1, by rw [E]; exact X.2.2.2⟩, F⟩
theorem pu_pivot (X : XA h M) (hM : M < 1900000000) : ∃ (v : Int32) (g : LH), tf_Rt 11 184 [.ref 240] h (.int v) g ∧ XA g (M + 1) ∧ Fr h g := by
  obtain ⟨X1, F1, -⟩ := sv_ok X
  have s1 := sx_sv (d := 7) X
  generalize ac_sv h = h1 at X1 F1 s1
  obtain ⟨n, k, m, hm, H⟩ := X1.net
  obtain ⟨c, R⟩ := X1.2.1
  have s2 := sx_step (d := 6) H (by omega) R (h1.1 0 2)
  by_cases c1 : nt_pick h1 0 k (h1.1 0 2) = -1
  · rw [if_pos c1] at s2
    have s3 := sx_ca (d := 9) (h := h1) false
    obtain ⟨X3, F3, -⟩ := ca_ok X1 (bI false)
    refine ⟨_, _, fun Q q => en_X8_pivot (by decide) (go_X8_pivot_0 (by decide) (s1 _ (go_X8_pivot_4 (by decide) (s2 _ (go_X8_pivot_22 (by decide) ⟨fun _ => go_X8_pivot_33 (by decide) (go_X8_pivot_34 (by decide) (s3 _ (go_X8_pivot_37 (by decide) q))), fun z => absurd c1 z⟩))))), X3.mono (by omega), F1.tr F3⟩
  · rw [if_neg c1] at s2
    have hx := (H.pick (h1.1 0 2)).resolve_left c1
    obtain ⟨-, -, -, ⟨HT, c2, R2⟩, L⟩ := st_ok H R hx
    have F2 := rt_step_fr H R hx
    have E2 := rt_step_240 H R hx
    generalize rt_step h1 0 n m (nt_pick h1 0 k (h1.1 0 2)) = h2 at s2 HT R2 L F2 E2
    have X2 : XA h2 (M + 1) := ⟨(X1.1.mono (by omega)).put (r0 := 0) (by omega) (show m + 1 ≤ M + 1 by omega) HT (fun e h1 h2 => L e h1 (by omega)), ⟨c2, R2⟩, by rw [E2]; exact X1.2.2.1, by rw [E2]; exact X1.2.2.2⟩
    have s3 := sx_ca (d := 9) (h := h2) true
    obtain ⟨X3, F3, -⟩ := ca_ok X2 (bI true)
    exact ⟨_, _, fun Q q => en_X8_pivot (by decide) (go_X8_pivot_0 (by decide) (s1 _ (go_X8_pivot_4 (by decide) (s2 _ (go_X8_pivot_22 (by decide) ⟨fun z => absurd z c1, fun _ => go_X8_pivot_34 (by decide) (s3 _ (go_X8_pivot_37 (by decide) q))⟩))))), X3, (F1.tr F2).tr F3⟩
theorem pu_pivots (X : XA h M) (hM : M < 1900000000) (x : Int32) : ∃ (v : Int32) (g : LH), tf_Rt 11 185 [.ref 240, .int x] h (.int v) g ∧ XA g (M + 60) ∧ Fr h g := by
  by_cases c1 : x < 1
  · exact ⟨_, _, fun Q q => en_X8_pivots (by decide) (go_X8_pivots_0 (by decide) ⟨fun _ => go_X8_pivots_11 (by decide) q, fun z => absurd c1 z⟩), X.mono (by omega), Fr.rf⟩
  · by_cases c2 : x ≤ 60
    · have h0 : ¬ x < 0 := fun z => c1 (Int32.lt_iff_toInt_lt.mpr (by
        have := Int32.lt_iff_toInt_lt.mp z
        have e0 : (0 : Int32).toInt = 0 := by decide
        have e1 : (1 : Int32).toInt = 1 := by decide
        omega))
      obtain ⟨N, hN, eN⟩ := nI_of h0
      subst eN
      have hN60 : N ≤ 60 := (nI_leI (a := N) (b := 60) hN (by omega)).mp c2
      obtain ⟨X1, F1, -⟩ := sv_ok X
      have s1 := sx_sv (d := 7) X
      generalize ac_sv h = h1 at X1 F1 s1
      obtain ⟨n, k, m, hm, H⟩ := X1.net
      obtain ⟨c, R⟩ := X1.2.1
      have s2 := sx_run (d := 5) (M := N) H (by omega) (by omega) R (h1.1 0 2)
      obtain ⟨X2, F2⟩ := X1.run (r0 := 0) (N := N) (by omega) hm H R (h1.1 0 2)
      rw [Nat.mul_zero] at X2 F2
      generalize rt_run 0 n k (h1.1 0 2) N 0 m h1 = p at s2 X2 F2
      by_cases c3 : nI p.1 ≤ 0
      · have s3 := sx_ca (d := 9) (h := p.2) false
        obtain ⟨X3, F3, -⟩ := ca_ok X2 (bI false)
        exact ⟨_, _, fun Q q => en_X8_pivots (by decide) (go_X8_pivots_0 (by decide) ⟨fun z => absurd z c1, fun _ => ⟨fun _ => go_X8_pivots_13 (by decide) (s1 _ (go_X8_pivots_17 (by decide) (s2 _ (go_X8_pivots_36 (by decide) ⟨fun _ => go_X8_pivots_46 (by decide) (go_X8_pivots_47 (by decide) (s3 _ (go_X8_pivots_50 (by decide) q))), fun z => absurd c3 z⟩)))), fun z => absurd c2 z⟩⟩), X3.mono (by omega), (F1.tr F2).tr F3⟩
      · have s3 := sx_ca (d := 9) (h := p.2) true
        obtain ⟨X3, F3, -⟩ := ca_ok X2 (bI true)
        exact ⟨_, _, fun Q q => en_X8_pivots (by decide) (go_X8_pivots_0 (by decide) ⟨fun z => absurd z c1, fun _ => ⟨fun _ => go_X8_pivots_13 (by decide) (s1 _ (go_X8_pivots_17 (by decide) (s2 _ (go_X8_pivots_36 (by decide) ⟨fun z => absurd z c3, fun _ => go_X8_pivots_47 (by decide) (s3 _ (go_X8_pivots_50 (by decide) q))⟩)))), fun z => absurd c2 z⟩⟩), X3.mono (by omega), (F1.tr F2).tr F3⟩
    · exact ⟨_, _, fun Q q => en_X8_pivots (by decide) (go_X8_pivots_0 (by decide) ⟨fun z => absurd z c1, fun _ => ⟨fun z => absurd z c2, fun _ => go_X8_pivots_11 (by decide) q⟩⟩), X.mono (by omega), Fr.rf⟩
end PU
