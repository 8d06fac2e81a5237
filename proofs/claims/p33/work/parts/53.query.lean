/-! ===== what the class tells: it returns, and the grids stay ===== -/
section PQ
variable {h : LH} {M d : Nat}
theorem NO.pts {b n k : Nat} (H : NO h b n k) : h.1 b 0 = nI n ∧ n ≤ 7 := ⟨H.2.2.1, H.2.1.2.1⟩
theorem NO.arcs {b n k : Nat} (H : NO h b n k) : h.1 b 1 = nI k ∧ k ≤ 14 := ⟨H.2.2.2.1, H.2.1.2.2⟩
theorem sx_cntN {b n k : Nat} (H : NO h b n k) : tf_Rt (d + 3) 134 [.ref b] h (.int (nt_cnt h b k 0 0)) h := sx_cnt H.1 H.arcs.1 H.arcs.2 (fun a ha => H.ends (by have := H.arcs.2; omega))
def qv_grid (h : LH) (n k : Nat) (x : Int32) : Int32 :=
  if x.toInt = 0 then h.1 0 0 else if x.toInt = 1 then h.1 0 1 else if x.toInt = 2 then h.1 0 2 else if x.toInt = 3 then (if nt_cnt h 0 k 0 0 = 0 then 1 else 0)
  else if x.toInt = 4 then nt_unm h 0 n 0 0 else if x.toInt = 5 then h.1 11 0 else if x.toInt = 6 then h.1 11 1 else if x.toInt = 7 then h.1 11 2 else if x.toInt = 8 then h.1 11 3
  else if x.toInt = 9 then nt_cnt h 0 k 0 0 else if x.toInt = 10 then h.1 251 1 else if x.toInt = 11 then h.1 240 9 else -1
theorem pq_grid {n k : Nat} (H : NO h 0 n k) (x : Int32) : tf_Rt 11 194 [.ref 240, .int x] h (.int (qv_grid h n k x)) h := by
  intro Q q
  unfold qv_grid at q
  refine en_X8_grid (by decide) (go_X8_grid_0 (by decide) ⟨fun c => go_X8_grid_177 (by decide) ?_, fun c => go_X8_grid_64 (by decide) ?_, fun c => go_X8_grid_72 (by decide) ?_, fun c => go_X8_grid_80 (by decide) ?_, fun c => go_X8_grid_88 (by decide) (sx_cntN H _ (go_X8_grid_95 (by decide) ⟨fun c2 => go_X8_grid_103 (by decide) ?_, fun c2 => go_X8_grid_102 (by decide) (go_X8_grid_103 (by decide) ?_)⟩)), fun c => go_X8_grid_104 (by decide) (sx_unm H.1 H.pts.1 H.pts.2 _ (go_X8_grid_111 (by decide) ?_)), fun c => go_X8_grid_112 (by decide) ?_, fun c => go_X8_grid_123 (by decide) ?_, fun c => go_X8_grid_134 (by decide) ?_, fun c => go_X8_grid_145 (by decide) ?_, fun c => go_X8_grid_156 (by decide) (sx_cntN H _ (go_X8_grid_163 (by decide) ?_)), fun c => go_X8_grid_164 (by decide) ?_, fun c => go_X8_grid_172 (by decide) ?_, trivial⟩)
  · rw [if_neg (by omega), if_neg (by omega), if_neg (by omega), if_neg (by omega), if_neg (by omega), if_neg (by omega), if_neg (by omega), if_neg (by omega), if_neg (by omega), if_neg (by omega), if_neg (by omega), if_neg (by omega)] at q
    exact q
  · rw [c] at q; exact q
  · rw [c] at q; exact q
  · rw [c] at q; exact q
  · rw [c, c2] at q; exact q
  · simp only [c, if_neg c2] at q; exact q
  · rw [c] at q; exact q
  · rw [c] at q; exact q
  · rw [c] at q; exact q
  · rw [c] at q; exact q
  · rw [c] at q; exact q
  · rw [c] at q; exact q
  · rw [c] at q; exact q
  · rw [c] at q; exact q
/-- thread: j steps on from a -/
def qv_thr (h : LH) (n : Nat) : Nat → Int32 → Int32
  | 0, a => a
  | f + 1, a => qv_thr h n f (nt_thr h 0 n n (nt_ch h 0 a n 0) a)
theorem ch_or {b : Nat} {x : Int32} {f p : Nat} (hp : p + f ≤ 7) : nt_ch h b x f p = -1 ∨ vp_in (nt_ch h b x f p) 8 := by
  rcases nt_ch_in h b x f p with e | ⟨j, h1, h2, e⟩
  · exact Or.inl e
  · exact Or.inr (by rw [e]; exact vi_of (by omega) (by omega))
theorem thr_or {b n : Nat} (hn7 : n ≤ 7) (hu : nt_upok h b) : ∀ (f : Nat) (r a : Int32), (r = -1 ∨ vp_in r 8) → (a = -1 ∨ vp_in a 8) → nt_thr h b n f r a = -1 ∨ vp_in (nt_thr h b n f r a) 8
  | 0, _, _, hr, _ => hr
  | f + 1, r, a, hr, ha => by
    unfold nt_thr
    split
    · split
      · exact hr
      · rename_i c2
        split
        · exact hr
        · rename_i c3
          have ha8 := ha.resolve_left c2
          obtain ⟨j, hj, e⟩ := vi_nI (vi_7 ha8 c3)
          have hcl : a.toNatClampNeg = j := by rw [e]; exact nI_clamp (by omega)
          refine thr_or hn7 hu f _ _ ?_ (Or.inr (hu.at ha8 c3))
          rw [hcl]
          by_cases hjn : j + 1 ≤ n
          · exact ch_or (by omega)
          · rw [show n - (j + 1) = 0 by omega]
            exact Or.inl rfl
    · exact hr
theorem pq_thrL {n k : Nat} (H : NO h 0 n k) {x : Int32} {j : Nat} (hx : x = nI j) (hj : j ≤ 7) {Q : tf_Q} : ∀ (f i : Nat) (a : Int32), i + f = j → (a = -1 ∨ vp_in a 8) → Q (.int (qv_thr h n f a)) h → lx_X8_thread 298 (tf_Cd 298 10) Q 30 [.ref 240, .int x, .int a, .int (nI i)] [] h
  | 0, i, a, hi, ha, q => go_X8_thread_30 (by decide) ⟨fun _ => go_X8_thread_50 (by decide) q, fun c => absurd (by rw [hx]; exact nI_le (by omega) (by omega)) c⟩
  | f + 1, i, a, hi, ha, q => by
    refine go_X8_thread_30 (by decide) ⟨fun c => ?_, fun _ => sx_thr (d := 8) H.1 H.pts.1 H.pts.2 H.2.2.2.2.1 ha _ (go_X8_thread_43 (by decide) ?_)⟩
    · rw [hx] at c
      exact absurd c (nI_ge (by omega) (by omega))
    · rw [nI_1]
      exact pq_thrL H hx hj f (i + 1) _ (by omega) (thr_or H.pts.2 H.2.2.2.2.1 n _ _ (ch_or (by have := H.pts.2; omega)) ha) q
def qv_thread (h : LH) (n : Nat) (x : Int32) : Int32 := if nt_hasPt h 0 x = true then qv_thr h n x.toNatClampNeg (nt_ch h 0 7 n 0) else -1
theorem pq_thread {n k : Nat} (H : NO h 0 n k) (x : Int32) : tf_Rt 11 195 [.ref 240, .int x] h (.int (qv_thread h n x)) h := by
  intro Q q
  unfold qv_thread at q
  have e15 : nt_hasPt h 0 x = false → lx_X8_thread 298 (tf_Cd 298 10) Q 15 [.ref 240, .int x, tf_z, tf_z] [] h := fun e => go_X8_thread_15 (by decide) (by rw [e] at q; exact q)
  refine en_X8_thread (by decide) (go_X8_thread_0 (by decide) ⟨fun c => e15 (by simp [nt_hasPt, c]), fun c => ⟨fun c2 => ?_, fun c2 => e15 ?_⟩⟩)
  · have e : nt_hasPt h 0 x = true := by
      have : ¬ h.1 0 0 ≤ x := Int32.not_le.mpr c2
      simp [nt_hasPt, c, this]
    obtain ⟨j, hj, ej⟩ := vi_nI (hp_vi H.pts.1 H.pts.2 e)
    have hcl : x.toNatClampNeg = j := by rw [ej]; exact nI_clamp (by have := H.pts.2; omega)
    rw [if_pos e, hcl] at q
    have h7 := H.pts.2
    exact go_X8_thread_17 (by decide) (sx_ch (d := 9) H.1 H.pts.1 H.pts.2 7 (y := -1) (j := 0) rfl (by omega) _ (go_X8_thread_27 (by decide) (pq_thrL H ej (by omega) j 0 _ (by omega) (ch_or (by omega)) q)))
  · have : h.1 0 0 ≤ x := Int32.not_lt.mp c2
    simp [nt_hasPt, this]
/-- the way from u to v -/
def wy_c (h : LH) (b n : Nat) (u v : Int32) : LH := rt_clb b 8 u (cy_2 h b n u v)
def rt_way (h : LH) (b n : Nat) (u v : Int32) : LH := rt_desc (wy_c h b n u v) b n (rt_cnt (wy_c h b n u v)) v
theorem way_ok {b n k c0 : Nat} (H : NO h b n k) (R0 : RO h c0) {u v : Int32} (hu : vp_in u 8) (hv : vp_in v 8) : (tf_Rt (d + 3) 157 [.ref 241, .ref b, .int u, .int v] h tf_z (rt_way h b n u v)) ∧ NO (rt_way h b n u v) b n k ∧ (∃ c, RO (rt_way h b n u v) c) ∧ (∀ e, e < 240 → (rt_way h b n u v).1 e = h.1 e) := by
  have K := H.1
  obtain ⟨⟨H1, R1⟩, ⟨H2, R2, J2⟩, -, -, -⟩ := cy_ok (x := 0) (al := 0) H R0 (vi_of (j := 0) (m := 21) (by omega) (by omega)) hu hv
  obtain ⟨H3, ⟨c3, -, R3⟩, L3, T3⟩ := rt_clb_ok 8 u _ _ H2 R2 hu
  have s1 := sx_meet (d := d) H1 hu hv
  have s2 := sx_clb (d := d) H2 R2 hu
  have J3 : vp_in ((rt_clb b 8 u (cy_2 h b n u v)).1 241 3) 8 := by
    rw [T3 3 (by decide)]
    exact J2
  have s3 := sx_desc (d := d) H3 R3 J3 hv
  obtain ⟨H4, ⟨c4, -, R4⟩, L4, T4⟩ := rt_desc_ok H3 R3 hv
  unfold rt_way wy_c
  rw [R3.cnt]
  refine ⟨fun Q q => ?_, H4, ⟨c4, R4⟩, fun e he => ?_⟩
  · generalize rt_desc (rt_clb b 8 u (cy_2 h b n u v)) b n c3 v = g4 at s3 q
    refine en_X3_way (by decide) K (go_X3_way_0 (by decide) K (s1 _ (go_X3_way_12 (by decide) K ?_)))
    exact s2 _ (go_X3_way_21 (by decide) K (s3 _ (go_X3_way_27 (by decide) K q)))
  · rw [L4 e he, L3 e he]
    unfold cy_2
    rw [w1_ne (by omega), w1_ne (by omega)]
theorem vi_m10 {x : Int32} {c : Nat} (hc : c ≤ 8) (c1 : ¬ x < 10) (c2 : x - 10 < nI c) : vp_in (x - 10) 8 := by
  have h0 : ¬ x < 0 := fun z => c1 (Int32.lt_trans z (by decide))
  obtain ⟨j, hj, e⟩ := nI_of h0
  subst e
  have h10 : 10 ≤ j := by
    rcases Nat.lt_or_ge j 10 with z | z
    · exact absurd (nI_lt (b := 10) z (by omega)) c1
    · exact z
  have e2 : nI j - 10 = nI (j - 10) := by
    have : nI (j - 10) + nI 10 = nI j := by rw [nI_add]; congr 1; omega
    rw [← this]
    exact Int32.add_sub_cancel _ _
  rw [e2] at c2 ⊢
  have := (nI_ltI (by omega) (by omega)).mp c2
  exact vi_of (by omega) (by omega)
def rt_told (h : LH) (x y : Int32) : Int32 := if x < 10 then y else if x - 10 < h.1 241 2 then nt_told8 (h.1 242 (x - 10).toNatClampNeg) else y
theorem sx_rtold {c : Nat} (R : RO h c) (x y : Int32) : tf_Rt (d + 2) 164 [.ref 241, .int x, .int y] h (.int (rt_told h x y)) h := by
  intro Q q
  unfold rt_told at q
  refine en_X3_told (by decide) (go_X3_told_0 (by decide) ⟨fun c => go_X3_told_17 (by decide) (by rw [if_pos c] at q; exact q), fun c1 => ⟨fun c2 => go_X3_told_19 (by decide) ⟨?_, sx_toldEdge _ _ (go_X3_told_31 (by decide) (by rw [if_neg c1, if_pos c2] at q; exact q))⟩, fun c2 => go_X3_told_17 (by decide) (by rw [if_neg c1, if_neg c2] at q; exact q)⟩⟩)
  rw [R.1] at c2
  exact vi_m10 R.2.1 c1 c2
theorem sx_leav (h6 : vp_in (h.1 241 6) 8) : tf_Rt (d + 1) 161 [.ref 241] h (.int (h.1 242 (h.1 241 6).toNatClampNeg)) h := fun _ q => en_X3_leaving (by decide) (go_X3_leaving_0 (by decide) ⟨h6, q⟩)
/-- a way or a cycle was looked up: grids stay -/
theorem XA.look {g : LH} (X : XA h M) (L : ∀ e, e < 240 → g.1 e = h.1 e) (E : g.1 240 = h.1 240) {c : Nat} (R : RO g c) : XA g M := by
  obtain ⟨XN1, -, u8, u9⟩ := X
  refine ⟨fun r hr => ?_, ⟨c, R⟩, by rw [E]; exact u8, by rw [E]; exact u9⟩
  obtain ⟨n, k, m, hm, H⟩ := XN1 r hr
  exact ⟨n, k, m, hm, H.same (fun e h1 h2 => L e (by omega))⟩
theorem rt_way_fr {b n : Nat} {u v : Int32} : Fr h (rt_way h b n u v) := by
  unfold rt_way wy_c
  refine Fr.tr ?_ rt_desc_fr
  refine Fr.tr ?_ (rt_clb_fr _ _ _)
  exact (Fr.rf.w (by decide)).w (by decide)
theorem rt_clb_240 {b : Nat} : ∀ (f : Nat) (a : Int32) (g : LH), (rt_clb b f a g).1 240 = g.1 240 := by
  intro f
  induction f with
  | zero => intro a g; rfl
  | succ f ih =>
    intro a g
    unfold rt_clb
    split
    · rfl
    · split
      · rfl
      · rw [ih]
        unfold rt_add
        split
        · rfl
        · rw [w1_ne (by decide), w1_ne (by decide), w1_ne (by decide)]
theorem rt_ds_240 {b : Nat} : ∀ (cc f : Nat) (a : Int32) (g : LH), (rt_ds b cc f a g).1 240 = g.1 240 := by
  intro cc f
  induction f with
  | zero => intro a g; rfl
  | succ f ih =>
    intro a g
    unfold rt_ds
    split
    · rfl
    · rw [ih, w1_ne (by decide), w1_ne (by decide)]
theorem cy_lv_240 {b : Nat} : ∀ (f i : Nat) (g : LH), (cy_lv b f i g).1 240 = g.1 240 := by
  intro f
  induction f with
  | zero => intro i g; rfl
  | succ f ih =>
    intro i g
    unfold cy_lv
    rw [ih]
    split
    · rw [w1_ne (by decide)]
    · rfl
theorem rt_desc_240 {b n c : Nat} {g : LH} {a : Int32} : (rt_desc g b n c a).1 240 = g.1 240 := by
  unfold rt_desc
  split
  · rw [w1_ne (by decide), rt_ds_240]
  · rfl
theorem rt_cyc_240 {b n : Nat} {x : Int32} : (rt_cyc h b n x).1 240 = h.1 240 := by
  unfold rt_cyc
  rw [cy_lv_240]
  unfold cy_7
  rw [w1_ne (by decide), w1_ne (by decide)]
  unfold cy_6
  rw [rt_clb_240]
  unfold cy_5 rt_add
  split
  · rw [w1_ne (by decide), rt_desc_240]
    unfold cy_2
    rw [w1_ne (by decide), w1_ne (by decide)]
  · rw [w1_ne (by decide), w1_ne (by decide), w1_ne (by decide), w1_ne (by decide), rt_desc_240]
    unfold cy_2
    rw [w1_ne (by decide), w1_ne (by decide)]
theorem rt_way_240 {b n : Nat} {u v : Int32} : (rt_way h b n u v).1 240 = h.1 240 := by
  unfold rt_way wy_c
  rw [rt_desc_240, rt_clb_240]
  unfold cy_2
  rw [w1_ne (by decide), w1_ne (by decide)]
theorem two_in {n k : Nat} (H : NO h 0 n k) {x y : Int32} (e : nt_two h 0 x y = true) : vp_in x 7 ∧ vp_in y 7 := by
  unfold nt_two at e
  simp only [Bool.and_eq_true] at e
  exact ⟨vi_mono (hp_vi H.pts.1 H.pts.2 e.1) H.pts.2, vi_mono (hp_vi H.pts.1 H.pts.2 e.2.1) H.pts.2⟩
def qv_wayL (x : Int32) : Int32 := if x < 1000000 then x else -1
def qv_path (g : LH) (c : Nat) (z : Int32) : Int32 := if z.toInt = 0 then g.1 241 2 else if z.toInt = 1 then qv_wayL (rt_lr g 0 c 0 1000000) else if z.toInt = 2 then rt_cs g 0 c 0 0 else rt_told g z (-1000)
theorem pq_path (X : XA h M) (x y z : Int32) : ∃ (v : Int32) (g : LH), tf_Rt 11 196 [.ref 240, .int x, .int y, .int z] h (.int v) g ∧ XA g M ∧ Fr h g := by
  obtain ⟨n, k, m, hm, H⟩ := X.net
  obtain ⟨c0, R0⟩ := X.2.1
  have s1 := sx_two (h := h) (d := 8) H.1.1 x y
  by_cases e : nt_two h 0 x y = true
  · obtain ⟨hx, hy⟩ := two_in H.1 e
    obtain ⟨s2, H2, ⟨c, R⟩, L⟩ := way_ok (d := 7) H.1 R0 (vi_mono hx (by omega)) (vi_mono hy (by omega))
    have F := rt_way_fr (h := h) (b := 0) (n := n) (u := x) (v := y)
    have E := rt_way_240 (h := h) (b := 0) (n := n) (u := x) (v := y)
    generalize rt_way h 0 n x y = g at s2 H2 R L F E
    have s3 := sx_lr (d := 8) H2.1 R
    have s4 := sx_cs (d := 9) H2.1 R
    have s5 := sx_rtold (d := 8) R z (-1000)
    refine ⟨qv_path g c z, g, fun Q q => ?_, X.look L E R, F⟩
    unfold qv_path at q
    refine en_X8_path (by decide) (go_X8_path_0 (by decide) (s1 _ (go_X8_path_9 (by decide) ⟨fun z => ?_, fun _ => go_X8_path_16 (by decide) (s2 _ (go_X8_path_29 (by decide) ⟨fun c => go_X8_path_104 (by decide) (s5 _ (go_X8_path_115 (by decide) ?_)), fun c => go_X8_path_56 (by decide) ?_, fun c => go_X8_path_64 (by decide) (s3 _ (go_X8_path_75 (by decide) ⟨fun c2 => go_X8_path_89 (by decide) (go_X8_path_91 (by decide) ?_), fun c2 => go_X8_path_91 (by decide) ?_⟩)), fun c => go_X8_path_92 (by decide) (s4 _ (go_X8_path_103 (by decide) ?_)), trivial⟩))⟩)))
    · rw [bI_0, e] at z
      exact absurd z (by decide)
    · rw [if_neg (by omega), if_neg (by omega), if_neg (by omega)] at q
      exact q
    · rw [c] at q
      exact q
    · rw [c, qv_wayL, if_pos c2] at q
      exact q
    · rw [c, qv_wayL, if_neg c2] at q
      exact q
    · rw [c] at q
      exact q
  · refine ⟨_, _, fun Q q => en_X8_path (by decide) (go_X8_path_0 (by decide) (s1 _ (go_X8_path_9 (by decide) ⟨fun _ => q, fun z => absurd (by rw [bI_0]; exact Bool.eq_false_iff.mpr e) z⟩))), X, Fr.rf⟩
def qv_next (g : LH) (x y : Int32) : Int32 := if x.toInt = 0 then y else if x.toInt = 1 then nt_told8 (g.1 242 (g.1 241 6).toNatClampNeg) else if x.toInt = 2 then g.1 241 4 else if x.toInt = 3 then nt_told g 0 (g.1 241 3) else if x.toInt = 4 then g.1 241 2 else rt_told g x (-1)
theorem pq_next (X : XA h M) (x : Int32) : ∃ (v : Int32) (g : LH), tf_Rt 11 197 [.ref 240, .int x] h (.int v) g ∧ XA g M ∧ Fr h g := by
  obtain ⟨n, k, m, hm, H⟩ := X.net
  obtain ⟨c0, R0⟩ := X.2.1
  have s1 := sx_pick2 (d := 7) H (h.1 0 2)
  by_cases e : nt_pick h 0 k (h.1 0 2) = -1
  · exact ⟨_, _, fun Q q => en_X8_next (by decide) (go_X8_next_0 (by decide) (s1 _ (go_X8_next_14 (by decide) ⟨fun _ => q, fun z => absurd e z⟩))), X, Fr.rf⟩
  · have hp := vi_mono ((H.pick (h.1 0 2)).resolve_left e) H.1.arcs.2
    generalize nt_pick h 0 k (h.1 0 2) = p at s1 e hp
    obtain ⟨H2, ⟨c, R⟩, -, h6, L⟩ := cyc_ok H.1 R0 hp
    have s2 := sx_cyc (d := 7) H.1 R0 hp
    have F := rt_cyc_fr (h := h) (b := 0) (n := n) (x := p)
    have E := rt_cyc_240 (h := h) (b := 0) (n := n) (x := p)
    generalize rt_cyc h 0 n p = g at s2 H2 R L F E h6
    have s3 := sx_leav (d := 9) h6
    have s4 := sx_toldNode (h := g) (d := 9) H2.1 (g.1 241 3)
    have s5 := sx_rtold (d := 8) R x (-1)
    have s6 := sx_toldEdge (h := g) (d := 9) (g.1 242 (g.1 241 6).toNatClampNeg)
    refine ⟨qv_next g x p, g, fun Q q => ?_, X.look L E R, F⟩
    unfold qv_next at q
    refine en_X8_next (by decide) (go_X8_next_0 (by decide) (s1 _ (go_X8_next_14 (by decide) ⟨fun z => absurd z e, fun _ => go_X8_next_22 (by decide) (s2 _ (go_X8_next_34 (by decide) ⟨fun c => go_X8_next_112 (by decide) (s5 _ (go_X8_next_121 (by decide) ?_)), fun c => go_X8_next_68 (by decide) ?_, fun c => go_X8_next_70 (by decide) (s3 _ (go_X8_next_77 (by decide) (s6 _ (go_X8_next_80 (by decide) ?_)))), fun c => go_X8_next_81 (by decide) ?_, fun c => go_X8_next_89 (by decide) (s4 _ (go_X8_next_103 (by decide) ?_)), fun c => go_X8_next_104 (by decide) ?_, trivial⟩))⟩)))
    · rw [if_neg (by omega), if_neg (by omega), if_neg (by omega), if_neg (by omega), if_neg (by omega)] at q
      exact q
    · rw [c] at q
      exact q
    · rw [c] at q
      exact q
    · rw [c] at q
      exact q
    · rw [c] at q
      exact q
    · rw [c] at q
      exact q
theorem pq_past {n k m : Nat} (H : NT h 0 n k m) (hm : m < 2000000000) (x y : Int32) : tf_Rt 11 198 [.ref 240, .int x, .int y] h (.int (nt_ttold h 11 m x y)) h := fun _ q => en_X8_past (by decide) (go_X8_past_0 (by decide) (sx_ttold (d := 8) (by decide +kernel) H.2.1 hm x y _ (go_X8_past_12 (by decide) q)))
def qv_bill (y x : Int32) : Int32 := if lg_cmp (y.toInt64 * x.toInt64) (-2147483648) < 0 then -2147483648 else if lg_cmp (y.toInt64 * x.toInt64) 2147483647 ≤ 0 then (y.toInt64 * x.toInt64).toInt32 else -2147483648
theorem pq_bill {n k : Nat} (H : NO h 0 n k) (x : Int32) : tf_Rt 11 199 [.ref 240, .int x] h (.int (qv_bill (nt_spn h 0 k 0 0) x)) h := by
  intro Q q
  unfold qv_bill at q
  refine en_X8_bill (by decide) (go_X8_bill_0 (by decide) (sx_spn (d := 9) H.1 H.arcs.1 H.arcs.2 _ (go_X8_bill_7 (by decide) ⟨fun c => go_X8_bill_28 (by decide) ?_, fun c => ⟨fun c2 => go_X8_bill_32 (by decide) ?_, fun c2 => go_X8_bill_28 (by decide) ?_⟩⟩)))
  · rw [if_pos c] at q
    exact q
  · rw [if_neg c, if_pos c2] at q
    exact q
  · rw [if_neg c, if_neg c2] at q
    exact q
def qv_led (h : LH) (k : Nat) (x y : Int32) : Nat → Nat → Int32 → Int32
  | 0, i, _ => if x = -1 then nI i else -1000
  | f + 1, i, c => if 99 < c then (if x = -1 then nI i else -1000) else if nI i = x then (if y = 0 then c else nt_fat h 0 c k 0 0) else qv_led h k x y f (i + 1) (nt_fca h 0 c k 0 100)
theorem pq_ledL {n k : Nat} (H : NO h 0 n k) {x y : Int32} {Q : tf_Q} : ∀ (f i : Nat) (c : Int32), i + f = 14 → Q (.int (qv_led h k x y f i c)) h → lx_X8_ledger 298 (tf_Cd 298 10) Q 22 [.ref 240, .int x, .int y, .int (nI i), .int c] [] h := by
  have e76 : ∀ (i : Nat) (c : Int32), Q (.int (if x = -1 then nI i else -1000)) h → lx_X8_ledger 298 (tf_Cd 298 10) Q 76 [.ref 240, .int x, .int y, .int (nI i), .int c] [] h := fun i c q => go_X8_ledger_76 (by decide) ⟨fun e => go_X8_ledger_88 (by decide) (by rw [if_pos e] at q; exact q), fun e => go_X8_ledger_85 (by decide) (go_X8_ledger_88 (by decide) (by rw [if_neg e] at q; exact q))⟩
  intro f
  induction f with
  | zero =>
    intro i c hi q
    exact go_X8_ledger_22 (by decide) ⟨fun _ => e76 i c q, fun z => absurd (by exact nI_le (a := 14) (by omega) (by omega)) z⟩
  | succ f ih =>
    intro i c hi q
    unfold qv_led at q
    refine go_X8_ledger_22 (by decide) ⟨fun z => absurd z (nI_ge (b := 14) (by omega) (by omega)), fun _ => ⟨fun c1 => e76 i c (by rw [if_pos c1] at q; exact q), fun c1 => ?_⟩⟩
    rw [if_neg c1] at q
    refine ⟨fun c2 => ⟨fun c3 => go_X8_ledger_56 (by decide) (go_X8_ledger_58 (by decide) (by rw [if_pos c2, if_pos c3] at q; exact q)), fun c3 => sx_fat (d := 9) H.1 H.arcs.1 H.arcs.2 c _ (go_X8_ledger_53 (by decide) (go_X8_ledger_58 (by decide) (by rw [if_pos c2, if_neg c3] at q; exact q)))⟩, fun c2 => go_X8_ledger_59 (by decide) ?_⟩
    rw [if_neg c2] at q
    rw [nI_1]
    exact sx_fca (d := 9) H.1 H.arcs.1 H.arcs.2 c _ (go_X8_ledger_71 (by decide) (ih (i + 1) _ (by omega) q))
def qv_ledger (h : LH) (k : Nat) (x y : Int32) : Int32 := if -1 ≤ x then qv_led h k x y 14 0 (nt_fca h 0 (-100) k 0 100) else -1000
theorem pq_ledger {n k : Nat} (H : NO h 0 n k) (x y : Int32) : tf_Rt 11 200 [.ref 240, .int x, .int y] h (.int (qv_ledger h k x y)) h := by
  intro Q q
  unfold qv_ledger at q
  refine en_X8_ledger (by decide) (go_X8_ledger_0 (by decide) ⟨fun c => go_X8_ledger_9 (by decide) (sx_fca (d := 9) H.1 H.arcs.1 H.arcs.2 (-100) _ (go_X8_ledger_20 (by decide) (pq_ledL H 14 0 _ (by omega) ?_))), fun c => ?_⟩)
  · rw [if_pos c] at q
    exact q
  · rw [if_neg c] at q
    exact q
end PQ
