/-! ===== what holds between the law's rounds; a call on both sides keeps it ===== -/
section INV
variable {h g : LH} {M N t : Nat}
theorem RI.hi (R : RI h N) (e : ∀ c, 270 ≤ c → c < 276 → g.1 c = h.1 c) : RI g N := by
  obtain ⟨⟨n, k, G⟩, U, I, ⟨s, hs, es⟩, D⟩ := R
  have e1 := e 271 (by decide) (by decide)
  exact ⟨⟨n, k, G.cong (fun i _ => by rw [e1])⟩, U.same (by rw [e 270 (by decide) (by decide)]) (e 274 (by decide) (by decide)), I.mv (Nat.le_refl _) (fun ix _ _ => by rw [e1]) (e 273 (by decide) (by decide)), ⟨s, hs, by rw [e1]; exact es⟩, D.same (e 275 (by decide) (by decide))⟩
theorem RI.up {N2 : Nat} (R : RI h N) (hN : N ≤ N2) : RI h N2 := by
  obtain ⟨⟨n, k, G⟩, U, I, S, D⟩ := R
  exact ⟨⟨n, k, G.mono hN⟩, U.mono hN, I.mv hN (fun _ _ _ => rfl) rfl, S, D⟩
theorem CI.lo (X : CI h M) (e : ∀ c, c < 270 → g.1 c = h.1 c) : CI g M := ⟨X.1.lo (fun c hc => e c (by omega)), X.2.same (fun c h1 h2 => e c (by omega))⟩
/-- both sides, with t rounds done -/
def IV (h : LH) (t : Nat) : Prop := CI h (2000000 * t) ∧ RI h (8000 * t)
theorem IV.up {t2 : Nat} (I : IV h t) (ht : t ≤ t2) : IV h t2 := ⟨I.1.mono (by omega), I.2.up (by omega)⟩
theorem IV.ext (I : IV h t) (e : g.1 = h.1) : IV g t := ⟨I.1.lo (fun c _ => by rw [e]), I.2.hi (fun c _ _ => by rw [e])⟩
theorem iv_sp {kx km M2 N2 : Nat} {As Bs : List Value} (I : IV h t) (c : CS kx As h M2) (r : ∀ g, RI g (8000 * t) → tf_Sp 11 km (.ref 270 :: Bs) g (fun v k => (∃ x, v = .int x) ∧ RI k N2 ∧ CFm g k)) (hM : M2 ≤ 2000000 * (t + 1)) (hN : N2 ≤ 8000 * (t + 1)) : lk_sp h kx (.ref 240 :: As) km (.ref 270 :: Bs) (fun g => IV g (t + 1)) :=
  tf_Sp.mp c (fun _ g p => ⟨p.1, (r g (I.2.hi (fun c h1 _ => p.2.2.1 c h1))).mp (fun _ _ q => ⟨q.1, (p.2.1.lo q.2.2).mono hM, q.2.1.up hN⟩)⟩)
theorem iv_q {kx km M2 N2 : Nat} {As Bs : List Value} (I : IV h t) (c : CC kx As h M2) (r : ∀ g, RI g (8000 * t) → RQ km Bs g N2) (hM : M2 ≤ 2000000 * (t + 1)) (hN : N2 ≤ 8000 * (t + 1)) : lk_sp h kx (.ref 240 :: As) km (.ref 270 :: Bs) (fun g => IV g (t + 1)) :=
  iv_sp I c.cs (fun g R => tf_Sp.mp (r g R) (fun _ _ p => ⟨p.1, p.2.1, p.2.2.cf⟩)) hM hN
theorem cc_v {kn N : Nat} {As : List Value} {v : Int32} (P : PGS h) (s : ∃ (g : LH), tf_Rt 11 kn (.ref 240 :: As) h (.int v) g ∧ XA g N ∧ Fr h g) : ∃ g, tf_Rt 11 kn (.ref 240 :: As) h (.int v) g ∧ CI g N ∧ CF h g := by
  obtain ⟨g, r, X, F⟩ := s
  exact ⟨g, r, F.ci X P⟩
theorem iv_0 (I : IV h t) (x : Int64) : lk_sp h 181 [.ref 240, .long x] 8 [.ref 270, .long x] (fun g => IV g (t + 1)) := iv_sp I (cs_spell I.1) (fun _ R => rq_spell R) (by omega) (by omega)
theorem iv_1 (I : IV h t) : lk_sp h 182 [.ref 240] 24 [.ref 270] (fun g => IV g (t + 1)) := iv_sp I (cs_lay I.1) (fun _ R => (rq_lay R).mp (fun _ _ p => ⟨p.1, p.2.1, p.2.2.1⟩)) (by omega) (by omega)
theorem iv_2 (I : IV h t) (x : Int32) : lk_sp h 183 [.ref 240, .int x] 25 [.ref 270, .int x] (fun g => IV g (t + 1)) := by
  obtain ⟨v, r⟩ := pu_fault (h := h) x
  exact iv_q I (cc_0 I.1 r) (fun _ R => rq_fault R x) (by omega) (by omega)
theorem iv_3 (I : IV h t) (ht : t ≤ 511) : lk_sp h 184 [.ref 240] 54 [.ref 270] (fun g => IV g (t + 1)) := iv_q I (cc_r I.1.2 (pu_pivot I.1.1 (by omega))) (fun _ R => rq_pivot R (by omega)) (by omega) (by omega)
theorem iv_4 (I : IV h t) (ht : t ≤ 511) (x : Int32) : lk_sp h 185 [.ref 240, .int x] 55 [.ref 270, .int x] (fun g => IV g (t + 1)) := iv_q I (cc_r I.1.2 (pu_pivots I.1.1 (by omega) x)) (fun _ R => rq_pivots R (by omega) x) (by omega) (by omega)
theorem iv_5 (I : IV h t) (x : Int32) : lk_eq h 186 [.ref 240, .int x] 56 [.ref 270, .int x] (fun g => IV g (t + 1)) := by
  obtain ⟨g, r, X, F⟩ := cc_v I.1.2 (pu_rule I.1.1 x)
  exact r.sp ⟨_, rfl, (rq_rule (I.2.hi (fun c h1 _ => F.1 c h1)) x).mp (fun w k p => ⟨p.1, (X.lo p.2.2.cf).mono (by omega), p.2.1.up (by omega)⟩)⟩
theorem iv_6 (I : IV h t) (x y z : Int32) : lk_sp h 187 [.ref 240, .int x, .int y, .int z] 59 [.ref 270, .int x, .int y, .int z] (fun g => IV g (t + 1)) := iv_q I (cc_r I.1.2 (pu_shift I.1.1 x y z)) (fun _ R => rq_shift R x y z) (by omega) (by omega)
theorem iv_7 (I : IV h t) (x y : Int32) : lk_sp h 188 [.ref 240, .int x, .int y] 63 [.ref 270, .int x, .int y] (fun g => IV g (t + 1)) := iv_q I (cc_r I.1.2 (pu_block I.1.1 x y)) (fun _ R => rq_block R x y) (by omega) (by omega)
theorem iv_8 (I : IV h t) (x y : Int32) : lk_sp h 189 [.ref 240, .int x, .int y] 64 [.ref 270, .int x, .int y] (fun g => IV g (t + 1)) := iv_q I (cc_r I.1.2 (pu_widen I.1.1 x y)) (fun _ R => rq_widen R x y) (by omega) (by omega)
theorem iv_9 (I : IV h t) (x y : Int32) : lk_sp h 190 [.ref 240, .int x, .int y] 65 [.ref 270, .int x, .int y] (fun g => IV g (t + 1)) := iv_q I (cc_r I.1.2 (pu_charge I.1.1 x y)) (fun _ R => rq_charge R x y) (by omega) (by omega)
theorem iv_10 (I : IV h t) : lk_vo h 191 [.ref 240] 66 [.ref 270] (fun g => IV g (t + 1)) := by
  obtain ⟨g, r, X, F⟩ := pu_cold I.1.1
  obtain ⟨X, F⟩ := F.ci X I.1.2
  exact r.sp ((rq_cold (I.2.hi (fun c h1 _ => F.1 c h1))).mp (fun w k p => ⟨(X.lo p.2.2.cf).mono (by omega), p.2.1.up (by omega)⟩))
theorem iv_11 (I : IV h t) (ht : t ≤ 511) : lk_sp h 192 [.ref 240] 69 [.ref 270] (fun g => IV g (t + 1)) := iv_sp I (cs_work I.1 (by omega)) (fun _ R => (rq_work R (by omega)).mp (fun _ _ p => ⟨p.1, p.2.1, p.2.2.1⟩)) (by omega) (by omega)
theorem iv_12 (I : IV h t) : lk_sp h 193 [.ref 240] 70 [.ref 270] (fun g => IV g (t + 1)) := iv_q I (cc_r I.1.2 (pu_undo I.1.1)) (fun _ R => rq_undo R) (by omega) (by omega)
theorem iv_13 (I : IV h t) (x : Int32) : lk_sp h 194 [.ref 240, .int x] 72 [.ref 270, .int x] (fun g => IV g (t + 1)) := by
  obtain ⟨n, k, m, hm, H⟩ := I.1.1.net
  exact iv_q I (cc_0 I.1 (pq_grid H.1 x)) (fun _ R => rq_grid R x) (by omega) (by omega)
theorem iv_16 (I : IV h t) (x : Int32) : lk_sp h 195 [.ref 240, .int x] 77 [.ref 270, .int x] (fun g => IV g (t + 1)) := by
  obtain ⟨n, k, m, hm, H⟩ := I.1.1.net
  exact iv_q I (cc_0 I.1 (pq_thread H.1 x)) (fun _ R => rq_thread R x) (by omega) (by omega)
theorem iv_17 (I : IV h t) (x y z : Int32) : lk_sp h 196 [.ref 240, .int x, .int y, .int z] 79 [.ref 270, .int x, .int y, .int z] (fun g => IV g (t + 1)) := iv_q I (cc_r I.1.2 (pq_path I.1.1 x y z)) (fun _ R => rq_path R x y z) (by omega) (by omega)
theorem iv_18 (I : IV h t) (x : Int32) : lk_sp h 197 [.ref 240, .int x] 80 [.ref 270, .int x] (fun g => IV g (t + 1)) := iv_q I (cc_r I.1.2 (pq_next I.1.1 x)) (fun _ R => rq_next R x) (by omega) (by omega)
theorem iv_19 (I : IV h t) (ht : t ≤ 511) (x y : Int32) : lk_sp h 198 [.ref 240, .int x, .int y] 81 [.ref 270, .int x, .int y] (fun g => IV g (t + 1)) := by
  obtain ⟨n, k, m, hm, H⟩ := I.1.1.net
  exact iv_q I (cc_0 I.1 (pq_past H (by omega) x y)) (fun _ R => rq_past R x y) (by omega) (by omega)
theorem iv_20 (I : IV h t) (x : Int32) : lk_sp h 199 [.ref 240, .int x] 83 [.ref 270, .int x] (fun g => IV g (t + 1)) := by
  obtain ⟨n, k, m, hm, H⟩ := I.1.1.net
  exact iv_q I (cc_0 I.1 (pq_bill H.1 x)) (fun _ R => rq_bill R x) (by omega) (by omega)
theorem iv_21 (I : IV h t) (x y : Int32) : lk_sp h 200 [.ref 240, .int x, .int y] 85 [.ref 270, .int x, .int y] (fun g => IV g (t + 1)) := by
  obtain ⟨n, k, m, hm, H⟩ := I.1.1.net
  exact iv_q I (cc_0 I.1 (pq_ledger H.1 x y)) (fun _ R => rq_ledger R x y) (by omega) (by omega)
theorem iv_22 (I : IV h t) (x y : Int32) : lk_sp h 201 [.ref 240, .int x, .int y] 86 [.ref 270, .int x, .int y] (fun g => IV g (t + 1)) := by
  obtain ⟨v, g, r, X, F⟩ := pq_wide I.1.1 x y
  exact iv_q I ⟨v, g, r, F.ci X I.1.2⟩ (fun _ R => rq_wide R x y) (by omega) (by omega)
theorem iv_23 (I : IV h t) (x y : Int32) : lk_sp h 202 [.ref 240, .int x, .int y] 91 [.ref 270, .int x, .int y] (fun g => IV g (t + 1)) := by
  obtain ⟨v, g, r, X, F⟩ := pq_trip I.1.1 x y
  exact iv_q I ⟨v, g, r, F.ci X I.1.2⟩ (fun _ R => rq_trip R x y) (by omega) (by omega)
theorem iv_24 (I : IV h t) (x : Int32) : lk_sp h 203 [.ref 240, .int x] 93 [.ref 270, .int x] (fun g => IV g (t + 1)) := iv_q I (cc_0 I.1 (pq_apart x)) (fun _ R => rq_apart R x) (by omega) (by omega)
theorem iv_25 (I : IV h t) (x y : Int32) : lk_sp h 204 [.ref 240, .int x, .int y] 94 [.ref 270, .int x, .int y] (fun g => IV g (t + 1)) := by
  obtain ⟨n, k, m, hm, H⟩ := I.1.1.net
  exact iv_q I (cc_0 I.1 (pq_span H.1 x y)) (fun _ R => rq_span R x y) (by omega) (by omega)
theorem iv_26 (I : IV h t) (ht : t ≤ 511) : lk_sp h 205 [.ref 240] 103 [.ref 270] (fun g => IV g (t + 1)) := iv_q I (cc_r I.1.2 (pq_least I.1.1 (by omega))) (fun _ R => rq_least R) (by omega) (by omega)
theorem iv_27 (I : IV h t) : lk_sp h 206 [.ref 240] 110 [.ref 270] (fun g => IV g (t + 1)) := by
  obtain ⟨n, k, m, hm, H⟩ := I.1.1.net
  exact iv_q I (cc_0 I.1 (pq_lack H.1)) (fun _ R => rq_lack R) (by omega) (by omega)
theorem iv_28 (I : IV h t) : lk_sp h 207 [.ref 240] 109 [.ref 270] (fun g => IV g (t + 1)) := by
  obtain ⟨n, k, m, hm, H⟩ := I.1.1.net
  exact iv_q I (cc_0 I.1 (pq_cut H.1)) (fun _ R => rq_cut R) (by omega) (by omega)
theorem iv_29 (I : IV h t) (ht : t ≤ 511) (x : Int32) : lk_sp h 208 [.ref 240, .int x] 111 [.ref 270, .int x] (fun g => IV g (t + 1)) := iv_q I (cc_r I.1.2 (pq_steps I.1.1 (by omega) x)) (fun _ R => rq_steps R (by omega) x) (by omega) (by omega)
theorem iv_30 (I : IV h t) (ht : t ≤ 511) (x y : Int32) : lk_sp h 209 [.ref 240, .int x, .int y] 105 [.ref 270, .int x, .int y] (fun g => IV g (t + 1)) := iv_q I (cc_r I.1.2 (pq_worth I.1.1 (by omega) x y)) (fun _ R => rq_worth R x y) (by omega) (by omega)
theorem iv_31 (I : IV h t) (ht : t ≤ 511) (x y : Int32) : lk_sp h 210 [.ref 240, .int x, .int y] 106 [.ref 270, .int x, .int y] (fun g => IV g (t + 1)) := iv_q I (cc_r I.1.2 (pq_toll I.1.1 (by omega) x y)) (fun _ R => rq_toll R x y) (by omega) (by omega)
theorem iv_32 (I : IV h t) (x : Int32) : lk_sp h 211 [.ref 240, .int x] 114 [.ref 270, .int x] (fun g => IV g (t + 1)) := iv_sp I (CC.cs (pu_image I.1 x)) (fun _ R => (rq_image R x).mp (fun _ _ p => ⟨⟨_, p.1⟩, p.2.1, p.2.2.1⟩)) (by omega) (by omega)
theorem iv_33 (I : IV h t) (x : Int32) : lk_sp h 212 [.ref 240, .int x] 115 [.ref 270, .int x] (fun g => IV g (t + 1)) := iv_sp I (CC.cs (pu_again I.1 x)) (fun _ R => (rq_again R x).mp (fun _ _ p => ⟨⟨_, p.1⟩, p.2.1, p.2.2.1⟩)) (by omega) (by omega)
/-! arc and point of the class: they return, or throw, and change nothing -/
theorem xa_arc (X : XA h M) (x y : Int32) {Q : tf_Q} {QX : LH → Prop} (q : ∀ a : Int32, Q (.int a) h) (qx : QX h) : xt_Cd tb_X8_arc xt_p_arc [.ref 240, .int x, .int y] h Q QX := by
  obtain ⟨n, k, m, hm, H, -⟩ := X.net
  have K := H.1
  refine enE_arc (goE_arc_0 (sx_hasArc (d := 5) K x _ (goE_arc_8 ⟨fun _ => qx, fun c => ?_⟩)))
  have ex : nt_hasArc h 0 x = true := by
    rw [bI_0] at c
    simpa using c
  have hk := H.2.1.2.2
  have vx := ha_vi H.2.2.2.1 hk ex
  obtain ⟨j, hj, ej⟩ := vi_nI vx
  have v21 : vp_in x 21 := by rw [ej]; exact vi_of (by omega) (by omega)
  have en : nt_ends h 0 x := by rw [ej]; exact H.ends (by omega)
  refine goE_arc_19 ⟨fun _ => goE_arc_154 qx, fun _ => goE_arc_68 ⟨v21, q _⟩, fun _ => goE_arc_78 ⟨v21, q _⟩, fun _ => goE_arc_88 ⟨v21, q _⟩, fun _ => goE_arc_98 ⟨v21, q _⟩, fun _ => goE_arc_108 ⟨v21, q _⟩, fun _ => goE_arc_118 ⟨v21, q _⟩, fun _ => goE_arc_128 (sx_red (d := 5) K en _ (goE_arc_136 (q _))), fun _ => goE_arc_137 (sx_off (d := 4) K en _ (goE_arc_145 ⟨fun _ => goE_arc_152 (goE_arc_153 (q _)), fun _ => goE_arc_153 (q _)⟩)), trivial⟩
theorem xa_point (X : XA h M) (x y : Int32) {Q : tf_Q} {QX : LH → Prop} (q : ∀ a : Int32, Q (.int a) h) (qx : QX h) : xt_Cd tb_X8_point xt_p_point [.ref 240, .int x, .int y] h Q QX := by
  obtain ⟨n, k, m, hm, H, -⟩ := X.net
  have K := H.1
  refine enE_point (goE_point_0 (sx_hasPt (d := 5) K x _ (goE_point_8 ⟨fun _ => qx, fun c => ?_⟩)))
  have ex : nt_hasPt h 0 x = true := by
    rw [bI_0] at c
    simpa using c
  have hn := H.2.1.2.1
  have vx := hp_vi H.2.2.1 hn ex
  obtain ⟨j, hj, ej⟩ := vi_nI vx
  have v7 : vp_in x 7 := by rw [ej]; exact vi_of (by omega) (by omega)
  have v8 : vp_in x 8 := by rw [ej]; exact vi_of (by omega) (by omega)
  have v21 : vp_in (14 + x) 21 := by rw [ej, nI_14]; exact vi_of (by omega) (by omega)
  refine goE_point_19 ⟨fun _ => goE_point_141 qx, fun _ => goE_point_64 ⟨v7, q _⟩, fun _ => goE_point_74 ⟨v8, q _⟩, fun _ => goE_point_84 ⟨v7, sx_toldNode (d := 5) K _ _ (goE_point_100 (q _))⟩, fun _ => goE_point_101 ⟨v7, sx_toldEdge (d := 5) _ _ (goE_point_113 (q _))⟩, fun _ => goE_point_114 (sx_dep (d := 5) K H.2.2.1 hn H.2.2.2.2.1 v8 _ (goE_point_122 (q _))), fun _ => goE_point_123 (sx_cbl (d := 4) K H.2.2.1 hn H.2.2.2.2.1 x _ (goE_point_131 (q _))), fun _ => goE_point_132 (sx_loan (d := 5) K v21 _ (goE_point_140 (q _))), trivial⟩
end INV
