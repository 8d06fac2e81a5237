/-! ===== the class fills its grid: told exactly ===== -/
theorem tv_s9a : ∀ v, v < 9 → ((tv_sm.getD v 0).toInt < 2 ∨ 14 < (tv_sm.getD v 0).toInt → v = 0 ∨ v = 3 ∨ v = 4) ∧ ((tv_sm.getD v 0).toInt = 2 → v = 1) ∧ ((tv_sm.getD v 0).toInt = 3 → v = 2) ∧ ((tv_sm.getD v 0).toInt = 4 → v = 0 ∨ v = 3 ∨ v = 4) ∧ ((tv_sm.getD v 0).toInt = 5 → v = 0 ∨ v = 3 ∨ v = 4) ∧ ((tv_sm.getD v 0).toInt = 6 → v = 5) := by decide +kernel
theorem tv_s9b : ∀ v, v < 9 → ¬ (tv_sm.getD v 0).toInt = 7 ∧ ¬ (tv_sm.getD v 0).toInt = 8 ∧ ¬ (tv_sm.getD v 0).toInt = 9 ∧ ¬ (tv_sm.getD v 0).toInt = 10 ∧ ¬ (tv_sm.getD v 0).toInt = 11 ∧ ((tv_sm.getD v 0).toInt = 12 → v = 6) ∧ ((tv_sm.getD v 0).toInt = 13 → v = 7) ∧ ((tv_sm.getD v 0).toInt = 14 → v = 8) := by decide +kernel
/-- the class's grid as far as it is told -/
def FR (g : LH) (s : px_S) : Prop := g.1 0 1 = nI s.n ∧ g.1 0 2 = s.ru ∧ (∀ a, a < s.n → (g.1 2 a = s.tl (7 * a) ∧ g.1 3 a = s.tl (7 * a + 1) ∧ g.1 4 a = s.tl (7 * a + 2) ∧ g.1 5 a = s.tl (7 * a + 3)) ∧ g.1 6 a = 0 ∧ g.1 7 a = if s.tl (7 * a + 6) = 1 then 3 else 0) ∧ ∀ a, s.n ≤ a → a < 14 → s.tl (7 * a + 6) = 0
section FIL
variable {h g : LH} {d M : Nat}
theorem FR.same {s s2 : px_S} (F : FR g s) (e1 : s2.n = s.n) (e2 : s2.ru = s.ru) (e3 : s2.tl = s.tl) : FR g s2 := by
  unfold FR
  rw [e1, e2, e3]
  exact F
theorem fl_12 {v line : Nat} {Q : tf_Q} {D : Nat} (hv : v < 9) (k0 : v = 0 ∨ v = 3 ∨ v = 4 → lx_X4_fillLine D (tf_Cd 298 D) Q 182 [.ref 259, .int (nI line), .ref 0] [] g) (k1 : v = 1 → lx_X4_fillLine D (tf_Cd 298 D) Q 80 [.ref 259, .int (nI line), .ref 0] [] g) (k2 : v = 2 → lx_X4_fillLine D (tf_Cd 298 D) Q 111 [.ref 259, .int (nI line), .ref 0] [] g) (k5 : v = 5 → lx_X4_fillLine D (tf_Cd 298 D) Q 143 [.ref 259, .int (nI line), .ref 0] [] g) (k6 : v = 6 → lx_X4_fillLine D (tf_Cd 298 D) Q 158 [.ref 259, .int (nI line), .ref 0] [] g) (k7 : v = 7 → lx_X4_fillLine D (tf_Cd 298 D) Q 166 [.ref 259, .int (nI line), .ref 0] [] g) (k8 : v = 8 → lx_X4_fillLine D (tf_Cd 298 D) Q 174 [.ref 259, .int (nI line), .ref 0] [] g) : lx_X4_fillLine D (tf_Cd 298 D) Q 12 [.ref 259, .int (nI line), .ref 0] [.int (nI v), .ref 421] g := by
  obtain ⟨a0, a2, a3, a4, a5, a6⟩ := tv_s9a v hv
  obtain ⟨b7, b8, b9, b10, b11, b12, b13, b14⟩ := tv_s9b v hv
  refine go_X4_fillLine_12 k000 ?_
  rw [nI_clamp (by omega)]
  exact ⟨vi_of (by omega) (by omega), fun z => k0 (a0 z), fun z => k1 (a2 z), fun z => k2 (a3 z), fun z => k0 (a4 z), fun z => k0 (a5 z), fun z => k5 (a6 z), fun z => absurd z b7, fun z => absurd z b8, fun z => absurd z b9, fun z => absurd z b10, fun z => absurd z b11, fun z => k6 (b12 z), fun z => k7 (b13 z), fun z => k8 (b14 z), trivial⟩
/-- an arc is told -/
theorem FR.add {s : px_S} {v b : Nat} {N0 N1 N2 N3 : Int32 × Nat} {x4 : Int32} (F : FR g s) (y : v = 1 ∨ v = 2) (hn : s.n < 14) (r0 : rf_in N0.1 0 6 = true) (r1 : rf_in N1.1 0 6 = true) (ex : x4 = (if v = 1 then 1 else -1) * N3.1) : FR (nt_add g 0 s.n N0.1 N1.1 N2.1 x4) (px_sl v b [N0, N1, N2, N3] s) := by
  obtain ⟨f1, f2, f3, f4⟩ := F
  rw [px_sl_1 y]
  have e0 : px_rd N0.1 0 6 = N0.1 := px_rd_in r0
  have e1 : px_rd N1.1 0 6 = N1.1 := px_rd_in r1
  have tl : ∀ i, (px_tl s.tl s.n N0.1 N1.1 N2.1 x4) i = if i = 7 * s.n + 3 then x4 else if i = 7 * s.n + 2 then N2.1 else if i = 7 * s.n + 1 then N1.1 else if i = 7 * s.n then N0.1 else s.tl i := fun i => rfl
  show FR (nt_add g 0 s.n N0.1 N1.1 N2.1 x4) (px_ab s.n b N0.1 N1.1 N0.2 N1.2 s.bad, px_fa (px_fa s.fa N0.1 N0.2) N1.1 N1.2, s.pts, if s.n < 14 then s.n + 1 else s.n, s.ru, s.su, if s.n < 14 then px_tl s.tl s.n (px_rd N0.1 0 6) (px_rd N1.1 0 6) N2.1 ((if v = 1 then 1 else -1) * N3.1) else s.tl)
  rw [if_pos hn, if_pos hn, e0, e1, ← ex]
  have o : ∀ (c i : Nat), c < 8 → 2 ≤ c → i ≠ s.n → (nt_add g 0 s.n N0.1 N1.1 N2.1 x4).1 c i = g.1 c i := fun c i h1 h2 h3 => by
    unfold nt_add
    rw [w1_ne (by omega)]
    have at1 : ∀ (G : LH) (c2 : Nat) (w : Int32), (w1 G c2 s.n w).1 c i = G.1 c i := fun G c2 w => by
      by_cases z : c = c2
      · rw [z, w1_at h3]
      · rw [w1_ne z]
    rw [at1, at1, at1, at1, at1, at1]
  refine ⟨?_, ?_, fun a ha => ?_, fun a h1 h2 => ?_⟩
  · unfold nt_add
    exact w1_eq
  · unfold nt_add
    rw [w1_at (by decide), w1_ne (by decide), w1_ne (by decide), w1_ne (by decide), w1_ne (by decide), w1_ne (by decide), w1_ne (by decide)]
    exact f2
  · have ha : a < s.n + 1 := ha
    show (_ = (px_tl s.tl s.n N0.1 N1.1 N2.1 x4) (7 * a) ∧ _ = (px_tl s.tl s.n N0.1 N1.1 N2.1 x4) (7 * a + 1) ∧ _ = (px_tl s.tl s.n N0.1 N1.1 N2.1 x4) (7 * a + 2) ∧ _ = (px_tl s.tl s.n N0.1 N1.1 N2.1 x4) (7 * a + 3)) ∧ _ ∧ _ = if (px_tl s.tl s.n N0.1 N1.1 N2.1 x4) (7 * a + 6) = 1 then 3 else 0
    rw [tl, tl, tl, tl, tl]
    by_cases an : a = s.n
    · rw [if_neg (show ¬ 7 * a = 7 * s.n + 3 by omega), if_neg (show ¬ 7 * a = 7 * s.n + 2 by omega), if_neg (show ¬ 7 * a = 7 * s.n + 1 by omega), if_pos (show 7 * a = 7 * s.n by omega), if_neg (show ¬ 7 * a + 1 = 7 * s.n + 3 by omega), if_neg (show ¬ 7 * a + 1 = 7 * s.n + 2 by omega), if_pos (show 7 * a + 1 = 7 * s.n + 1 by omega), if_neg (show ¬ 7 * a + 2 = 7 * s.n + 3 by omega), if_pos (show 7 * a + 2 = 7 * s.n + 2 by omega), if_pos (show 7 * a + 3 = 7 * s.n + 3 by omega), if_neg (show ¬ 7 * a + 6 = 7 * s.n + 3 by omega), if_neg (show ¬ 7 * a + 6 = 7 * s.n + 2 by omega), if_neg (show ¬ 7 * a + 6 = 7 * s.n + 1 by omega), if_neg (show ¬ 7 * a + 6 = 7 * s.n by omega)]
      have z6 : s.tl (7 * a + 6) = 0 := f4 a (by omega) (by omega)
      rw [z6, if_neg (show ¬ (0 : Int32) = 1 by decide)]
      subst an
      unfold nt_add
      refine ⟨⟨?_, ?_, ?_, ?_⟩, ?_, ?_⟩
      · rw [w1_ne (by decide), w1_ne (by decide), w1_ne (by decide), w1_ne (by decide), w1_ne (by decide), w1_ne (by decide), w1_eq]
      · rw [w1_ne (by decide), w1_ne (by decide), w1_ne (by decide), w1_ne (by decide), w1_ne (by decide), w1_eq]
      · rw [w1_ne (by decide), w1_ne (by decide), w1_ne (by decide), w1_ne (by decide), w1_eq]
      · rw [w1_ne (by decide), w1_ne (by decide), w1_ne (by decide), w1_eq]
      · rw [w1_ne (by decide), w1_ne (by decide), w1_eq]
      · rw [w1_ne (by decide), w1_eq]
    · rw [if_neg (show ¬ 7 * a = 7 * s.n + 3 by omega), if_neg (show ¬ 7 * a = 7 * s.n + 2 by omega), if_neg (show ¬ 7 * a = 7 * s.n + 1 by omega), if_neg (show ¬ 7 * a = 7 * s.n by omega), if_neg (show ¬ 7 * a + 1 = 7 * s.n + 3 by omega), if_neg (show ¬ 7 * a + 1 = 7 * s.n + 2 by omega), if_neg (show ¬ 7 * a + 1 = 7 * s.n + 1 by omega), if_neg (show ¬ 7 * a + 1 = 7 * s.n by omega), if_neg (show ¬ 7 * a + 2 = 7 * s.n + 3 by omega), if_neg (show ¬ 7 * a + 2 = 7 * s.n + 2 by omega), if_neg (show ¬ 7 * a + 2 = 7 * s.n + 1 by omega), if_neg (show ¬ 7 * a + 2 = 7 * s.n by omega), if_neg (show ¬ 7 * a + 3 = 7 * s.n + 3 by omega), if_neg (show ¬ 7 * a + 3 = 7 * s.n + 2 by omega), if_neg (show ¬ 7 * a + 3 = 7 * s.n + 1 by omega), if_neg (show ¬ 7 * a + 3 = 7 * s.n by omega), if_neg (show ¬ 7 * a + 6 = 7 * s.n + 3 by omega), if_neg (show ¬ 7 * a + 6 = 7 * s.n + 2 by omega), if_neg (show ¬ 7 * a + 6 = 7 * s.n + 1 by omega), if_neg (show ¬ 7 * a + 6 = 7 * s.n by omega)]
      rw [o 2 a (by omega) (by omega) an, o 3 a (by omega) (by omega) an, o 4 a (by omega) (by omega) an, o 5 a (by omega) (by omega) an, o 6 a (by omega) (by omega) an, o 7 a (by omega) (by omega) an]
      exact f3 a (by omega)
  · have h1 : s.n + 1 ≤ a := h1
    show (px_tl s.tl s.n N0.1 N1.1 N2.1 x4) (7 * a + 6) = 0
    rw [tl, if_neg (by omega), if_neg (by omega), if_neg (by omega), if_neg (by omega)]
    exact f4 a (by omega) h2
theorem FR.blk {s : px_S} {b p : Nat} {N : Int32 × Nat} (F : FR g s) (hn : s.n ≤ 14) (r : rf_in N.1 0 (nI s.n - 1) = true) (ep : N.1.toNatClampNeg = p) : FR (w1 g 7 p 3) (px_sl 5 b [N] s) := by
  obtain ⟨f1, f2, f3, f4⟩ := F
  rw [px_sl_5]
  have e : px_rd N.1 0 (nI s.n - 1) = N.1 := px_rd_in r
  show FR (w1 g 7 p 3) (px_bt N.1 0 (nI s.n - 1) N.2 s.bad, s.fa, s.pts, s.n, s.ru, s.su, if rf_in (px_rd N.1 0 (nI s.n - 1)) 0 (nI s.n - 1) = true then px_pw s.tl (7 * (px_rd N.1 0 (nI s.n - 1)).toNatClampNeg + 6) 1 else s.tl)
  rw [e, if_pos r, ep]
  have r' : rf_in (px_rd N.1 0 (nI s.n - 1)) 0 (nI s.n - 1) = true := by rw [e]; exact r
  obtain ⟨m, hm, em⟩ := px_rdn hn r'
  rw [e] at em
  have pm : p = m := by rw [← ep, em, nI_clamp (by omega)]
  refine ⟨by rw [w1_ne (by decide)]; exact f1, by rw [w1_ne (by decide)]; exact f2, fun a ha => ?_, fun a h1 h2 => ?_⟩
  · show (_ = px_pw s.tl (7 * p + 6) 1 (7 * a) ∧ _ = px_pw s.tl (7 * p + 6) 1 (7 * a + 1) ∧ _ = px_pw s.tl (7 * p + 6) 1 (7 * a + 2) ∧ _ = px_pw s.tl (7 * p + 6) 1 (7 * a + 3)) ∧ _ ∧ _ = if px_pw s.tl (7 * p + 6) 1 (7 * a + 6) = 1 then 3 else 0
    unfold px_pw
    rw [if_neg (show ¬ 7 * a = 7 * p + 6 by omega), if_neg (show ¬ 7 * a + 1 = 7 * p + 6 by omega), if_neg (show ¬ 7 * a + 2 = 7 * p + 6 by omega), if_neg (show ¬ 7 * a + 3 = 7 * p + 6 by omega), w1_ne (by decide), w1_ne (by decide), w1_ne (by decide), w1_ne (by decide), w1_ne (by decide)]
    obtain ⟨u1, u2, u3⟩ := f3 a ha
    refine ⟨u1, u2, ?_⟩
    by_cases ap : a = p
    · rw [ap, w1_eq, if_pos rfl, if_pos rfl]
    · rw [w1_at ap, if_neg (show ¬ 7 * a + 6 = 7 * p + 6 by omega)]
      exact u3
  · show px_pw s.tl (7 * p + 6) 1 (7 * a + 6) = 0
    have h1 : s.n ≤ a := h1
    unfold px_pw
    rw [if_neg (show ¬ 7 * a + 6 = 7 * p + 6 by omega)]
    exact f4 a h1 h2
theorem px_neg {x : Int32} : (if 2 = 1 then (1 : Int32) else -1) * x = -x := by
  rw [if_neg (by decide), Int32.neg_mul, Int32.one_mul]
theorem sx_fil {l line n k : Nat} {L : px_L} {s : px_S} (hl : l ≤ 400) (h80 : line < 80) (K : LnOK 0 l L) (A : LnA h line L) (N : NFl h g n k) (F : FR g s) (hn : s.n ≤ 14) (hb : (px_sl L.1 L.2.1 L.2.2 s).bad = -1) : tf_Sp (d + 2) 240 [.ref 259, .int (nI line), .ref 0] g (fun _ g2 => FR g2 (px_sl L.1 L.2.1 L.2.2 s) ∧ g2.1 1 = g.1 1 ∧ g2.1 0 0 = g.1 0 0) := by
  intro Q q
  have e : (nI line).toNatClampNeg = line := nI_clamp (by omega)
  have e0 : g.1 260 line = nI L.1 := by rw [N.cl (by decide)]; exact A.1
  have ok := K.2.2.2.2
  have hk1 : g.1 0 1 = nI k := N.1.2.2.2.1
  have hk14 : k ≤ 14 := N.1.2.1.2.2
  have kn : k = s.n := (nI_eq (by omega) (by omega)).mp (hk1.symm.trans F.1)
  subst kn
  have nbE : ∀ i N, L.2.2[i]? = some N → nb g line i = N.1 := fun i M hM => by rw [N.nb]; exact (A.2.2 i M hM).1
  refine en_X4_fillLine k000 (go_X4_fillLine_0 k000 ⟨⟨vi_of h80 (by omega), by rw [e, e0]; exact vi_of K.1 (by omega)⟩, ?_⟩)
  rw [e, e0, nI_clamp (by have := K.1; omega)]
  have d182 : FR g (px_sl L.1 L.2.1 L.2.2 s) → lx_X4_fillLine (d + 1) (tf_Cd 298 (d + 1)) Q 182 [.ref 259, .int (nI line), .ref 0] [] g := fun F2 => go_X4_fillLine_182 k000 (q _ g ⟨F2, rfl, rfl⟩)
  rcases px_gvA K with ⟨p, N0, rfl⟩ | ⟨v, p, N0, N1, N2, N3, y, rfl⟩ | ⟨v, p, N0, N1, y, rfl⟩ | ⟨p, N0, rfl⟩ | ⟨v, p, y, rfl⟩
  · refine fl_12 (v := 0) (by omega) (fun _ => d182 ?_) (fun z => absurd z (by omega)) (fun z => absurd z (by omega)) (fun z => absurd z (by omega)) (fun z => absurd z (by omega)) (fun z => absurd z (by omega)) (fun z => absurd z (by omega))
    rw [px_sl_0]
    exact F.same rfl rfl rfl
  · have o0 := ok N0 (List.mem_cons_self ..)
    have o1 := ok N1 (List.mem_cons_of_mem _ (List.mem_cons_self ..))
    have hb2 := hb
    rw [px_sl_1 y] at hb2
    have hb2 : px_ab s.n p N0.1 N1.1 N0.2 N1.2 s.bad = -1 := hb2
    obtain ⟨r0, r1, -⟩ := ab_m1 (by omega) (by omega) hb2
    have n14 : s.n < 14 := by
      rcases Nat.lt_or_ge s.n 14 with z | z
      · exact z
      · have z : s.n = 14 := by omega
        rw [z] at hb2
        have hp : p ≤ l := K.2.2.2.1
        exact absurd hb2 (ab_14 (by omega))
    have b0 := nbE 0 N0 rfl
    have b1 := nbE 1 N1 rfl
    have b2 := nbE 2 N2 rfl
    have b3 := nbE 3 N3 rfl
    have fin : ∀ x4 : Int32, x4 = (if v = 1 then 1 else -1) * N3.1 → FR (if s.n < 14 then nt_add g 0 s.n (nb g line 0) (nb g line 1) (nb g line 2) x4 else g) (px_sl v p [N0, N1, N2, N3] s) ∧ (if s.n < 14 then nt_add g 0 s.n (nb g line 0) (nb g line 1) (nb g line 2) x4 else g).1 1 = g.1 1 ∧ (if s.n < 14 then nt_add g 0 s.n (nb g line 0) (nb g line 1) (nb g line 2) x4 else g).1 0 0 = g.1 0 0 := by
      intro x4 ex
      rw [if_pos n14, b0, b1, b2]
      refine ⟨F.add y n14 r0 r1 ex, ?_, ?_⟩
      · unfold nt_add
        rw [w1_ne (by decide), w1_ne (by decide), w1_ne (by decide), w1_ne (by decide), w1_ne (by decide), w1_ne (by decide), w1_ne (by decide)]
      · unfold nt_add
        rw [w1_at (by decide), w1_ne (by decide), w1_ne (by decide), w1_ne (by decide), w1_ne (by decide), w1_ne (by decide), w1_ne (by decide)]
    refine fl_12 (v := v) (by omega) (fun z => absurd z (by omega)) (fun z => ?_) (fun z => ?_) (fun z => absurd z (by omega)) (fun z => absurd z (by omega)) (fun z => absurd z (by omega)) (fun z => absurd z (by omega))
    · have e3 : nb g line 3 = (if v = 1 then 1 else -1) * N3.1 := by rw [b3, if_pos z, Int32.one_mul]
      exact go_X4_fillLine_80 k000 (sx_nb (d := d) (i := 0) h80 (by decide) rfl _ (go_X4_fillLine_87 k000 k000 (sx_nb (d := d) (i := 1) h80 (by decide) rfl _ (go_X4_fillLine_93 k000 k000 (sx_nb (d := d) (i := 2) h80 (by decide) rfl _ (go_X4_fillLine_99 k000 k000 (sx_nb (d := d) (i := 3) h80 (by decide) rfl _ (go_X4_fillLine_105 k000 k000 (sx_add (d := d) (b := 0) k000 hk1 hk14 _ _ _ _ _ (go_X4_fillLine_108 k000 (go_X4_fillLine_182 k000 (q _ _ (fin _ e3)))))))))))))
    · have e3 : -nb g line 3 = (if v = 1 then 1 else -1) * N3.1 := by rw [b3, if_neg (by omega), Int32.neg_mul, Int32.one_mul]
      exact go_X4_fillLine_111 k000 (sx_nb (d := d) (i := 0) h80 (by decide) rfl _ (go_X4_fillLine_118 k000 k000 (sx_nb (d := d) (i := 1) h80 (by decide) rfl _ (go_X4_fillLine_124 k000 k000 (sx_nb (d := d) (i := 2) h80 (by decide) rfl _ (go_X4_fillLine_130 k000 k000 (sx_nb (d := d) (i := 3) h80 (by decide) rfl _ (go_X4_fillLine_136 k000 k000 (sx_add (d := d) (b := 0) k000 hk1 hk14 _ _ _ _ _ (go_X4_fillLine_140 k000 (go_X4_fillLine_182 k000 (q _ _ (fin _ e3)))))))))))))
  · refine fl_12 (v := v) (by omega) (fun _ => d182 ?_) (fun z => absurd z (by omega)) (fun z => absurd z (by omega)) (fun z => absurd z (by omega)) (fun z => absurd z (by omega)) (fun z => absurd z (by omega)) (fun z => absurd z (by omega))
    rw [px_sl_3 y]
    exact F.same rfl rfl rfl
  · have o0 := ok N0 (List.mem_cons_self ..)
    have hb2 := hb
    rw [px_sl_5] at hb2
    have hb2 : px_bt N0.1 0 (nI s.n - 1) N0.2 s.bad = -1 := hb2
    obtain ⟨r0, -⟩ := bt_m1 (by omega) hb2
    have b0 := nbE 0 N0 rfl
    obtain ⟨m, hm, em⟩ := px_rdn hn (by rw [px_rd_in r0]; exact r0)
    rw [px_rd_in r0] at em
    refine fl_12 (v := 5) (by omega) (fun z => absurd z (by omega)) (fun z => absurd z (by omega)) (fun z => absurd z (by omega)) (fun _ => ?_) (fun z => absurd z (by omega)) (fun z => absurd z (by omega)) (fun z => absurd z (by omega))
    refine go_X4_fillLine_143 k000 (sx_nb (d := d) (i := 0) h80 (by decide) rfl _ (go_X4_fillLine_153 k000 (show tf_K (0 + 7) = 8 by decide) (show tf_N (0 + 7) = 21 by decide) (by decide) ?_))
    rw [b0]
    exact ⟨by rw [em]; exact vi_of (by omega) (by omega), go_X4_fillLine_182 k000 (q _ (w1 g 7 N0.1.toNatClampNeg 3) ⟨F.blk hn r0 rfl, w1_ne (by decide), by rw [w1_ne (by decide)]⟩)⟩
  · have fin : ∀ x : Int32, x = nI (v - 6) → FR (w1 g 0 2 x) (px_sl v p [] s) ∧ (w1 g 0 2 x).1 1 = g.1 1 ∧ (w1 g 0 2 x).1 0 0 = g.1 0 0 := by
      intro x ex
      rw [px_sl_6 y]
      obtain ⟨f1, f2, f3, f4⟩ := F
      refine ⟨⟨by rw [w1_at (by decide)]; exact f1, by rw [w1_eq, ex], fun a ha => ?_, f4⟩, w1_ne (by decide), w1_at (by decide)⟩
      rw [w1_ne (by decide), w1_ne (by decide), w1_ne (by decide), w1_ne (by decide), w1_ne (by decide), w1_ne (by decide)]
      exact f3 a ha
    refine fl_12 (v := v) (by omega) (fun z => absurd z (by omega)) (fun z => absurd z (by omega)) (fun z => absurd z (by omega)) (fun z => absurd z (by omega)) (fun z => go_X4_fillLine_158 k000 (go_X4_fillLine_182 k000 (q _ _ (fin _ ?_)))) (fun z => go_X4_fillLine_166 k000 (go_X4_fillLine_182 k000 (q _ _ (fin _ ?_)))) (fun z => go_X4_fillLine_174 k000 (go_X4_fillLine_182 k000 (q _ _ (fin _ ?_))))
    · subst z; rfl
    · subst z; rfl
    · subst z; rfl
end FIL
