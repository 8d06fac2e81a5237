/-! ===== an order of the reference leaves the long cells ===== -/
section SFL
variable {h g : LH} {n k M d : Nat}
theorem sq_shifts (G : GI h n k M) {x y m : Int32} (c : rf_cs h x y m = true) : tf_Sp (d + 4) 58 [.ref 270, .int x, .int y, .int m] h (fun _ g => g.2 = h.2) := by
  intro Q q
  have hn := G.1.1
  unfold rf_cs at c
  simp only [Bool.and_eq_true, Bool.not_eq_true', decide_eq_false_iff_not] at c
  obtain ⟨c1, c2, c3, c4⟩ := c
  obtain ⟨p, o, hp, ho, hpo, ep, eo⟩ := rf_two_t G.1 c1
  obtain ⟨mm, hm1, hm2, em⟩ := rf_in_t (l := 1) (u := 99) (by omega) c2 (by omega)
  subst ep eo em
  rw [i44, nI_clamp (by omega)] at c3 c4
  have B := G.bi
  obtain ⟨s1, hs1, es1⟩ := B.2.2.2.2.2.2 p hp
  obtain ⟨s2, hs2, es2⟩ := B.2.2.2.2.2.2 o ho
  obtain ⟨h3, e3⟩ := sh_hi hs1 hm2 es1 c3
  obtain ⟨h4, e4⟩ := sh_lo hs2 hm2 es2 c4
  have B1 := B.sup (p := p) (by omega) h3 e3
  have r2 : (w1 h 271 (44 + p) (h.1 271 (44 + p) + nI mm)).1 271 (44 + o) = h.1 271 (44 + o) := w1_at (by omega)
  have B2 := B1.sup (p := o) (v := h.1 271 (44 + o) - nI mm) (by omega) (show s2 - mm ≤ 198 by omega) e4
  have v1 : vp_in (nI (44 + p)) 865 := vi_of (by omega) (by omega)
  have v2 : vp_in (nI (44 + o)) 865 := vi_of (by omega) (by omega)
  refine en_X9_shifts (by decide) (go_X9_shifts_0 (by decide) ?_)
  rw [i44, i44, nI_clamp (by omega), nI_clamp (by omega)]
  refine ⟨v1, v1, v2, v2, ?_⟩
  show tf_Cd 298 (d + 3) _ _ (w1 (w1 h 271 (44 + p) (h.1 271 (44 + p) + nI mm)) 271 (44 + o) ((w1 h 271 (44 + p) (h.1 271 (44 + p) + nI mm)).1 271 (44 + o) - nI mm)) _
  rw [r2]
  refine sp_bga (d := d) (M := M) B2 1 _ (fun v g p4 => go_X9_shifts_31 (by decide) (q _ _ p4.2.2.1))
theorem sq_becomes (G : GI h n k M) {x v low : Int32} {w : Nat} (hw : (w = 2 ∧ low = 0) ∨ (w = 6 ∧ low = 0) ∨ (w = 3 ∧ low = -99)) (c : rf_cb h x w v low = true) : tf_Sp (d + 4) 61 [.ref 270, .int x, .int (nI w), .int v] h (fun _ g => g.2 = h.2) := by
  intro Q q
  have hn := G.1.1
  unfold rf_cb at c
  simp only [Bool.and_eq_true, Bool.not_eq_true', decide_eq_false_iff_not] at c
  obtain ⟨c1, c2, -⟩ := c
  obtain ⟨a, ha, ea⟩ := rf_arc_t G.1 c1
  refine en_X9_becomes (by decide) (go_X9_becomes_0 (by decide) (sx_puts (d := d + 2) a w v ea rfl (by omega) (by omega) _ (go_X9_becomes_7 (by decide) ⟨fun z => go_X9_becomes_17 (by decide) (q _ _ rfl), fun z => ?_⟩)))
  have hw3 : ¬ w = 3 := fun y => z (by rw [y]; rfl)
  have B : BI (rp h a w v) n k := by
    refine G.bi.arc (by omega) ?_
    rcases hw with ⟨y, hl⟩ | ⟨y, -⟩ | ⟨y, -⟩
    · subst y
      subst hl
      rw [if_neg (by decide)] at c2
      obtain ⟨j, -, h2, h3⟩ := rf_in_t (l := 0) (u := 99) (by omega) c2 (by omega)
      exact Or.inl ⟨rfl, by rw [h3]; exact vi_of (by omega) (by omega)⟩
    · exact Or.inr y
    · exact absurd y hw3
  refine sp_bga (d := d) (M := M) B 1 _ (fun v2 g p4 => go_X9_becomes_17 (by decide) (q _ _ p4.2.2.1))
theorem sq_ida {x v low : Int32} {w : Nat} (G : GI h n k M) (hw : (w = 2 ∧ low = 0) ∨ (w = 6 ∧ low = 0) ∨ (w = 3 ∧ low = -99)) : tf_Sp (d + 5) 67 [.ref 270, .int x, .int (nI w), .int v, .int low] h (fun v g => (∃ b, v = .int (bI b)) ∧ g.2 = h.2) := by
  intro Q q
  have w7 : w < 7 := by omega
  refine en_X9_isDoneArc (by decide) (go_X9_isDoneArc_0 (by decide) (sx_cb (d := d + 1) G.1 x w7 v low _ (go_X9_isDoneArc_9 (by decide) ⟨fun z => go_X9_isDoneArc_23 (by decide) ⟨bI_nar _, q _ h ⟨⟨_, rfl⟩, rfl⟩⟩, fun z => ?_⟩)))
  rw [bI_0, Bool.not_eq_false] at z
  exact sq_becomes (d := d) G hw z _ (fun _ g p => go_X9_isDoneArc_23 (by decide) ⟨bI_nar _, q _ g ⟨⟨_, rfl⟩, p⟩⟩)
theorem sq_id {a b c : Int32} {w : Int64} (G : GI h n k M) (hM : M ≤ 18000000) (ha : vp_in a 100) : tf_Sp (d + 8) 68 [.ref 270, .long w, .int a, .int b, .int c] h (fun _ g => g.2 = h.2) := by
  intro Q q
  obtain ⟨N, hN, rfl⟩ := vi_nI ha
  have k171 : lx_X9_isDone 298 (tf_Cd 298 (d + 7)) Q 171 [.ref 270, .long w, tf_z, .int (nI N), .int b, .int c, tf_z] [] h := by
    refine go_X9_isDone_171 (by decide) ((pv_rb w).c fun x => go_X9_isDone_180 (by decide) (show tf_K 271 = 8 by decide) (show tf_N 271 = 865 by decide) (by decide) ⟨vi_of (j := 2) (by decide) (by decide), go_X9_isDone_181 (by decide) (q _ (w1 h 271 2 x) rfl)⟩)
  have k155 : lx_X9_isDone 298 (tf_Cd 298 (d + 7)) Q 155 [.ref 270, .long w, tf_z, .int (nI N), .int b, .int c, tf_z] [] h := by
    refine go_X9_isDone_155 (by decide) ⟨fun _ => sp_bga (d := d + 4) (M := M) G.bi 0 _ (fun _ g p => go_X9_isDone_168 (by decide) (go_X9_isDone_181 (by decide) (q _ g p.2.2.1))), fun _ => k171⟩
  have k149 : ∀ y : Int32, lx_X9_isDone 298 (tf_Cd 298 (d + 7)) Q 149 [.ref 270, .long w, tf_z, .int (nI N), .int b, .int c, tf_z] [.int y, .int 3, .int (nI N), .ref 270] h := by
    intro y
    refine go_X9_isDone_149 (by decide) (sq_ida (d := d + 2) (w := 3) G (Or.inr (Or.inr ⟨rfl, rfl⟩)) _ (fun v g p => ?_))
    obtain ⟨⟨b9, rfl⟩, p2⟩ := p
    exact go_X9_isDone_154 (by decide) ⟨bI_nar _, q _ g p2⟩
  have k130 : lx_X9_isDone 298 (tf_Cd 298 (d + 7)) Q 130 [.ref 270, .long w, tf_z, .int (nI N), .int b, .int c, tf_z] [] h := go_X9_isDone_130 (by decide) ⟨fun _ => k149 _, fun _ => go_X9_isDone_147 (by decide) (k149 _)⟩
  have k114 : lx_X9_isDone 298 (tf_Cd 298 (d + 7)) Q 114 [.ref 270, .long w, tf_z, .int (nI N), .int b, .int c, tf_z] [] h := go_X9_isDone_114 (by decide) ⟨fun _ => k130, fun _ => ⟨fun _ => k130, fun _ => k155⟩⟩
  have k96 : lx_X9_isDone 298 (tf_Cd 298 (d + 7)) Q 96 [.ref 270, .long w, tf_z, .int (nI N), .int b, .int c, tf_z] [] h := by
    refine go_X9_isDone_96 (by decide) ⟨fun _ => sq_ida (d := d + 2) (w := 2) G (Or.inl ⟨rfl, rfl⟩) _ (fun v g p => ?_), fun _ => k114⟩
    obtain ⟨⟨b9, rfl⟩, p2⟩ := p
    exact go_X9_isDone_113 (by decide) ⟨bI_nar _, q _ g p2⟩
  have k91 : ∀ y : Int32, lx_X9_isDone 298 (tf_Cd 298 (d + 7)) Q 91 [.ref 270, .long w, tf_z, .int (nI N), .int b, .int c, tf_z] [.int y, .int 6, .int (nI N), .ref 270] h := by
    intro y
    refine go_X9_isDone_91 (by decide) (sq_ida (d := d + 2) (w := 6) G (Or.inr (Or.inl ⟨rfl, rfl⟩)) _ (fun v g p => ?_))
    obtain ⟨⟨b9, rfl⟩, p2⟩ := p
    exact go_X9_isDone_95 (by decide) ⟨bI_nar _, q _ g p2⟩
  have k74 : lx_X9_isDone 298 (tf_Cd 298 (d + 7)) Q 74 [.ref 270, .long w, tf_z, .int (nI N), .int b, .int c, tf_z] [] h := go_X9_isDone_74 (by decide) ⟨fun _ => k91 _, fun _ => go_X9_isDone_90 (by decide) (k91 _)⟩
  have k58 : lx_X9_isDone 298 (tf_Cd 298 (d + 7)) Q 58 [.ref 270, .long w, tf_z, .int (nI N), .int b, .int c, tf_z] [] h := go_X9_isDone_58 (by decide) ⟨fun _ => k74, fun _ => ⟨fun _ => k74, fun _ => k96⟩⟩
  have k22 : lx_X9_isDone 298 (tf_Cd 298 (d + 7)) Q 22 [.ref 270, .long w, tf_z, .int (nI N), .int b, .int c, tf_z] [] h := by
    refine go_X9_isDone_22 (by decide) ⟨fun _ => sx_rcs (d := d + 3) G.1 _ _ _ _ (go_X9_isDone_39 (by decide) ⟨fun _ => go_X9_isDone_55 (by decide) ⟨bI_nar _, q _ h rfl⟩, fun z => ?_⟩), fun _ => k58⟩
    rw [bI_0, Bool.not_eq_false] at z
    exact sq_shifts (d := d + 3) G z _ (fun _ g p => go_X9_isDone_55 (by decide) ⟨bI_nar _, q _ g p⟩)
  refine en_X9_isDone (by decide) (go_X9_isDone_0 (by decide) ⟨fun _ => sp_pt (d := d) (N := N) (by omega) (by omega) G _ (fun v g p => ?_), fun _ => k22⟩)
  obtain ⟨x, rfl, G2, F2⟩ := p
  exact go_X9_isDone_13 (by decide) ⟨fun _ => go_X9_isDone_20 (by decide) (go_X9_isDone_21 (by decide) ⟨rfl, q _ g F2.2.1⟩), fun _ => go_X9_isDone_21 (by decide) ⟨rfl, q _ g F2.2.1⟩⟩
end SFL
