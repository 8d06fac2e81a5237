/-! ===== the class's script: a grid's text passes, orders pass ===== -/
section SC4
variable {h g : LH} {d M : Nat}
/-- only the row of supplies changed -/
def F4 (h g : LH) : Prop := (∀ e, e ≠ 264 → g.1 e = h.1 e) ∧ g.2 = h.2
theorem F4.rf : F4 h h := ⟨fun _ _ => rfl, rfl⟩
theorem F4.w {i : Nat} {v : Int32} (F : F4 h g) : F4 h (w1 g 264 i v) := ⟨fun e he => by rw [w1_ne he]; exact F.1 e he, F.2⟩
theorem ss_3 {Q : tf_Q} (q : ∀ x : Int32, Q (.int x) g) : ∀ (f i : Nat) (x : Int32), i + f = 7 → lx_X4_sumOfSupplies d (tf_Cd 298 d) Q 103 [.ref 259, .int x, .int (nI i)] [] g
  | 0, i, x, hf => go_X4_sumOfSupplies_103 ⟨fun _ => go_X4_sumOfSupplies_124 (q x), fun c => absurd (show nI 7 ≤ nI i from nI_le (by omega) (by omega)) c⟩
  | f + 1, i, x, hf => go_X4_sumOfSupplies_103 ⟨fun _ => go_X4_sumOfSupplies_124 (q x), fun _ => ⟨vi_of (by omega) (by omega), by rw [nI_1]; exact ss_3 q f (i + 1) _ (by omega)⟩⟩
theorem k264 : tf_K 264 = 8 ∧ tf_N 264 = 7 ∧ 264 < 298 := by decide
theorem ss_2 {c : Nat} (hc : c ≤ 80) (A : AGr h c) (V : VB h c) (e0 : h.1 259 0 = nI c) {Q : tf_Q} (q : ∀ (x : Int32) (g : LH), F4 h g → Q (.int x) g) : ∀ (f i : Nat) (g : LH), i + f = c → F4 h g → lx_X4_sumOfSupplies (d + 1) (tf_Cd 298 (d + 1)) Q 23 [.ref 259, .int (nI i), tf_z] [] g
  | 0, i, g, hf, F => go_X4_sumOfSupplies_23 ⟨fun _ => go_X4_sumOfSupplies_99 (ss_3 (fun x => q x g F) 7 0 _ (by omega)), fun c1 => absurd (by rw [F.1 259 (by decide), e0]; exact nI_le (by omega) (by omega)) c1⟩
  | f + 1, i, g, hf, F => by
    have e : (nI i).toNatClampNeg = i := nI_clamp (by omega)
    have vl : vp_in (nI i) 80 := vi_of (by omega) (by omega)
    have vv : vp_in (g.1 260 (nI i).toNatClampNeg) 15 := by rw [e, F.1 260 (by decide)]; exact V i (by omega)
    have ev : (g.1 260 (nI i).toNatClampNeg).toNatClampNeg = vbn h i := by rw [e, F.1 260 (by decide)]; rfl
    have en : ∀ j, nb g i j = nb h i j := fun j => by unfold nb; rw [F.1 262 (by decide)]
    have nx : ∀ g2, F4 h g2 → lx_X4_sumOfSupplies (d + 1) (tf_Cd 298 (d + 1)) Q 93 [.ref 259, .int (nI i), tf_z] [] g2 := fun g2 F2 => go_X4_sumOfSupplies_93 (by rw [nI_1]; exact ss_2 hc A V e0 q f (i + 1) g2 (by omega) F2)
    refine go_X4_sumOfSupplies_23 ⟨fun c1 => absurd (by rw [F.1 259 (by decide), e0] at c1; exact c1) (nI_ge (by omega) (by omega)), fun _ => ?_⟩
    rw [ev]
    refine ⟨⟨vl, vv⟩, fun c1 => sx_nb (d := d) (i := 0) (by omega) (by decide) rfl _ (go_X4_sumOfSupplies_53 k264.1 k264.2.1 k264.2.2 (sx_nb (d := d) (i := 1) (by omega) (by decide) rfl _ (go_X4_sumOfSupplies_59 k264.1 k264.2.1 k264.2.2 ⟨?_, nx _ F.w⟩))), fun c1 => go_X4_sumOfSupplies_63 ?_⟩
    · rw [en]
      exact (A i (by omega)).2.2.1 (Or.inl c1)
    · rw [ev]
      refine ⟨⟨vl, vv⟩, fun c2 => sx_nb (d := d) (i := 0) (by omega) (by decide) rfl _ (go_X4_sumOfSupplies_85 k264.1 k264.2.1 k264.2.2 (sx_nb (d := d) (i := 1) (by omega) (by decide) rfl _ (go_X4_sumOfSupplies_91 k264.1 k264.2.1 k264.2.2 ⟨?_, nx _ F.w⟩))), fun _ => nx g F⟩
      rw [en]
      exact (A i (by omega)).2.2.1 (Or.inr c2)
theorem ss_1 {c : Nat} (hc : c ≤ 80) (A : AGr h c) (V : VB h c) (e0 : h.1 259 0 = nI c) {Q : tf_Q} (q : ∀ (x : Int32) (g : LH), F4 h g → Q (.int x) g) : ∀ (f i : Nat) (g : LH), i + f = 7 → F4 h g → lx_X4_sumOfSupplies (d + 1) (tf_Cd 298 (d + 1)) Q 2 [.ref 259, .int (nI i), tf_z] [] g
  | 0, i, g, hf, F => go_X4_sumOfSupplies_2 ⟨fun _ => go_X4_sumOfSupplies_21 (ss_2 hc A V e0 q c 0 g (by omega) F), fun c1 => absurd (show nI 7 ≤ nI i from nI_le (by omega) (by omega)) c1⟩
  | f + 1, i, g, hf, F => go_X4_sumOfSupplies_2 ⟨fun _ => go_X4_sumOfSupplies_21 (ss_2 hc A V e0 q c 0 g (by omega) F), fun _ => ⟨vi_of (by omega) (by omega), by rw [nI_1]; exact ss_1 hc A V e0 q f (i + 1) _ (by omega) F.w⟩⟩
theorem sp_ss {c : Nat} (hc : c ≤ 80) (A : AGr h c) (V : VB h c) (e0 : h.1 259 0 = nI c) : tf_Sp (d + 2) 237 [.ref 259] h (fun v g => (∃ x, v = .int x) ∧ F4 h g) := fun Q q => en_X4_sumOfSupplies (go_X4_sumOfSupplies_0 (ss_1 hc A V e0 (fun x g F => q _ g ⟨⟨x, rfl⟩, F⟩) 7 0 h (by omega) F4.rf))
/-- only the fault and the row of supplies changed -/
def FG (h g : LH) : Prop := (∀ e, e ≠ 259 → e ≠ 264 → g.1 e = h.1 e) ∧ g.2 = h.2 ∧ ∀ j, j ≠ 1 → j ≠ 2 → g.1 259 j = h.1 259 j
theorem FL.fg (F : FL h g) : FG h g := ⟨fun e h1 _ => F.1 e h1, F.2.1, F.2.2⟩
theorem F4.fg (F : F4 h g) : FG h g := ⟨fun e _ h2 => F.1 e h2, F.2, fun j _ _ => by rw [F.1 259 (by decide)]⟩
theorem FG.tr {f : LH} (x : FG h g) (y : FG g f) : FG h f := ⟨fun e h1 h2 => (y.1 e h1 h2).trans (x.1 e h1 h2), y.2.1.trans x.2.1, fun j h1 h2 => (y.2.2 j h1 h2).trans (x.2.2 j h1 h2)⟩
theorem FG.fs (F : FG h g) : FS h g := ⟨fun e he => F.1 e (fun z => he (by rw [z]; decide)) (fun z => he (by rw [z]; decide)), F.2.1⟩
theorem cg_end {c : Nat} {x1 x2 x3 : Int32} (hc : c ≤ 80) (V : VB h c) (e0 : h.1 259 0 = nI c) (F : FL h g) (z : g.1 259 1 = 0 → AGr h c) {Q : tf_Q} (q : ∀ g, FG h g → (g.1 259 1 = 0 → AGr h c) → Q tf_z g) : lx_X4_checkGrid (d + 3) (tf_Cd 298 (d + 3)) Q 40 [.ref 259, .int x1, .int x2, .int x3] [] g := by
  have k51 : ∀ g2, FL h g2 → (g2.1 259 1 = 0 → AGr h c) → lx_X4_checkGrid (d + 3) (tf_Cd 298 (d + 3)) Q 51 [.ref 259, .int x1, .int x2, .int x3] [] g2 := by
    intro g2 F2 z2
    refine go_X4_checkGrid_51 ⟨fun c1 => sp_ss (d := d + 1) hc ((z2 c1).same (F2.1 260 (by decide)) (F2.1 262 (by decide))) (F2.vb V) (F2.ct e0) _ (fun v g3 p => ?_), fun c1 => go_X4_checkGrid_71 (q g2 F2.fg z2)⟩
    obtain ⟨⟨x, rfl⟩, F3⟩ := p
    refine go_X4_checkGrid_62 ⟨fun _ => go_X4_checkGrid_71 (q g3 (F2.fg.tr F3.fg) (fun y => z2 (by rw [← F3.1 259 (by decide)]; exact y))), fun _ => sx_bl (d := d + 2) _ _ _ (go_X4_checkGrid_71 (q _ ((F2.fg.tr F3.fg).tr bl_fl.fg) (fun y => absurd y (bl_ne (by decide)))))⟩
  refine go_X4_checkGrid_40 ⟨fun c1 => sp_cpt (d := d) (F.vb V) hc (F.ct e0) _ (fun _ g2 p => k51 g2 (F.tr p.1) (fun y => z (p.2 y))), fun c1 => k51 g F z⟩
theorem cg_L {c : Nat} {x1 : Int32} (hc : c ≤ 80) (V : VB h c) (e0 : h.1 259 0 = nI c) {Q : tf_Q} (q : ∀ g, FG h g → (g.1 259 1 = 0 → AGr h c) → Q tf_z g) : ∀ (f i t : Nat) (g : LH), i + f = c → t ≤ i → FL h g → (g.1 259 1 = 0 → AGr h i ∧ t ≤ 14) → lx_X4_checkGrid (d + 3) (tf_Cd 298 (d + 3)) Q 4 [.ref 259, .int x1, .int (nI t), .int (nI i)] [] g
  | 0, i, t, g, hf, ht, F, z => by
    have hi : i = c := by omega
    subst hi
    exact go_X4_checkGrid_4 ⟨fun _ => cg_end hc V e0 F (fun y => (z y).1) q, fun c1 => absurd (by rw [F.ct e0]; exact nI_le (by omega) (by omega)) c1⟩
  | f + 1, i, t, g, hf, ht, F, z => by
    refine go_X4_checkGrid_4 ⟨fun c1 => absurd (by rw [F.ct e0] at c1; exact c1) (nI_ge (by omega) (by omega)), fun _ => sp_gl (d := d) (F.vb V) (by omega) hc (by omega) _ (fun _ g2 p => go_X4_checkGrid_18 (sx_ia (d := d + 2) (p.1.vb (F.vb V)) (by omega) hc _ ?_))⟩
    have F2 := F.tr p.1
    have ei : ia g2 i = ia h i := by
      unfold ia
      rw [F2.vbE]
    have ev : ∀ l, vbn g l = vbn h l := fun l => F.vbE
    have en : ∀ l j, nb g l j = nb h l j := fun l j => F.nbE
    have A2 : g2.1 259 1 = 0 → AGr h (i + 1) ∧ t ≤ 14 ∧ (ia h i = true → t + 1 ≤ 14) := by
      intro y
      obtain ⟨y1, L1, L2, L3, L4⟩ := p.2 y
      obtain ⟨A, t14⟩ := z y1
      rw [ev, en] at L1
      rw [ev, en, en] at L2
      rw [ev, en] at L3 L4
      refine ⟨fun line hl => ?_, t14, fun hi => ?_⟩
      · by_cases hli : line = i
        · subst hli
          refine ⟨L1, fun q0 => ⟨(L2 q0).1, (L2 q0).2.1⟩, L3, fun q0 => ?_⟩
          obtain ⟨m, hm, em⟩ := L4 q0
          rw [em]
          exact vi_of (by omega) (by omega)
        · exact A line (by omega)
      · unfold ia at hi
        rw [Bool.or_eq_true, decide_eq_true_eq, decide_eq_true_eq] at hi
        have := (L2 hi).2.2
        omega
    rw [ei]
    refine go_X4_checkGrid_24 ⟨fun c1 => go_X4_checkGrid_31 (go_X4_checkGrid_32 ?_), fun c1 => go_X4_checkGrid_32 ?_⟩
    · rw [Int32.add_zero, nI_1]
      exact cg_L hc V e0 q f (i + 1) t g2 (by omega) (by omega) F2 (fun y => ⟨(A2 y).1, (A2 y).2.1⟩)
    · rw [nI_1, nI_1]
      rw [bI_0, Bool.not_eq_false] at c1
      exact cg_L hc V e0 q f (i + 1) (t + 1) g2 (by omega) (by omega) F2 (fun y => ⟨(A2 y).1, (A2 y).2.2 c1⟩)
theorem sp_cg {c : Nat} (hc : c ≤ 80) (V : VB h c) (e0 : h.1 259 0 = nI c) (x1 : Int32) : tf_Sp (d + 4) 232 [.ref 259, .int x1] h (fun _ g => FG h g ∧ (g.1 259 1 = 0 → AGr h c)) := fun Q q => en_X4_checkGrid (go_X4_checkGrid_0 (cg_L hc V e0 (fun g F z => q _ g ⟨F, z⟩) c 0 0 h (by omega) (by omega) FL.rf (fun _ => ⟨fun line hl => absurd hl (by omega), by omega⟩)))
/-- orders that pass: so many pivots -/
def OGr (h : LH) (c : Nat) : Prop := ∀ line, line < c → vbn h line = 9 → ∃ m, 1 ≤ m ∧ m ≤ 60 ∧ nb h line 0 = nI m
theorem tv_s9 : ∀ v, v < 15 → ((tv_sm.getD v 0).toInt = 7 → v = 9) ∧ (¬ (tv_sm.getD v 0).toInt = 7 → v ≠ 9) := by decide +kernel
theorem co_L {c : Nat} (hc : c ≤ 80) (V : VB h c) (e0 : h.1 259 0 = nI c) {Q : tf_Q} (q : ∀ g, FL h g → (g.1 259 1 = 0 → OGr h c) → Q tf_z g) : ∀ (f i : Nat) (g : LH), i + f = c → FL h g → (g.1 259 1 = 0 → OGr h i) → lx_X4_checkOrders (d + 2) (tf_Cd 298 (d + 2)) Q 2 [.ref 259, .int (nI i)] [] g
  | 0, i, g, hf, F, z => by
    have hi : i = c := by omega
    subst hi
    exact go_X4_checkOrders_2 ⟨fun _ => go_X4_checkOrders_137 (q g F z), fun c1 => absurd (by rw [F.ct e0]; exact nI_le (by omega) (by omega)) c1⟩
  | f + 1, i, g, hf, F, z => by
    have e : (nI i).toNatClampNeg = i := nI_clamp (by omega)
    have vv : vp_in (g.1 260 (nI i).toNatClampNeg) 15 := by rw [e]; exact F.vb V i (by omega)
    have ev : (g.1 260 (nI i).toNatClampNeg).toNatClampNeg = vbn h i := by rw [e, F.1 260 (by decide)]; rfl
    have v15 : vbn h i < 15 := by rw [← ev]; exact tv_lt vv
    have cv : (nI (vbn h i)).toNatClampNeg = vbn h i := nI_clamp (by omega)
    have nx : ∀ g2, FL g g2 → (g2.1 259 1 = 0 → g.1 259 1 = 0 ∧ (vbn h i = 9 → ∃ m, 1 ≤ m ∧ m ≤ 60 ∧ nb h i 0 = nI m)) → lx_X4_checkOrders (d + 2) (tf_Cd 298 (d + 2)) Q 131 [.ref 259, .int (nI i)] [] g2 := by
      intro g2 F2 z2
      refine go_X4_checkOrders_131 ?_
      rw [nI_1]
      refine co_L hc V e0 q f (i + 1) g2 (by omega) (F.tr F2) (fun y line hl => ?_)
      by_cases hli : line = i
      · subst hli
        exact (z2 y).2
      · exact z (z2 y).1 line (by omega)
    obtain ⟨s7, s0⟩ := tv_s9 (vbn h i) v15
    have k131 : vbn h i ≠ 9 → lx_X4_checkOrders (d + 2) (tf_Cd 298 (d + 2)) Q 131 [.ref 259, .int (nI i)] [] g := fun n9 => nx g FL.rf (fun y => ⟨y, fun q0 => absurd q0 n9⟩)
    have k118 : vbn h i ≠ 9 → lx_X4_checkOrders (d + 2) (tf_Cd 298 (d + 2)) Q 118 [.ref 259, .int (nI i)] [] g := fun n9 => go_X4_checkOrders_118 (sp_want (d := d) (i := 0) (by omega) (by decide) rfl (by decide) _ (fun _ g2 p => go_X4_checkOrders_128 (nx g2 p.1 (fun y => ⟨(p.2 y).1, fun q0 => absurd q0 n9⟩))))
    refine go_X4_checkOrders_2 ⟨fun c1 => absurd (by rw [F.ct e0] at c1; exact c1) (nI_ge (by omega) (by omega)), fun _ => ⟨⟨vi_of (by omega) (by omega), vv⟩, ?_⟩⟩
    rw [ev]
    refine go_X4_checkOrders_22 ?_
    rw [cv]
    refine ⟨vi_of v15 (by omega), fun c1 => k131 (s0 (by omega)), fun c1 => k118 (s0 (by omega)), fun c1 => k131 (s0 (by omega)), fun c1 => k131 (s0 (by omega)), fun c1 => k118 (s0 (by omega)), fun c1 => ?_, fun c1 => ?_, fun c1 => k118 (s0 (by omega)), fun c1 => k118 (s0 (by omega)), fun c1 => k118 (s0 (by omega)), trivial⟩
    · refine go_X4_checkOrders_72 (sp_want (d := d) (i := 0) (by omega) (by decide) rfl (by decide) _ (fun _ g2 p => go_X4_checkOrders_82 (nx g2 p.1 (fun y => ?_))))
      obtain ⟨y1, a1, b1⟩ := p.2 y
      rw [F.nbE] at a1 b1
      exact ⟨y1, fun _ => wt_in (lo := 1) (hi := 60) a1 b1 (by decide) (by decide)⟩
    · have n9 := s0 (by omega)
      exact go_X4_checkOrders_85 (sp_want (d := d) (i := 0) (by omega) (by decide) rfl (by decide) _ (fun _ g2 p => go_X4_checkOrders_95 (sp_want (d := d) (i := 1) (by omega) (by decide) rfl (by decide) _ (fun _ g3 p3 => go_X4_checkOrders_105 (sp_want (d := d) (i := 2) (by omega) (by decide) rfl (by decide) _ (fun _ g4 p4 => go_X4_checkOrders_115 (nx g4 ((p.1.tr p3.1).tr p4.1) (fun y => ⟨(p.2 (p3.2 (p4.2 y).1).1).1, fun q0 => absurd q0 n9⟩))))))))
theorem sp_co {c : Nat} (hc : c ≤ 80) (V : VB h c) (e0 : h.1 259 0 = nI c) : tf_Sp (d + 3) 238 [.ref 259] h (fun _ g => FL h g ∧ (g.1 259 1 = 0 → OGr h c)) := fun Q q => en_X4_checkOrders (go_X4_checkOrders_0 (co_L hc V e0 (fun g F z => q _ g ⟨F, z⟩) c 0 h (by omega) FL.rf (fun _ line hl => absurd hl (by omega))))
end SC4
