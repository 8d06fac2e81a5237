/-! ===== the class: a text laid out, orders done ===== -/
section SC5
variable {h g : LH} {d M : Nat}
theorem k000 : tf_K 0 = 0 := by decide
/-- a grid whose numbers of points and arcs are told anew -/
theorem NO.b0 {b n k n2 k2 : Nat} (H : NO h b n k) (hn : n2 ≤ 7) (hk : k2 ≤ 14) (e0 : g.1 b 0 = nI n2) (e1 : g.1 b 1 = nI k2) (e2 : g.1 (b + 2) = h.1 (b + 2)) (e3 : g.1 (b + 3) = h.1 (b + 3)) (e8 : g.1 (b + 8) = h.1 (b + 8)) (e9 : g.1 (b + 9) = h.1 (b + 9)) : NO g b n2 k2 := by
  obtain ⟨K, hb, -, -, hu, hue, ht, hh⟩ := H
  exact ⟨K, ⟨Nat.zero_le _, hn, hk⟩, e0, e1, fun p hp => by rw [e8]; exact hu p hp, fun p hp => by rw [e9]; exact hue p hp, fun a ha => by rw [e2]; exact ht a ha, fun a ha => by rw [e3]; exact hh a ha⟩
/-- the net is being filled: its ranges; nothing behind it changed, nor its counts -/
def NFl (h g : LH) (n k : Nat) : Prop := NO g 0 n k ∧ g.1 11 = h.1 11 ∧ (∀ e, 15 ≤ e → g.1 e = h.1 e) ∧ g.2 = h.2
theorem NFl.w {n k c i : Nat} {v : Int32} (N : NFl h g n k) (h0 : c ≠ 0) (hc : c < 15) (h11 : c ≠ 11) (h2 : c = 2 → 14 ≤ i ∨ vp_in v 7) (h3 : c = 3 → 14 ≤ i ∨ vp_in v 7) (h8 : c ≠ 8) (h9 : c ≠ 9) : NFl h (w1 g c i v) n k := ⟨N.1.w h0 (fun z => h2 (by omega)) (fun z => h3 (by omega)) (fun z => absurd z (by omega)) (fun z => absurd z (by omega)), by rw [w1_ne (by omega)]; exact N.2.1, fun e he => by rw [w1_ne (by omega)]; exact N.2.2.1 e he, N.2.2.2⟩
theorem NFl.w0 {n k i : Nat} {v : Int32} (N : NFl h g n k) (hi : 2 ≤ i) : NFl h (w1 g 0 i v) n k := ⟨N.1.b0 N.1.2.1.2.1 N.1.2.1.2.2 (by rw [w1_at (by omega)]; exact N.1.2.2.1) (by rw [w1_at (by omega)]; exact N.1.2.2.2.1) (w1_ne (by decide)) (w1_ne (by decide)) (w1_ne (by decide)) (w1_ne (by decide)), by rw [w1_ne (by decide)]; exact N.2.1, fun e he => by rw [w1_ne (by omega)]; exact N.2.2.1 e he, N.2.2.2⟩
theorem NFl.k {n k k2 : Nat} (N : NFl h g n k) (hk : k2 ≤ 14) : NFl h (w1 g 0 1 (nI k2)) n k2 := ⟨N.1.b0 N.1.2.1.2.1 hk (by rw [w1_at (by decide)]; exact N.1.2.2.1) w1_eq (w1_ne (by decide)) (w1_ne (by decide)) (w1_ne (by decide)) (w1_ne (by decide)), by rw [w1_ne (by decide)]; exact N.2.1, fun e he => by rw [w1_ne (by omega)]; exact N.2.2.1 e he, N.2.2.2⟩
theorem NFl.add {n k : Nat} {x1 x2 x3 x4 : Int32} (N : NFl h g n k) (hk : k < 14) (v1 : vp_in x1 7) (v2 : vp_in x2 7) : NFl h (nt_add g 0 k x1 x2 x3 x4) n (k + 1) := by
  have N2 : NFl h (w1 (w1 (w1 (w1 (w1 (w1 g (0 + 2) k x1) (0 + 3) k x2) (0 + 4) k x3) (0 + 5) k x4) (0 + 6) k 0) (0 + 7) k 0) n k := (((((N.w (by decide) (by decide) (by decide) (fun _ => Or.inr v1) (fun z => absurd z (by decide)) (by decide) (by decide)).w (by decide) (by decide) (by decide) (fun z => absurd z (by decide)) (fun _ => Or.inr v2) (by decide) (by decide)).w (by decide) (by decide) (by decide) (fun z => absurd z (by decide)) (fun z => absurd z (by decide)) (by decide) (by decide)).w (by decide) (by decide) (by decide) (fun z => absurd z (by decide)) (fun z => absurd z (by decide)) (by decide) (by decide)).w (by decide) (by decide) (by decide) (fun z => absurd z (by decide)) (fun z => absurd z (by decide)) (by decide) (by decide)).w (by decide) (by decide) (by decide) (fun z => absurd z (by decide)) (fun z => absurd z (by decide)) (by decide) (by decide)
  exact N2.k (by omega)
theorem NFl.cl {n k : Nat} (N : NFl h g n k) {e : Nat} (he : 15 ≤ e) : g.1 e = h.1 e := N.2.2.1 e he
theorem NFl.nb {n k line i : Nat} (N : NFl h g n k) : nb g line i = nb h line i := by
  show g.1 262 _ = h.1 262 _
  rw [N.cl (by decide)]
theorem tv_sf : ∀ v, v < 15 → ((tv_sm.getD v 0).toInt = 2 → v = 1) ∧ ((tv_sm.getD v 0).toInt = 3 → v = 2) ∧ ((tv_sm.getD v 0).toInt = 6 → v = 5) := by decide +kernel
theorem sp_fil {c line n k : Nat} (hc : c ≤ 80) (hl : line < c) (V : VB h c) (A : AGr h c) (N : NFl h g n k) : tf_Sp (d + 2) 240 [.ref 259, .int (nI line), .ref 0] g (fun _ g2 => ∃ k2, NFl h g2 n k2) := by
  intro Q q
  have e : (nI line).toNatClampNeg = line := nI_clamp (by omega)
  have vv : vp_in (g.1 260 (nI line).toNatClampNeg) 15 := by rw [e, N.cl (by decide)]; exact V line hl
  have ev : (g.1 260 (nI line).toNatClampNeg).toNatClampNeg = vbn h line := by rw [e, N.cl (by decide)]; rfl
  have v15 : vbn h line < 15 := by rw [← ev]; exact tv_lt vv
  have cv : (nI (vbn h line)).toNatClampNeg = vbn h line := nI_clamp (by omega)
  have l80 : line < 80 := by omega
  obtain ⟨s2, s3, s6⟩ := tv_sf (vbn h line) v15
  have k182 : lx_X4_fillLine (d + 1) (tf_Cd 298 (d + 1)) Q 182 [.ref 259, .int (nI line), .ref 0] [] g := go_X4_fillLine_182 k000 (q _ g ⟨k, N⟩)
  have hadd : ∀ x4 : Int32, (vbn h line = 1 ∨ vbn h line = 2) → ∃ k2, NFl h (if k < 14 then nt_add g 0 k (nb g line 0) (nb g line 1) (nb g line 2) x4 else g) n k2 := by
    intro x4 hv
    obtain ⟨v1, v2⟩ := (A line hl).2.1 hv
    split
    · rename_i hk
      exact ⟨k + 1, N.add hk (by rw [N.nb]; exact v1) (by rw [N.nb]; exact v2)⟩
    · exact ⟨k, N⟩
  have hk1 : g.1 0 1 = nI k := N.1.2.2.2.1
  have hk14 : k ≤ 14 := N.1.2.1.2.2
  refine en_X4_fillLine k000 (go_X4_fillLine_0 k000 ⟨⟨vi_of l80 (by omega), vv⟩, ?_⟩)
  rw [ev]
  refine go_X4_fillLine_12 k000 ?_
  rw [cv]
  refine ⟨vi_of v15 (by omega), fun _ => k182, fun c0 => ?_, fun c0 => ?_, fun _ => k182, fun _ => k182, fun c0 => ?_, fun _ => k182, fun _ => k182, fun _ => k182, fun _ => k182, fun _ => k182, fun _ => go_X4_fillLine_158 k000 (go_X4_fillLine_182 k000 (q _ _ ⟨k, N.w0 (by decide)⟩)), fun _ => go_X4_fillLine_166 k000 (go_X4_fillLine_182 k000 (q _ _ ⟨k, N.w0 (by decide)⟩)), fun _ => go_X4_fillLine_174 k000 (go_X4_fillLine_182 k000 (q _ _ ⟨k, N.w0 (by decide)⟩)), trivial⟩
  · exact go_X4_fillLine_80 k000 (sx_nb (d := d) (i := 0) l80 (by decide) rfl _ (go_X4_fillLine_87 k000 k000 (sx_nb (d := d) (i := 1) l80 (by decide) rfl _ (go_X4_fillLine_93 k000 k000 (sx_nb (d := d) (i := 2) l80 (by decide) rfl _ (go_X4_fillLine_99 k000 k000 (sx_nb (d := d) (i := 3) l80 (by decide) rfl _ (go_X4_fillLine_105 k000 k000 (sx_add (d := d) (b := 0) k000 hk1 hk14 _ _ _ _ _ (go_X4_fillLine_108 k000 (go_X4_fillLine_182 k000 (q _ _ (hadd _ (Or.inl (s2 c0)))))))))))))))
  · exact go_X4_fillLine_111 k000 (sx_nb (d := d) (i := 0) l80 (by decide) rfl _ (go_X4_fillLine_118 k000 k000 (sx_nb (d := d) (i := 1) l80 (by decide) rfl _ (go_X4_fillLine_124 k000 k000 (sx_nb (d := d) (i := 2) l80 (by decide) rfl _ (go_X4_fillLine_130 k000 k000 (sx_nb (d := d) (i := 3) l80 (by decide) rfl _ (go_X4_fillLine_136 k000 k000 (sx_add (d := d) (b := 0) k000 hk1 hk14 _ _ _ _ _ (go_X4_fillLine_140 k000 (go_X4_fillLine_182 k000 (q _ _ (hadd _ (Or.inr (s3 c0)))))))))))))))
  · refine go_X4_fillLine_143 k000 (sx_nb (d := d) (i := 0) l80 (by decide) rfl _ (go_X4_fillLine_153 k000 (show tf_K (0 + 7) = 8 by decide) (show tf_N (0 + 7) = 21 by decide) (by decide) ⟨?_, go_X4_fillLine_182 k000 (q _ _ ⟨k, N.w (by decide) (by decide) (by decide) (fun z => absurd z (by decide)) (fun z => absurd z (by decide)) (by decide) (by decide)⟩)⟩))
    rw [N.nb]
    exact (A line hl).2.2.2 (s6 c0)
theorem fi_2 {c n : Nat} (hc : c ≤ 80) (V : VB h c) (A : AGr h c) (e0 : h.1 259 0 = nI c) {Q : tf_Q} (q : ∀ g k, NFl h g n k → Q tf_z g) : ∀ (f i : Nat) (g : LH) (k : Nat), i + f = c → NFl h g n k → lx_X4_fill (d + 2) (tf_Cd 298 (d + 2)) Q 38 [.ref 259, .ref 0, .int (nI i)] [] g
  | 0, i, g, k, hf, N => go_X4_fill_38 k000 ⟨fun _ => go_X4_fill_58 k000 (q g k N), fun c1 => absurd (by rw [N.cl (by decide), e0]; exact nI_le (by omega) (by omega)) c1⟩
  | f + 1, i, g, k, hf, N => by
    refine go_X4_fill_38 k000 ⟨fun c1 => absurd (by rw [N.cl (by decide), e0] at c1; exact c1) (nI_ge (by omega) (by omega)), fun _ => sp_fil (d := d) hc (by omega) V A N _ (fun _ g2 p => go_X4_fill_52 k000 ?_)⟩
    obtain ⟨k2, N2⟩ := p
    rw [nI_1]
    exact fi_2 hc V A e0 q f (i + 1) g2 k2 (by omega) N2
theorem fi_1 {c n : Nat} (hc : c ≤ 80) (V : VB h c) (A : AGr h c) (e0 : h.1 259 0 = nI c) {Q : tf_Q} (q : ∀ g k, NFl h g n k → Q tf_z g) : ∀ (f i : Nat) (g : LH) (k : Nat), i + f = n → NFl h g n k → lx_X4_fill (d + 2) (tf_Cd 298 (d + 2)) Q 10 [.ref 259, .ref 0, .int (nI i)] [] g
  | 0, i, g, k, hf, N => by
    have n7 := N.1.2.1.2.1
    exact go_X4_fill_10 k000 ⟨fun _ => go_X4_fill_36 k000 (fi_2 hc V A e0 q c 0 g k (by omega) N), fun c1 => absurd (by rw [N.1.2.2.1]; exact nI_le (by omega) (by omega)) c1⟩
  | f + 1, i, g, k, hf, N => by
    have n7 := N.1.2.1.2.1
    refine go_X4_fill_10 k000 ⟨fun c1 => absurd (by rw [N.1.2.2.1] at c1; exact c1) (nI_ge (by omega) (by omega)), fun _ => ⟨vi_of (by omega) (by omega), vi_of (by omega) (by omega), ?_⟩⟩
    rw [nI_1]
    exact fi_1 hc V A e0 q f (i + 1) _ k (by omega) (N.w (by decide) (by decide) (by decide) (fun z => absurd z (by decide)) (fun z => absurd z (by decide)) (by decide) (by decide))
theorem z7_ok {n k : Nat} : ∀ (f p : Nat) (g : LH), NFl h g n k → NFl h (nt_z7 0 f p g) n k
  | 0, p, g, N => N
  | f + 1, p, g, N => by
    rw [nt_z7]
    exact z7_ok f (p + 1) _ (N.w (by decide) (by decide) (by decide) (fun z => absurd z (by decide)) (fun z => absurd z (by decide)) (by decide) (by decide))
theorem sp_fi {c n k : Nat} (hc : c ≤ 80) (V : VB h c) (A : AGr h c) (e0 : h.1 259 0 = nI c) (H : NO h 0 n k) : tf_Sp (d + 3) 239 [.ref 259, .ref 0] h (fun _ g => ∃ n2 k2, NFl h g n2 k2) := by
  intro Q q
  refine en_X4_fill k000 (go_X4_fill_0 k000 (sp_ptd (d := d) (P := fun x => ∃ m, 2 ≤ m ∧ m ≤ 7 ∧ x = nI m) V hc e0 (fun line hl v0 => (A line hl).1 v0) ⟨2, by omega, by omega, rfl⟩ _ (fun v g p => ?_)))
  obtain ⟨rfl, x, rfl, m, m2, m7, rfl⟩ := p
  refine go_X4_fill_5 k000 k000 (sx_clr (d := d + 1) (b := 0) k000 _ _ (go_X4_fill_8 k000 ?_))
  have N0 : NFl g (w1 (w1 (w1 g 0 0 (nI m)) 0 1 0) 0 2 0) m 0 := ⟨H.b0 m7 (by omega) (by rw [w1_at (by decide), w1_at (by decide), w1_eq]) (by rw [w1_at (by decide), w1_eq]; rfl) (by rw [w1_ne (by decide), w1_ne (by decide), w1_ne (by decide)]) (by rw [w1_ne (by decide), w1_ne (by decide), w1_ne (by decide)]) (by rw [w1_ne (by decide), w1_ne (by decide), w1_ne (by decide)]) (by rw [w1_ne (by decide), w1_ne (by decide), w1_ne (by decide)]), by rw [w1_ne (by decide), w1_ne (by decide), w1_ne (by decide)], fun e he => by rw [w1_ne (by omega), w1_ne (by omega), w1_ne (by omega)], rfl⟩
  exact fi_1 hc V A e0 (fun g2 k2 N2 => q _ g2 ⟨m, k2, N2⟩) m 0 _ 0 (by omega) (z7_ok 7 0 _ N0)
/-! acts on the grid, without keeping -/
theorem ac_rule (X : XA h M) (x : Int32) : tf_Sp (d + 2) 123 [.ref 0, .int x] h (fun v g => (∃ b, v = .int (bI b)) ∧ XA g M ∧ Fr h g) := by
  refine (sx_setRule (d := d) (h := h) (b := 0) k000 x).sp ⟨⟨_, rfl⟩, ?_⟩
  split
  · obtain ⟨n, k, m, hm, H⟩ := X.net
    have H2 : NT (w1 h 0 2 x) 0 n k m := by
      obtain ⟨⟨K, hb, h0, hk, hu, hue, ht, hh⟩, hm2, hs⟩ := H
      refine ⟨⟨K, hb, by rw [w1_at (by decide)]; exact h0, by rw [w1_at (by decide)]; exact hk, fun p hp => ?_, fun p hp => ?_, fun a ha => ?_, fun a ha => ?_⟩, by rw [w1_ne (by decide)]; exact hm2, by rw [w1_ne (by decide)]; exact hs⟩
      · rw [w1_ne (by decide)]; exact hu p hp
      · rw [w1_ne (by decide)]; exact hue p hp
      · rw [w1_ne (by decide)]; exact ht a ha
      · rw [w1_ne (by decide)]; exact hh a ha
    exact ⟨act_ok X hm H2 (fun e he => w1_ne (by omega)), w1_fr (by decide)⟩
  · exact ⟨X, Fr.rf⟩
theorem ac_move (X : XA h M) (x y z : Int32) : tf_Sp (d + 3) 124 [.ref 0, .int x, .int y, .int z] h (fun v g => (∃ b, v = .int (bI b)) ∧ XA g M ∧ Fr h g) := by
  obtain ⟨n, k, m, hm, H⟩ := X.net
  refine (sx_move (d := d) H.1 x y z).sp ⟨⟨_, rfl⟩, ?_⟩
  split
  · have HM : NT (nt_mv h 0 x y z) 0 n k m := (H.w6 (by decide) (by decide) (by decide) (by decide) (by decide) (by decide)).w6 (by decide) (by decide) (by decide) (by decide) (by decide) (by decide)
    have eM : ∀ e, ¬ e < 15 → (nt_mv h 0 x y z).1 e = h.1 e := fun e he => by unfold nt_mv; rw [w1_ne (by omega), w1_ne (by omega)]
    exact beg_fr X hm HM eM rfl 1
  · exact ⟨X, Fr.rf⟩
theorem ac_open (X : XA h M) (x y : Int32) : tf_Sp (d + 3) 125 [.ref 0, .int x, .int y] h (fun v g => (∃ b, v = .int (bI b)) ∧ XA g M ∧ Fr h g) := by
  obtain ⟨n, k, m, hm, H⟩ := X.net
  refine (sx_open (d := d) H.1 x y).sp ⟨⟨_, rfl⟩, ?_⟩
  split
  · exact beg_fr X hm (H.w6 (by decide) (by decide) (by decide) (by decide) (by decide) (by decide)) (fun e he => by rw [w1_ne (by omega)]) rfl 1
  · exact ⟨X, Fr.rf⟩
theorem ac_bound (X : XA h M) (x y : Int32) : tf_Sp (d + 3) 126 [.ref 0, .int x, .int y] h (fun v g => (∃ b, v = .int (bI b)) ∧ XA g M ∧ Fr h g) := by
  obtain ⟨n, k, m, hm, H⟩ := X.net
  refine (sx_bound (d := d) H.1 x y).sp ⟨⟨_, rfl⟩, ?_⟩
  split
  · exact beg_fr X hm (H.w6 (by decide) (by decide) (by decide) (by decide) (by decide) (by decide)) (fun e he => by rw [w1_ne (by omega)]) rfl 1
  · exact ⟨X, Fr.rf⟩
theorem ac_cost (X : XA h M) (x y : Int32) : tf_Sp (d + 2) 127 [.ref 0, .int x, .int y] h (fun v g => (∃ b, v = .int (bI b)) ∧ XA g M ∧ Fr h g) := by
  obtain ⟨n, k, m, hm, H⟩ := X.net
  refine (sx_cost (d := d) H.1 x y).sp ⟨⟨_, rfl⟩, ?_⟩
  split
  · have HM : NT (w1 h (0 + 5) x.toNatClampNeg y) 0 n k m := H.w6 (by decide) (by decide) (by decide) (by decide) (by decide) (by decide)
    obtain ⟨HP, LP, P2⟩ := prs_ok HM
    have L : ∀ e, ¬ e < 15 → (nt_prs (w1 h (0 + 5) x.toNatClampNeg y) 0 n).1 e = h.1 e := fun e he => by rw [LP e (by omega), w1_ne (by omega)]
    exact ⟨act_ok X hm HP L, act_fr L P2⟩
  · exact ⟨X, Fr.rf⟩
theorem ac_beg (X : XA h M) : tf_Sp (d + 2) 128 [.ref 0, .int 0] h (fun _ g => XA g M ∧ Fr h g) := by
  obtain ⟨n, k, m, hm, H⟩ := X.net
  exact (sx_beg (d := d) H.1 0).sp (beg_fr X hm H (fun _ _ => rfl) rfl 0)
theorem ac_run {N : Nat} (X : XA h M) (hM : M < 1900000000) (hN : N ≤ 60) (r : Int32) : tf_Sp (d + 5) 160 [.ref 241, .ref 0, .int r, .int (nI N)] h (fun v g => (∃ x, v = .int x) ∧ XA g (M + 60) ∧ Fr h g) := by
  obtain ⟨n, k, m, hm, H⟩ := X.net
  obtain ⟨c, R⟩ := X.2.1
  have s2 := sx_run (d := d) (M := N) H (by omega) (by omega) R r
  obtain ⟨X2, F2⟩ := X.run (r0 := 0) (N := N) (by omega) hm H R r
  rw [Nat.mul_zero] at X2 F2
  exact s2.sp ⟨⟨_, rfl⟩, X2.mono (by omega), F2⟩
end SC5
