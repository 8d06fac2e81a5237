/-! ===== the reference: work returns ===== -/
section RWL
variable {h g : LH} {d M n k : Nat}
theorem sp_alO {L : Nat} (hL : L ≤ 400) (es : h.1 271 170 = nI L) (R : RD h) : tf_Sp (d + 7) 20 [.ref 270, .int 0] h (fun v g => FA h g ∧ RD g ∧ (v = .int 0 ∨ (v = .int 1 ∧ ∃ o, o ≤ 80 ∧ g.1 270 23 = nI o ∧ NBo g o))) := by
  intro Q q
  refine en_X9_allLines (by decide) (go_X9_allLines_0 (by decide) ?_)
  have key : ∀ a : Int32, a = nI L → tf_Cd 298 (d + 6) 10 [.ref 270] (w1 (w1 (w1 (w1 (w1 h 270 7 a) 271 170 0) 270 13 (-1)) 270 6 0) 270 23 0) (fun r g => lx_X9_allLines 298 (tf_Cd 298 (d + 6)) Q 40 [.ref 270, .int 0, tf_z, tf_z, tf_z] [] g) := by
    rintro a rfl
    have e7 : (w1 (w1 (w1 (w1 (w1 h 270 7 (nI L)) 271 170 0) 270 13 (-1)) 270 6 0) 270 23 0).1 270 7 = nI L := by rw [w1_at (by decide), w1_at (by decide), w1_at (by decide), w1_ne (by decide), w1_eq]
    have e6 : (w1 (w1 (w1 (w1 (w1 h 270 7 (nI L)) 271 170 0) 270 13 (-1)) 270 6 0) 270 23 0).1 270 6 = nI 0 := by rw [w1_at (by decide), w1_eq]; rfl
    have e23 : (w1 (w1 (w1 (w1 (w1 h 270 7 (nI L)) 271 170 0) 270 13 (-1)) 270 6 0) 270 23 0).1 270 23 = nI 0 := w1_eq
    have eo : ∀ e, e ≠ 270 → e ≠ 271 → (w1 (w1 (w1 (w1 (w1 h 270 7 (nI L)) 271 170 0) 270 13 (-1)) 270 6 0) 270 23 0).1 e = h.1 e := fun e h1 h2 => by rw [w1_ne h1, w1_ne h1, w1_ne h1, w1_ne h2, w1_ne h1]
    have ei : ∀ i, i ≠ 7 → i ≠ 13 → i ≠ 6 → i ≠ 23 → (w1 (w1 (w1 (w1 (w1 h 270 7 (nI L)) 271 170 0) 270 13 (-1)) 270 6 0) 270 23 0).1 270 i = h.1 270 i := fun i h1 h2 h3 h4 => by rw [w1_at h4, w1_at h3, w1_at h2, w1_ne (by decide), w1_at h1]
    have ex : ∀ ix, ix ≠ 170 → (w1 (w1 (w1 (w1 (w1 h 270 7 (nI L)) 271 170 0) 270 13 (-1)) 270 6 0) 270 23 0).1 271 ix = h.1 271 ix := fun ix hx => by rw [w1_ne (by decide), w1_ne (by decide), w1_ne (by decide), w1_at hx, w1_ne (by decide)]
    have e0 : (w1 (w1 (w1 (w1 (w1 h 270 7 (nI L)) 271 170 0) 270 13 (-1)) 270 6 0) 270 23 0).1 271 170 = nI 0 := by rw [w1_ne (by decide), w1_ne (by decide), w1_ne (by decide), w1_eq]; rfl
    generalize w1 (w1 (w1 (w1 (w1 h 270 7 (nI L)) 271 170 0) 270 13 (-1)) 270 6 0) 270 23 0 = h1 at e7 e6 e23 eo ei ex e0
    have R1 : RD h1 := R.same (eo 275 (by decide) (by decide))
    refine sp_tok (d := d + 4) hL (Nat.zero_le _) e7 e6 _ (fun _ g2 p2 => go_X9_allLines_40 (by decide) ?_)
    obtain ⟨F2, b2, r2, hb2, T2⟩ := p2
    refine al_O (h := h1) (d := d) (fun v g3 F3 R3 p3 => q v g3 ⟨⟨fun e h1 h2 h3 => ?_, fun ix hx => ?_, ?_, ?_⟩, R3, p3⟩) 401 b2 r2 0 g2 _ (by omega) T2 (R1.same (F2.1 275 (by decide))) ((F2.2 23 (by decide) (by decide) (by decide) (by decide)).trans e23) (fun i hi => absurd hi (by omega)) (by omega) F2.ln
    · rw [F3.1 e h1 h2]
      exact eo e h2 h3
    · rw [F3.1 271 (by decide) (by decide)]
      exact ex ix hx
    · rw [F3.1 271 (by decide) (by decide)]
      exact e0
    · rw [F3.2]
      exact ei 5 (by decide) (by decide) (by decide) (by decide)
  exact key _ es
/-- what doing an order changes -/
def FD (h g : LH) : Prop := (∀ e, e ≠ 270 → e ≠ 271 → ¬ (281 ≤ e ∧ e ≤ 286) → g.1 e = h.1 e) ∧ (∀ i, i ≠ 30 → i ≠ 31 → g.1 270 i = h.1 270 i) ∧ ∀ ix, 170 ≤ ix → g.1 271 ix = h.1 271 ix
theorem FD.rf : FD h h := ⟨fun _ _ _ _ => rfl, fun _ _ _ => rfl, fun _ _ => rfl⟩
theorem FD.tr {f : LH} (x : FD h g) (y : FD g f) : FD h f := ⟨fun e h1 h2 h3 => (y.1 e h1 h2 h3).trans (x.1 e h1 h2 h3), fun i h1 h2 => (y.2.1 i h1 h2).trans (x.2.1 i h1 h2), fun ix hx => (y.2.2 ix hx).trans (x.2.2 ix hx)⟩
theorem PF.fd (F : PF h g) : FD h g := ⟨fun e h1 h2 h3 => F.1 e h2 h3 h1, F.2.2.1, fun ix hx => F.2.2.2 ix (Or.inr (Or.inr (Or.inr (Or.inl hx))))⟩
theorem FD.o (F1 : ∀ e, e ≠ 271 → g.1 e = h.1 e) (F2 : ∀ ix, 170 ≤ ix → g.1 271 ix = h.1 271 ix) : FD h g := ⟨fun e _ h2 _ => F1 e h2, fun i _ _ => by rw [F1 270 (by decide)], F2⟩
/-- an order was done, or refused -/
def DNr (h g : LH) (n k N : Nat) (v : Value) : Prop := (∃ b, v = .int (bI b)) ∧ GI g n k N ∧ FD h g
theorem sp_ida {x v low : Int32} {w : Nat} (G : GI h n k M) (hw : (w = 2 ∧ low = 0) ∨ (w = 6 ∧ low = 0) ∨ (w = 3 ∧ low = -99)) : tf_Sp (d + 5) 67 [.ref 270, .int x, .int (nI w), .int v, .int low] h (fun v g => DNr h g n k M v) := by
  intro Q q
  have w7 : w < 7 := by omega
  refine en_X9_isDoneArc (by decide) (go_X9_isDoneArc_0 (by decide) (sx_cb (d := d + 1) G.1 x w7 v low _ (go_X9_isDoneArc_9 (by decide) ⟨fun z => go_X9_isDoneArc_23 (by decide) ⟨bI_nar _, q _ h ⟨⟨_, rfl⟩, G, FD.rf⟩⟩, fun z => ?_⟩)))
  rw [bI_0, Bool.not_eq_false] at z
  exact sp_becomes (d := d) G hw z _ (fun _ g p => go_X9_isDoneArc_23 (by decide) ⟨bI_nar _, q _ g ⟨⟨_, rfl⟩, p.1, FD.o p.2.1 p.2.2⟩⟩)
theorem sp_id {a b c : Int32} {w : Int64} (G : GI h n k M) (hM : M ≤ 18000000) (ha : vp_in a 100) : tf_Sp (d + 8) 68 [.ref 270, .long w, .int a, .int b, .int c] h (fun v g => DNr h g n k (M + 100) v) := by
  intro Q q
  have up : ∀ v g, DNr h g n k M v → DNr h g n k (M + 100) v := fun v g p => ⟨p.1, p.2.1.mono (by omega), p.2.2⟩
  obtain ⟨N, hN, rfl⟩ := vi_nI ha
  have k171 : lx_X9_isDone 298 (tf_Cd 298 (d + 7)) Q 171 [.ref 270, .long w, tf_z, .int (nI N), .int b, .int c, tf_z] [] h := by
    refine go_X9_isDone_171 (by decide) ((pv_rb w).c fun x => go_X9_isDone_180 (by decide) (show tf_K 271 = 8 by decide) (show tf_N 271 = 865 by decide) (by decide) ⟨vi_of (j := 2) (by decide) (by decide), go_X9_isDone_181 (by decide) (q _ (w1 h 271 2 x) (up _ _ ⟨⟨true, rfl⟩, G.ru, FD.o (fun e he => w1_ne he) (fun ix hx => w1_at (by omega))⟩))⟩)
  have k155 : lx_X9_isDone 298 (tf_Cd 298 (d + 7)) Q 155 [.ref 270, .long w, tf_z, .int (nI N), .int b, .int c, tf_z] [] h := by
    refine go_X9_isDone_155 (by decide) ⟨fun _ => sp_bga (d := d + 4) (M := M) G.bi 0 _ (fun _ g p => go_X9_isDone_168 (by decide) (go_X9_isDone_181 (by decide) (q _ g (up _ _ ⟨⟨true, rfl⟩, p.1, FD.o p.2.1 (fun ix hx => p.2.2.2 ix (Or.inr (Or.inl hx)) (by omega))⟩)))), fun _ => k171⟩
  have k149 : ∀ y : Int32, lx_X9_isDone 298 (tf_Cd 298 (d + 7)) Q 149 [.ref 270, .long w, tf_z, .int (nI N), .int b, .int c, tf_z] [.int y, .int 3, .int (nI N), .ref 270] h := by
    intro y
    refine go_X9_isDone_149 (by decide) (sp_ida (d := d + 2) (w := 3) G (Or.inr (Or.inr ⟨rfl, rfl⟩)) _ (fun v g p => ?_))
    obtain ⟨⟨b9, rfl⟩, p2⟩ := id p
    exact go_X9_isDone_154 (by decide) ⟨bI_nar _, q _ g (up _ _ p)⟩
  have k130 : lx_X9_isDone 298 (tf_Cd 298 (d + 7)) Q 130 [.ref 270, .long w, tf_z, .int (nI N), .int b, .int c, tf_z] [] h := go_X9_isDone_130 (by decide) ⟨fun _ => k149 _, fun _ => go_X9_isDone_147 (by decide) (k149 _)⟩
  have k114 : lx_X9_isDone 298 (tf_Cd 298 (d + 7)) Q 114 [.ref 270, .long w, tf_z, .int (nI N), .int b, .int c, tf_z] [] h := go_X9_isDone_114 (by decide) ⟨fun _ => k130, fun _ => ⟨fun _ => k130, fun _ => k155⟩⟩
  have k96 : lx_X9_isDone 298 (tf_Cd 298 (d + 7)) Q 96 [.ref 270, .long w, tf_z, .int (nI N), .int b, .int c, tf_z] [] h := by
    refine go_X9_isDone_96 (by decide) ⟨fun _ => sp_ida (d := d + 2) (w := 2) G (Or.inl ⟨rfl, rfl⟩) _ (fun v g p => ?_), fun _ => k114⟩
    obtain ⟨⟨b9, rfl⟩, p2⟩ := id p
    exact go_X9_isDone_113 (by decide) ⟨bI_nar _, q _ g (up _ _ p)⟩
  have k91 : ∀ y : Int32, lx_X9_isDone 298 (tf_Cd 298 (d + 7)) Q 91 [.ref 270, .long w, tf_z, .int (nI N), .int b, .int c, tf_z] [.int y, .int 6, .int (nI N), .ref 270] h := by
    intro y
    refine go_X9_isDone_91 (by decide) (sp_ida (d := d + 2) (w := 6) G (Or.inr (Or.inl ⟨rfl, rfl⟩)) _ (fun v g p => ?_))
    obtain ⟨⟨b9, rfl⟩, p2⟩ := id p
    exact go_X9_isDone_95 (by decide) ⟨bI_nar _, q _ g (up _ _ p)⟩
  have k74 : lx_X9_isDone 298 (tf_Cd 298 (d + 7)) Q 74 [.ref 270, .long w, tf_z, .int (nI N), .int b, .int c, tf_z] [] h := go_X9_isDone_74 (by decide) ⟨fun _ => k91 _, fun _ => go_X9_isDone_90 (by decide) (k91 _)⟩
  have k58 : lx_X9_isDone 298 (tf_Cd 298 (d + 7)) Q 58 [.ref 270, .long w, tf_z, .int (nI N), .int b, .int c, tf_z] [] h := go_X9_isDone_58 (by decide) ⟨fun _ => k74, fun _ => ⟨fun _ => k74, fun _ => k96⟩⟩
  have k22 : lx_X9_isDone 298 (tf_Cd 298 (d + 7)) Q 22 [.ref 270, .long w, tf_z, .int (nI N), .int b, .int c, tf_z] [] h := by
    refine go_X9_isDone_22 (by decide) ⟨fun _ => sx_rcs (d := d + 3) G.1 _ _ _ _ (go_X9_isDone_39 (by decide) ⟨fun _ => go_X9_isDone_55 (by decide) ⟨bI_nar _, q _ h (up _ _ ⟨⟨_, rfl⟩, G, FD.rf⟩)⟩, fun z => ?_⟩), fun _ => k58⟩
    rw [bI_0, Bool.not_eq_false] at z
    exact sp_shifts (d := d + 3) G z _ (fun _ g p => go_X9_isDone_55 (by decide) ⟨bI_nar _, q _ g (up _ _ ⟨⟨_, rfl⟩, p.1, FD.o p.2.1 p.2.2⟩)⟩)
  refine en_X9_isDone (by decide) (go_X9_isDone_0 (by decide) ⟨fun _ => sp_pt (d := d) (N := N) (by omega) (by omega) G _ (fun v g p => ?_), fun _ => k22⟩)
  obtain ⟨x, rfl, G2, F2⟩ := p
  exact go_X9_isDone_13 (by decide) ⟨fun _ => go_X9_isDone_20 (by decide) (go_X9_isDone_21 (by decide) ⟨rfl, q _ g ⟨⟨false, rfl⟩, G2.mono (by omega), F2.fd⟩⟩), fun _ => go_X9_isDone_21 (by decide) ⟨rfl, q _ g ⟨⟨true, rfl⟩, G2.mono (by omega), F2.fd⟩⟩⟩
theorem wr_L {o : Nat} (hM : M ≤ 17000000) (ho : o ≤ 80) (e23 : h.1 270 23 = nI o) (N : NBo h o) {x1 : Int32} {Q : tf_Q} (q : ∀ (x : Int32) (g : LH), GI g n k (M + 8000) → FD h g → lx_X9_work 298 (tf_Cd 298 10) Q 127 [.ref 270, .int x1, .int x] [] g) : ∀ (f i : Nat) (g : LH), i + f = o → GI g n k (M + 100 * i) → FD h g → lx_X9_work 298 (tf_Cd 298 10) Q 72 [.ref 270, .int x1, .int (nI i)] [] g
  | 0, i, g, hf, G, F => go_X9_work_72 (by decide) ⟨fun _ => q _ g (G.mono (by omega)) F, fun c => absurd (by rw [F.2.1 23 (by decide) (by decide), e23]; exact nI_le (by omega) (by omega)) c⟩
  | f + 1, i, g, hf, G, F => by
    have e4 : (4 : Int32) * nI i = nI (4 * i) := by rw [show (4 : Int32) = nI 4 from rfl, nI_mul]
    have e41 : nI (4 * i) + 1 = nI (4 * i + 1) := nI_1 _
    have e42 : nI (4 * i) + 2 = nI (4 * i + 2) := nI_add _ 2
    refine go_X9_work_72 (by decide) ⟨fun c => absurd (by rw [F.2.1 23 (by decide) (by decide), e23] at c; exact c) (nI_ge (by omega) (by omega)), fun _ => ?_⟩
    rw [e4, e41, e42]
    refine ⟨vi_of (by omega) (by omega), vi_of (by omega) (by omega), vi_of (by omega) (by omega), vi_of (by omega) (by omega), sp_id (d := 2) G (by omega) ?_ _ (fun v g2 p => ?_)⟩
    · rw [nI_clamp (by omega), F.1 280 (by decide) (by decide) (by decide)]
      exact N i (by omega) 0 (by decide)
    · obtain ⟨⟨b, rfl⟩, G2, F2⟩ := p
      refine go_X9_work_118 (by decide) ⟨fun _ => q _ g2 (G2.mono (by omega)) (F.tr F2), fun _ => ?_⟩
      rw [nI_1]
      exact wr_L hM ho e23 N q f (i + 1) g2 (by omega) (G2.mono (by omega)) (F.tr F2)
theorem rq_work (R : RI h M) (hM : M ≤ 17000000) : tf_Sp 11 69 [.ref 270] h (fun v g => (∃ x, v = .int x) ∧ LYd h g (M + 8000)) := by
  intro Q q
  obtain ⟨⟨n, k, GIh⟩, U, I, ⟨L, hL, es⟩, Rd⟩ := R
  have a0 : ∀ e, e ≠ 270 → (w1 h 270 0 0).1 e = h.1 e := fun e he => w1_ne he
  refine en_X9_work (by decide) (go_X9_work_0 (by decide) (sp_alO (d := 3) (h := w1 h 270 0 0) hL (by rw [a0 271 (by decide)]; exact es) (Rd.same (a0 275 (by decide))) _ (fun v g2 p2 => ?_)))
  obtain ⟨F2, R2, p2⟩ := p2
  have lo2 : ∀ e, e < 275 → e ≠ 270 → e ≠ 271 → g2.1 e = h.1 e := fun e h1 h2 h3 => (F2.1 e h1 h2 h3).trans (a0 e h2)
  have row2 : ∀ ix, ix ≠ 170 → g2.1 271 ix = h.1 271 ix := fun ix hx => by rw [F2.2.1 ix hx, a0 271 (by decide)]
  have e25 : g2.1 270 5 = h.1 270 5 := F2.2.2.2.trans (w1_at (by decide))
  have rI : ∀ y z : Int32, (∀ ix, ix ≠ 170 → ix ≠ 171 → ix ≠ 172 → (isf g2 y z).1 271 ix = h.1 271 ix) ∧ (∀ e, e ≠ 271 → (isf g2 y z).1 e = g2.1 e) ∧ (isf g2 y z).1 271 170 = nI 0 ∧ (isf g2 y z).1 271 171 = y := by
    intro y z
    refine ⟨fun ix h1 h2 h3 => by unfold isf; rw [w1_at h3, w1_at h2]; exact row2 ix h1, fun e he => by unfold isf; rw [w1_ne he, w1_ne he], ?_, ?_⟩
    · unfold isf
      rw [w1_at (by decide), w1_at (by decide)]
      exact F2.2.2.1
    · unfold isf
      rw [w1_at (by decide), w1_eq]
  have eno : ∀ x1 y z : Int32, y ≠ 0 → lx_X9_work 298 (tf_Cd 298 10) Q 51 [.ref 270, .int x1, tf_z] [] (isf g2 y z) := by
    intro x1 y z hy
    obtain ⟨r0, rl, s0, s1⟩ := rI y z
    refine go_X9_work_51 (by decide) ⟨fun c => absurd (s1.symm.trans c) hy, fun _ => q _ _ ⟨⟨_, rfl⟩, ⟨⟨n, k, (GIh.mono (by omega)).cong (fun i hi => r0 i (by omega) (by omega) (by omega))⟩, (U.mono (by omega)).same (by rw [rl 270 (by decide)]; exact e25) (by rw [rl 274 (by decide)]; exact lo2 274 (by decide) (by decide) (by decide)), I.mv (by omega) (fun ix h1 h2 => r0 ix (by omega) (by omega) (by omega)) (by rw [rl 273 (by decide)]; exact lo2 273 (by decide) (by decide) (by decide)), ⟨0, by omega, s0⟩, R2.same (rl 275 (by decide))⟩, fun e he => by rw [rl e (by omega)]; exact lo2 e (by omega) (by omega) (by omega), s0, fun ix h1 h2 => r0 ix (by omega) (by omega) (by omega), by rw [rl 273 (by decide)]; exact lo2 273 (by decide) (by decide) (by decide), by rw [rl 272 (by decide)]; exact lo2 272 (by decide) (by decide) (by decide)⟩⟩
  have k48 : ∀ x1 y z : Int32, (y ≠ 0 ∨ ∃ o, o ≤ 80 ∧ g2.1 270 23 = nI o ∧ NBo g2 o) → lx_X9_work 298 (tf_Cd 298 10) Q 48 [.ref 270, .int x1, tf_z] [.int z, .int y, .ref 270] g2 := by
    intro x1 y z hy
    refine go_X9_work_48 (by decide) (sx_isf (d := 9) _ _ _ ?_)
    by_cases y0 : y = 0
    · obtain ⟨o, ho, e23, N⟩ := hy.resolve_left (fun z => z y0)
      obtain ⟨r0, rl, s0, s1⟩ := rI y z
      refine go_X9_work_51 (by decide) ⟨fun _ => go_X9_work_64 (by decide) ?_, fun c => absurd (s1.trans y0) c⟩
      generalize isf g2 y z = g5 at r0 rl s0 s1
      have G5 : GI g5 n k M := GIh.cong (fun i hi => r0 i (by omega) (by omega) (by omega))
      refine sp_cp (d := 9) (a := 0) (b := 4) (by omega) (by omega) (by omega) _ (fun _ g6 p6 => go_X9_work_70 (by decide) ?_)
      obtain ⟨c1, -, c3, c4⟩ := p6
      have G6 : GI g6 n k M := G5.cong (fun i hi => c4 i (by omega))
      have S6 : GI (sl g6 271 (173 * 4)) n k M := G5.cong (fun i hi => by rw [sl_at, c3 i (by omega), Nat.mul_zero, Nat.zero_add])
      have e6 : g6.1 270 23 = nI o := by rw [c1 270 (by decide), rl 270 (by decide)]; exact e23
      have N6 : NBo g6 o := N.same (by rw [c1 280 (by decide), rl 280 (by decide)])
      have fin : ∀ (x : Int32) (g8 : LH), GI g8 n k (M + 8000) → (∀ e, e < 276 → e ≠ 270 → e ≠ 271 → e ≠ 274 → g8.1 e = g6.1 e) → (∀ ix, 170 ≤ ix → g8.1 271 ix = g6.1 271 ix) → RU g8 (M + 8000) → lx_X9_work 298 (tf_Cd 298 10) Q 136 [.ref 270, .int x1, .int x] [] g8 := by
        intro x g8 G8 f8 x8 U8
        have lo8 : ∀ e, e < 275 → e ≠ 270 → e ≠ 271 → e ≠ 274 → g8.1 e = h.1 e := fun e h1 h2 h3 h4 => by rw [f8 e (by omega) h2 h3 h4, c1 e h3, rl e h3]; exact lo2 e h1 h2 h3
        have r8 : ∀ ix, 173 ≤ ix → ix < 692 → g8.1 271 ix = h.1 271 ix := fun ix h1 h2 => by rw [x8 ix (by omega), c4 ix (by omega)]; exact r0 ix (by omega) (by omega) (by omega)
        have s8 : g8.1 271 170 = nI 0 := by rw [x8 170 (by omega), c4 170 (by omega)]; exact s0
        exact go_X9_work_136 (by decide) (q _ g8 ⟨⟨_, rfl⟩, ⟨⟨n, k, G8⟩, U8, I.mv (by omega) r8 (lo8 273 (by decide) (by decide) (by decide) (by decide)), ⟨0, by omega, s8⟩, R2.same (by rw [f8 275 (by decide) (by decide) (by decide) (by decide), c1 275 (by decide), rl 275 (by decide)])⟩, fun e he => lo8 e (by omega) (by omega) (by omega) (by omega), s8, r8, lo8 273 (by decide) (by decide) (by decide) (by decide), lo8 272 (by decide) (by decide) (by decide) (by decide)⟩)
      have U6 : RU g6 M := U.same (by rw [c1 270 (by decide), rl 270 (by decide)]; exact e25) (by rw [c1 274 (by decide), rl 274 (by decide)]; exact lo2 274 (by decide) (by decide) (by decide))
      refine wr_L hM ho e6 N6 (fun x g7 G7 F7 => ?_) o 0 g6 (by omega) (G6.mono (by omega)) FD.rf
      have U7 : RU g7 (M + 8000) := (U6.mono (by omega)).same (F7.2.1 5 (by decide) (by decide)) (F7.1 274 (by decide) (by decide) (by decide))
      have S7 : GI (sl g7 271 (173 * 4)) n k (M + 8000) := (S6.mono (by omega)).sl_sl (fun i hi => F7.2.2 _ (by omega))
      refine go_X9_work_127 (by decide) ⟨fun _ => fin x g7 G7 (fun e h1 h2 h3 _ => F7.1 e h2 h3 (by omega)) F7.2.2 U7, fun _ => sp_keeps (d := 9) (s := 4) (by omega) U7 S7 _ (fun _ g8 p8 => ?_)⟩
      refine fin x g8 (G7.cong (fun i _ => by rw [p8.2.1 271 (by decide) (by decide)])) (fun e h1 h2 h3 h4 => by rw [p8.2.1 e h4 h2]; exact F7.1 e h2 h3 (by omega)) (fun ix hx => by rw [p8.2.1 271 (by decide) (by decide)]; exact F7.2.2 ix hx) p8.1
    · exact eno x1 y z y0
  have k33 : ∀ x1 y : Int32, (y ≠ 0 ∨ ∃ o, o ≤ 80 ∧ g2.1 270 23 = nI o ∧ NBo g2 o) → lx_X9_work 298 (tf_Cd 298 10) Q 33 [.ref 270, .int x1, tf_z] [.int y, .ref 270] g2 := fun x1 y hy => go_X9_work_33 (by decide) ⟨fun _ => k48 x1 y _ hy, fun _ => go_X9_work_44 (by decide) (k48 x1 y _ hy)⟩
  rcases p2 with rfl | ⟨rfl, p2⟩
  · exact go_X9_work_10 (by decide) ⟨fun _ => k33 _ 1 (Or.inl (by decide)), fun z => absurd rfl z⟩
  · exact go_X9_work_10 (by decide) ⟨fun z => absurd z (by decide), fun _ => go_X9_work_20 (by decide) ⟨fun _ => go_X9_work_32 (by decide) (k33 _ 0 (Or.inr p2)), fun _ => k33 _ 2 (Or.inl (by decide))⟩⟩
end RWL
