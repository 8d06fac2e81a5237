/-! ===== the class's script: lines are read, and looked over ===== -/
section SC2
variable {h g : LH} {d : Nat}
/-- only the script's own cells changed -/
def FS (h g : LH) : Prop := (∀ e, ¬ (259 ≤ e ∧ e ≤ 264) → g.1 e = h.1 e) ∧ g.2 = h.2
theorem FS.rf : FS h h := ⟨fun _ _ => rfl, rfl⟩
theorem FS.tr {f : LH} (x : FS h g) (y : FS g f) : FS h f := ⟨fun e he => (y.1 e he).trans (x.1 e he), y.2.trans x.2⟩
theorem FS.w {c i : Nat} {v : Int32} (hc : 259 ≤ c ∧ c ≤ 264) : FS h (w1 h c i v) := ⟨fun e he => w1_ne (fun z => he (by rw [z]; exact hc)), rfl⟩
theorem FK.fs (F : FK h g) : FS h g := ⟨fun e he => F.1 e (fun z => he (by rw [z]; decide)), F.2.1⟩
/-- the first lines' words are verbs -/
def VB (h : LH) (c : Nat) : Prop := ∀ i, i < c → vp_in (h.1 260 i) 15
theorem VB.same {c : Nat} (V : VB h c) (e : g.1 260 = h.1 260) : VB g c := fun i hi => by rw [e]; exact V i hi
theorem VB.mono {c c2 : Nat} (V : VB h c) (hc : c2 ≤ c) : VB h c2 := fun i hi => V i (by omega)
theorem TK.w {l c i : Nat} {v : Int32} (T : TK h l) (hc : 260 ≤ c) : TK (w1 h c i v) l := by
  obtain ⟨hl, e1, tp, te, h1, h2, e9, e10⟩ := T
  exact ⟨hl, by rw [w1_ne (by omega)]; exact e1, tp, te, h1, h2, by rw [w1_ne (by omega)]; exact e9, by rw [w1_ne (by omega)]; exact e10⟩
theorem TK.w0 {l i : Nat} {v : Int32} (T : TK h l) (hi : i < 8) : TK (w1 h 259 i v) l := by
  obtain ⟨hl, e1, tp, te, h1, h2, e9, e10⟩ := T
  exact ⟨hl, by rw [w1_ne (by decide)]; exact e1, tp, te, h1, h2, by rw [w1_at (by omega)]; exact e9, by rw [w1_at (by omega)]; exact e10⟩
/-- a line is being read -/
def RLn (h g : LH) (l c : Nat) : Prop := FS h g ∧ TK g l ∧ g.1 259 0 = nI c ∧ VB g (c + 1)
theorem RLn.fk {g2 : LH} {l c : Nat} (R : RLn h g l c) (T : TK g2 l) (F : FK g g2) : RLn h g2 l c := ⟨R.1.tr F.fs, T, (F.2.2 0 (by decide)).trans R.2.2.1, R.2.2.2.same (F.1 260 (by decide))⟩
theorem RLn.w {l c e i : Nat} {v : Int32} (R : RLn h g l c) (he : e = 262 ∨ e = 263) : RLn h (w1 g e i v) l c := ⟨R.1.tr (FS.w (by omega)), R.2.1.w (by omega), by rw [w1_ne (by omega)]; exact R.2.2.1, R.2.2.2.same (w1_ne (by omega))⟩
theorem tv_ar : ∀ i, i < 15 → tv_g.getD i 0 ≤ nI 4 ∧ tv_o.getD i 0 ≤ nI 4 := by decide +kernel
theorem rl_L {l c v : Nat} {x2 : Int32} (hc : c < 80) (hv : v < 15) {Q : tf_Q} (q : ∀ (x : Int32) (g : LH) (c2 : Nat), FS h g → TK g l → c2 ≤ 80 → g.1 259 0 = nI c2 → VB g c2 → Q (.int x) g) : ∀ (f j : Nat) (g : LH) (x5 : Value), j + f = 4 → RLn h g l c → lx_X4_readLine (d + 5) (tf_Cd 298 (d + 5)) Q 65 [.ref 259, .ref 251, .int x2, .ref (400 + v), .int (nI j), x5] [] g := by
  intro f
  induction f with
  | zero =>
    intro j g x5 hf R
    obtain ⟨F, T, e0, V⟩ := id R
    have le4 : (if x2 = (0 : Int32) then tv_g.getD v 0 else tv_o.getD v 0) ≤ nI j := by
      have hj : j = 4 := by omega
      rw [hj]
      split
      · exact (tv_ar v hv).1
      · exact (tv_ar v hv).2
    refine go_X4_readLine_65 k251 ⟨hv, go_X4_readLine_72 k251 ⟨fun _ => go_X4_readLine_130 k251 ⟨fun _ => go_X4_readLine_140 k251 (T.ft (d := d + 3) _ (fun _ g2 p => go_X4_readLine_145 k251 ?_)), fun _ => q _ _ c F T (by omega) e0 (V.mono (by omega))⟩, fun z => absurd le4 z⟩⟩
    have R2 := R.fk p.1 p.2
    rw [R2.2.2.1, nI_1]
    exact q _ (w1 g2 259 0 (nI (c + 1))) (c + 1) (R2.1.tr (FS.w (by decide))) (R2.2.1.w0 (by decide)) (by omega) w1_eq (R2.2.2.2.same (w1_ne (by decide)))
  | succ f ih =>
    intro j g x5 hf R
    obtain ⟨F, T, e0, V⟩ := id R
    have stop : lx_X4_readLine (d + 5) (tf_Cd 298 (d + 5)) Q 130 [.ref 259, .ref 251, .int x2, .ref (400 + v), .int (nI j), x5] [] g := by
      refine go_X4_readLine_130 k251 ⟨fun _ => go_X4_readLine_140 k251 (T.ft (d := d + 3) _ (fun _ g2 p => go_X4_readLine_145 k251 ?_)), fun _ => q _ _ c F T (by omega) e0 (V.mono (by omega))⟩
      have R2 := R.fk p.1 p.2
      rw [R2.2.2.1, nI_1]
      exact q _ (w1 g2 259 0 (nI (c + 1))) (c + 1) (R2.1.tr (FS.w (by decide))) (R2.2.1.w0 (by decide)) (by omega) w1_eq (R2.2.2.2.same (w1_ne (by decide)))
    refine go_X4_readLine_65 k251 ⟨hv, go_X4_readLine_72 k251 ⟨fun _ => stop, fun _ => ⟨fun _ => go_X4_readLine_85 k251 ((pv_nh (d := d + 4) T).c fun x => ?_), fun _ => q _ _ c F T (by omega) e0 (V.mono (by omega))⟩⟩⟩
    have ix : (g.1 259 0) * 4 + nI j = nI (c * 4 + j) := by
      rw [e0, show (4 : Int32) = nI 4 from rfl, nI_mul, nI_add]
    rw [ix]
    have vx : vp_in (nI (c * 4 + j)) 320 := vi_of (by omega) (by omega)
    refine go_X4_readLine_107 k251 (show tf_K 262 = 8 by decide) (show tf_N 262 = 320 by decide) (by decide) ⟨vx, vx, ?_⟩
    have R2 : RLn h (w1 (w1 g 262 (nI (c * 4 + j)).toNatClampNeg x) 263 (nI (c * 4 + j)).toNatClampNeg ((w1 g 262 (nI (c * 4 + j)).toNatClampNeg x).1 259 9)) l c := (R.w (Or.inl rfl)).w (Or.inr rfl)
    refine R2.2.1.ft (d := d + 3) _ (fun _ g2 p => go_X4_readLine_124 k251 ?_)
    rw [nI_1]
    exact ih (j + 1) g2 _ (by omega) (R2.fk p.1 p.2)
theorem sp_rl {l c : Nat} (T : TK h l) (hc : c ≤ 80) (e0 : h.1 259 0 = nI c) (V : VB h c) (x2 : Int32) : tf_Sp (d + 6) 223 [.ref 259, .ref 251, .int x2] h (fun v g => (∃ x, v = .int x) ∧ FS h g ∧ TK g l ∧ ∃ c2, c2 ≤ 80 ∧ g.1 259 0 = nI c2 ∧ VB g c2) := by
  intro Q q
  have q0 : Q (.int 0) h := q _ _ ⟨⟨0, rfl⟩, FS.rf, T, c, hc, e0, V⟩
  refine en_X4_readLine k251 (go_X4_readLine_0 k251 ⟨fun _ => sp_vh (d := d) T x2 _ (fun v g p => ?_), fun _ => go_X4_readLine_17 k251 (go_X4_readLine_18N (go_X4_readLine_32N q0))⟩)
  obtain ⟨hv, rfl⟩ := p
  rcases hv with rfl | ⟨v, hv, rfl⟩
  · exact go_X4_readLine_14N (go_X4_readLine_18N (go_X4_readLine_32N q0))
  · refine go_X4_readLine_14 k251 (go_X4_readLine_18R ⟨fun c1 => ?_, fun _ => go_X4_readLine_32 k251 q0⟩)
    have c80 : c < 80 := by
      rw [e0] at c1
      have c2 : nI c < nI 80 := c1
      rw [nI_ltI (by omega) (by omega)] at c2
      exact c2
    have vc : vp_in (g.1 259 0) 80 := by rw [e0]; exact vi_of c80 (by omega)
    have cc9 : (g.1 259 0).toNatClampNeg = c := by rw [e0]; exact nI_clamp (by omega)
    have a0 : (w1 g 260 (g.1 259 0).toNatClampNeg (nI v)).1 259 = g.1 259 := w1_ne (by decide)
    refine go_X4_readLine_34 k251 ⟨⟨vc, hv⟩, (show vp_in ((w1 g 260 (g.1 259 0).toNatClampNeg (nI v)).1 259 0) 80 by rw [a0]; exact vc), ?_⟩
    have R : RLn g (w1 (w1 g 260 (g.1 259 0).toNatClampNeg (nI v)) 261 ((w1 g 260 (g.1 259 0).toNatClampNeg (nI v)).1 259 0).toNatClampNeg ((w1 g 260 (g.1 259 0).toNatClampNeg (nI v)).1 259 9)) l c := by
      refine ⟨(FS.w (by decide)).tr (FS.w (by decide)), (T.w (by decide)).w (by decide), by rw [w1_ne (by decide), a0]; exact e0, fun i hi => ?_⟩
      rw [w1_ne (by decide), cc9]
      by_cases hic : i = c
      · rw [hic, w1_eq]
        exact vi_of hv (by omega)
      · rw [w1_at hic]
        exact V i (by omega)
    refine R.2.1.ft (d := d + 3) _ (fun _ g2 p => go_X4_readLine_62 k251 ?_)
    exact rl_L c80 hv (fun x g3 c2 F T2 h1 h2 V2 => q _ _ ⟨⟨x, rfl⟩, F, T2, c2, h1, h2, V2⟩) 4 0 g2 _ (by omega) (R.fk p.1 p.2)
/-! faults -/
def bl (h : LH) (x1 x2 : Int32) : LH := if h.1 259 1 = 0 then w1 (w1 h 259 1 x1) 259 2 x2 else h
theorem sx_bl (x1 x2 : Int32) : tf_Rt (d + 1) 224 [.ref 259, .int x1, .int x2] h tf_z (bl h x1 x2) := by
  intro Q q
  refine en_X4_blame (go_X4_blame_0 ⟨fun c => go_X4_blame_17 ?_, fun c => go_X4_blame_17 ?_⟩)
  · rw [bl, if_pos c] at q
    exact q
  · rw [bl, if_neg c] at q
    exact q
/-- only the fault changed -/
def FL (h g : LH) : Prop := (∀ e, e ≠ 259 → g.1 e = h.1 e) ∧ g.2 = h.2 ∧ ∀ j, j ≠ 1 → j ≠ 2 → g.1 259 j = h.1 259 j
theorem FL.rf : FL h h := ⟨fun _ _ => rfl, rfl, fun _ _ _ => rfl⟩
theorem FL.tr {f : LH} (x : FL h g) (y : FL g f) : FL h f := ⟨fun e he => (y.1 e he).trans (x.1 e he), y.2.1.trans x.2.1, fun j h1 h2 => (y.2.2 j h1 h2).trans (x.2.2 j h1 h2)⟩
theorem FL.fs (F : FL h g) : FS h g := ⟨fun e he => F.1 e (fun z => he (by rw [z]; decide)), F.2.1⟩
theorem bl_fl {x1 x2 : Int32} : FL h (bl h x1 x2) := by
  unfold bl
  split
  · exact ⟨fun e he => by rw [w1_ne he, w1_ne he], rfl, fun j h1 h2 => by rw [w1_at h2, w1_at h1]⟩
  · exact FL.rf
theorem bl_ne {x1 x2 : Int32} (hx : x1 ≠ 0) : (bl h x1 x2).1 259 1 ≠ 0 := by
  unfold bl
  split
  · rw [w1_at (by decide), w1_eq]
    exact hx
  · rename_i c
    exact c
/-- read: the lines that were read -/
theorem rd_L {l : Nat} {x2 : Int32} {Q : tf_Q} (q : ∀ (g : LH) (c : Nat), FS h g → c ≤ 80 → g.1 259 0 = nI c → VB g c → Q tf_z g) : ∀ (f i : Nat) (g : LH) (c : Nat) (x3 : Int32), i + f = 80 → FS h g → TK g l → c ≤ 80 → g.1 259 0 = nI c → VB g c → lx_X4_read (d + 6) (tf_Cd 298 (d + 6)) Q 30 [.ref 259, .ref 251, .int x2, .int x3, .int (nI i)] [] g := by
  have k61 : ∀ (i : Nat) (g : LH) (c : Nat) (x3 : Int32), FS h g → c ≤ 80 → g.1 259 0 = nI c → VB g c → lx_X4_read (d + 6) (tf_Cd 298 (d + 6)) Q 61 [.ref 259, .ref 251, .int x2, .int x3, .int (nI i)] [] g := by
    intro i g c x3 F hc e0 V
    have k72 : lx_X4_read (d + 6) (tf_Cd 298 (d + 6)) Q 72 [.ref 259, .ref 251, .int x2, .int x3, .int (nI i)] [] g := by
      refine go_X4_read_72 k251 (sx_bl (d := d + 5) _ _ _ (go_X4_read_81 k251 ?_))
      have B := bl_fl (h := g) (x1 := 1) (x2 := g.1 259 9)
      exact q _ c (F.tr B.fs) hc ((B.2.2 0 (by decide) (by decide)).trans e0) (V.same (B.1 260 (by decide)))
    exact go_X4_read_61 k251 ⟨fun _ => k72, fun _ => ⟨fun _ => go_X4_read_81 k251 (q g c F hc e0 V), fun _ => k72⟩⟩
  intro f
  induction f with
  | zero =>
    intro i g c x3 hf F T hc e0 V
    exact go_X4_read_30 k251 ⟨fun _ => k61 i g c x3 F hc e0 V, fun z => absurd (show nI 80 ≤ nI i from nI_le (by omega) (by omega)) z⟩
  | succ f ih =>
    intro i g c x3 hf F T hc e0 V
    refine go_X4_read_30 k251 ⟨fun _ => k61 i g c x3 F hc e0 V, fun _ => ⟨fun _ => k61 i g c x3 F hc e0 V, fun _ => ⟨fun _ => k61 i g c x3 F hc e0 V, fun _ => sp_rl (d := d) T hc e0 V x2 _ (fun v g2 p => ?_)⟩⟩⟩
    obtain ⟨⟨x, rfl⟩, F2, T2, c2, hc2, e2, V2⟩ := p
    refine go_X4_read_54 k251 ?_
    rw [nI_1]
    exact ih (i + 1) g2 c2 x (by omega) (F.tr F2) T2 hc2 e2 V2
theorem sp_rd {l : Nat} (hl : l ≤ 400) (e1 : h.1 251 1 = nI l) (x2 : Int32) : tf_Sp (d + 7) 222 [.ref 259, .ref 251, .int x2] h (fun _ g => FS h g ∧ ∃ c, c ≤ 80 ∧ g.1 259 0 = nI c ∧ VB g c) := by
  intro Q q
  refine en_X4_read k251 (go_X4_read_0 k251 ?_)
  have F1 : FS h (w1 (w1 (w1 (w1 h 259 0 0) 259 1 0) 259 2 (-1)) 259 10 0) := (((FS.w (by decide)).tr (FS.w (by decide))).tr (FS.w (by decide))).tr (FS.w (by decide))
  have a1 : (w1 (w1 (w1 (w1 h 259 0 0) 259 1 0) 259 2 (-1)) 259 10 0).1 251 1 = nI l := by rw [w1_ne (by decide), w1_ne (by decide), w1_ne (by decide), w1_ne (by decide)]; exact e1
  have a0 : (w1 (w1 (w1 (w1 h 259 0 0) 259 1 0) 259 2 (-1)) 259 10 0).1 259 0 = nI 0 := by rw [w1_at (by decide), w1_at (by decide), w1_at (by decide), w1_eq]; rfl
  refine sp_ft (d := d + 4) (a := 0) hl a1 (Nat.zero_le _) w1_eq _ (fun _ g p => go_X4_read_25 k251 ?_)
  exact rd_L (l := l) (fun g2 c F hc e0 V => q _ g2 ⟨F, c, hc, e0, V⟩) 80 0 g 0 1 (by omega) (F1.tr p.2.fs) p.1 (by omega) ((p.2.2.2 0 (by decide)).trans a0) (fun i hi => absurd hi (by omega))
end SC2
