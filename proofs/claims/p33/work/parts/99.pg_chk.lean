/-! ===== what the class finds at fault in a grid's text ===== -/
def fp (g : LH) : Int32 × Int32 := (g.1 259 1, g.1 259 2)
/-- the first fault counts -/
def bm (s : Int32 × Int32) (k p : Int32) : Int32 × Int32 := if s.1 = 0 then (k, p) else s
def px_no (L : px_L) (i : Nat) : Int32 × Nat := L.2.2.getD i (0, 0)
def px_wt (L : px_L) (i : Nat) (lo hi k : Int32) (s : Int32 × Int32) : Int32 × Int32 := if (px_no L i).1 < lo ∨ ¬ (px_no L i).1 ≤ hi then bm s k (nI (px_no L i).2) else s
def px_gl (L : px_L) (t : Nat) (s : Int32 × Int32) : Int32 × Int32 :=
  if L.1 = 0 then px_wt L 0 2 7 2 s
  else if L.1 = 1 ∨ L.1 = 2 then (if (px_no L 0).1 = (px_no L 1).1 then bm (px_wt L 1 0 6 2 (px_wt L 0 0 6 2 (if t = 14 then bm s 2 (nI L.2.1) else s))) 2 (nI (px_no L 1).2) else px_wt L 1 0 6 2 (px_wt L 0 0 6 2 (if t = 14 then bm s 2 (nI L.2.1) else s)))
  else if L.1 = 3 ∨ L.1 = 4 then px_wt L 0 0 6 2 s
  else if L.1 = 5 then px_wt L 0 0 (nI t - 1) 2 s
  else s
def px_ia (L : px_L) : Bool := decide (L.1 = 1) || decide (L.1 = 2)
def px_gs : List px_L → Nat → Int32 × Int32 → Int32 × Int32
  | [], _, s => s
  | L :: r, t, s => px_gs r (if px_ia L = true then t + 1 else t) (px_gl L t s)
def px_pt : List px_L → Int32 → Int32
  | [], x => x
  | L :: r, x => px_pt r (if L.1 = 0 then (px_no L 0).1 else x)
def px_ps (last : Int32) : List px_L → Int32 × Int32 → Int32 × Int32
  | [], s => s
  | L :: r, s => px_ps last r (if px_ia L = true then px_wt L 1 0 last 3 (px_wt L 0 0 last 3 s) else if L.1 = 3 ∨ L.1 = 4 then px_wt L 0 0 last 3 s else s)
section SX5
variable {h g : LH} {d : Nat}
theorem fp_bl {k p : Int32} : fp (bl h k p) = bm (fp h) k p := by
  unfold fp bl bm
  by_cases c : h.1 259 1 = 0
  · rw [if_pos c, if_pos c, w1_at (by decide), w1_eq, w1_eq]
  · rw [if_neg c, if_neg c]
theorem LnA.fl {n : Nat} {L : px_L} (A : LnA h n L) (F : FL h g) : LnA g n L := A.same (fun c h1 h2 => F.1 c (by omega))
theorem LnA.no {n i : Nat} {L : px_L} (A : LnA h n L) (hi : i < L.2.2.length) : nb h n i = (px_no L i).1 ∧ h.1 263 (n * 4 + i) = nI (px_no L i).2 := by
  have e : L.2.2[i]? = some (px_no L i) := by
    unfold px_no
    rw [List.getD_eq_getElem?_getD, List.getElem?_eq_getElem hi]
    rfl
  exact A.2.2 i _ e
theorem LnA.vb {n : Nat} {L : px_L} (A : LnA h n L) (hv : L.1 < 15) : vbn h n = L.1 := by
  unfold vbn
  rw [A.1]
  exact nI_clamp (by omega)
theorem sx_want {line i : Nat} {y low high kind : Int32} {L : px_L} (hl : line < 80) (A : LnA h line L) (hi : i < L.2.2.length) (h4 : i < 4) (hy : y = nI i) : tf_Sp (d + 2) 231 [.ref 259, .int (nI line), .int y, .int low, .int high, .int kind] h (fun _ g => FL h g ∧ fp g = px_wt L i low high kind (fp h)) := by
  intro Q q
  obtain ⟨a1, a2⟩ := A.no hi
  have k21 : ∀ x6 : Int32, ((px_no L i).1 < low ∨ ¬ (px_no L i).1 ≤ high) → lx_X4_want (d + 1) (tf_Cd 298 (d + 1)) Q 21 [.ref 259, .int (nI line), .int y, .int low, .int high, .int kind, .int x6] [] h := by
    intro x6 hc
    refine go_X4_want_21 ⟨?_, ?_⟩
    · rw [hy, nb_ix]
      exact vi_of (by omega) (by omega)
    · rw [hy, nb_ix, nI_clamp (by omega), a2]
      refine sx_bl (d := d) _ _ _ (go_X4_want_37 (q _ _ ⟨bl_fl, ?_⟩))
      rw [fp_bl, px_wt, if_pos hc]
  refine en_X4_want (go_X4_want_0 (sx_nb (d := d) hl h4 hy _ ?_))
  rw [a1]
  exact go_X4_want_6 ⟨fun c1 => k21 _ (Or.inl c1), fun c1 => ⟨fun c2 => go_X4_want_37 (q _ _ ⟨FL.rf, by rw [px_wt, if_neg (fun z => z.elim c1 (fun z => z c2))]⟩), fun c2 => k21 _ (Or.inr c2)⟩⟩
theorem px_gar : ∀ v, v < 15 → (v = 0 → 1 ≤ (tv_g.getD v 0).toNatClampNeg) ∧ (v = 1 ∨ v = 2 → 2 ≤ (tv_g.getD v 0).toNatClampNeg) ∧ (v = 3 ∨ v = 4 → 2 ≤ (tv_g.getD v 0).toNatClampNeg) ∧ (v = 5 → 1 ≤ (tv_g.getD v 0).toNatClampNeg) := by decide +kernel
/-- a line that stands there, of a grid's text -/
def LgA (h : LH) (n : Nat) (L : px_L) : Prop := LnA h n L ∧ L.1 < 15 ∧ L.2.2.length = (tv_g.getD L.1 0).toNatClampNeg
theorem LgA.fl {n : Nat} {L : px_L} (A : LgA h n L) (F : FL h g) : LgA g n L := ⟨A.1.fl F, A.2⟩
theorem sx_gl {line t : Nat} {L : px_L} (A : LgA h line L) (hl : line < 80) (ht : t ≤ 80) : tf_Sp (d + 3) 233 [.ref 259, .int (nI line), .int (nI t)] h (fun _ g => FL h g ∧ fp g = px_gl L t (fp h)) := by
  intro Q q
  obtain ⟨A, hv, hlen⟩ := A
  obtain ⟨r0, r1, r3, r5⟩ := px_gar L.1 hv
  have e : (nI line).toNatClampNeg = line := nI_clamp (by omega)
  have vl : vp_in (nI line) 80 := vi_of (by omega) (by omega)
  have vv : vp_in (h.1 260 (nI line).toNatClampNeg) 15 := by rw [e, A.1]; exact vi_of hv (by omega)
  have ev : (h.1 260 (nI line).toNatClampNeg).toNatClampNeg = L.1 := by rw [e]; exact A.vb hv
  have ix1 : (nI line * 4 + 1 : Int32) = nI (line * 4 + 1) := by rw [show (1 : Int32) = nI 1 from rfl, nb_ix]
  refine en_X4_checkGridLine (go_X4_checkGridLine_0 ⟨⟨vl, vv⟩, ?_⟩)
  rw [ev]
  obtain ⟨s1, s2, s3, s4, s5, s6, s0⟩ := tv_sg L.1 hv
  have cv : (nI L.1).toNatClampNeg = L.1 := nI_clamp (by omega)
  have karc : (L.1 = 1 ∨ L.1 = 2) → lx_X4_checkGridLine (d + 2) (tf_Cd 298 (d + 2)) Q 65 [.ref 259, .int (nI line), .int (nI t)] [] h := by
    intro hv1
    have ln := r1 hv1
    have eg : ∀ s, px_gl L t s = (if (px_no L 0).1 = (px_no L 1).1 then bm (px_wt L 1 0 6 2 (px_wt L 0 0 6 2 (if t = 14 then bm s 2 (nI L.2.1) else s))) 2 (nI (px_no L 1).2) else px_wt L 1 0 6 2 (px_wt L 0 0 6 2 (if t = 14 then bm s 2 (nI L.2.1) else s))) := fun s => by rw [px_gl, if_neg (by omega), if_pos hv1]
    have k82 : ∀ g : LH, FL h g → fp g = (if t = 14 then bm (fp h) 2 (nI L.2.1) else fp h) → lx_X4_checkGridLine (d + 2) (tf_Cd 298 (d + 2)) Q 82 [.ref 259, .int (nI line), .int (nI t)] [] g := by
      intro g F1 z1
      have A1 := A.fl F1
      refine go_X4_checkGridLine_82 (sx_want (d := d) (i := 0) hl A1 (by omega) (by decide) rfl _ (fun _ g2 p2 => go_X4_checkGridLine_92 ?_))
      have A2 := A1.fl p2.1
      refine sx_want (d := d) (i := 1) hl A2 (by omega) (by decide) rfl _ (fun _ g3 p3 => go_X4_checkGridLine_102 ?_)
      have A3 := A2.fl p3.1
      have F3 := (F1.tr p2.1).tr p3.1
      have f3 : fp g3 = px_wt L 1 0 6 2 (px_wt L 0 0 6 2 (if t = 14 then bm (fp h) 2 (nI L.2.1) else fp h)) := by rw [p3.2, p2.2, z1]
      refine sx_nb (d := d + 1) (i := 0) hl (by decide) rfl _ (go_X4_checkGridLine_108 (sx_nb (d := d + 1) (i := 1) hl (by decide) rfl _ ?_))
      rw [(A3.no (i := 0) (by omega)).1, (A3.no (i := 1) (by omega)).1]
      refine go_X4_checkGridLine_114 ⟨fun c1 => ⟨?_, ?_⟩, fun c1 => go_X4_checkGridLine_162 (q _ _ ⟨F3, by rw [eg, if_neg c1]; exact f3⟩)⟩
      · rw [ix1]
        exact vi_of (by omega) (by omega)
      · rw [ix1, nI_clamp (by omega), (A3.no (i := 1) (by omega)).2]
        refine sx_bl (d := d + 1) _ _ _ (go_X4_checkGridLine_132 (go_X4_checkGridLine_162 (q _ _ ⟨F3.tr bl_fl, ?_⟩)))
        rw [fp_bl, f3, eg, if_pos c1]
    refine go_X4_checkGridLine_65 ⟨fun c1 => ⟨vl, ?_⟩, fun c1 => k82 h FL.rf ?_⟩
    · have t14 : t = 14 := (nI_eq (a := t) (b := 14) (by omega) (by omega)).mp c1
      rw [e, A.2.1]
      exact sx_bl (d := d + 1) _ _ _ (k82 _ bl_fl (by rw [fp_bl, if_pos t14]))
    · rw [if_neg (fun z => c1 (by rw [z]; rfl))]
  have ksup : (L.1 = 3 ∨ L.1 = 4) → lx_X4_checkGridLine (d + 2) (tf_Cd 298 (d + 2)) Q 135 [.ref 259, .int (nI line), .int (nI t)] [] h := by
    intro hv3
    have ln := r3 hv3
    refine go_X4_checkGridLine_135 (sx_want (d := d) (i := 0) hl A (by omega) (by decide) rfl _ (fun _ g2 p2 => go_X4_checkGridLine_145 (go_X4_checkGridLine_162 (q _ _ ⟨p2.1, ?_⟩))))
    rw [p2.2, px_gl, if_neg (by omega), if_neg (by omega), if_pos hv3]
  refine go_X4_checkGridLine_12 ?_
  rw [cv]
  refine ⟨vi_of hv (by omega), fun c0 => go_X4_checkGridLine_162 (q _ _ ⟨FL.rf, ?_⟩), fun c0 => ?_, fun c0 => karc (Or.inl (s2 c0)), fun c0 => karc (Or.inr (s3 c0)), fun c0 => ksup (Or.inl (s4 c0)), fun c0 => ksup (Or.inr (s5 c0)), fun c0 => ?_, trivial⟩
  · have := s0 c0
    rw [px_gl, if_neg (by omega), if_neg (by omega), if_neg (by omega), if_neg (by omega)]
  · have v0 := s1 c0
    have ln := r0 v0
    refine go_X4_checkGridLine_52 (sx_want (d := d) (i := 0) hl A (by omega) (by decide) rfl _ (fun _ g2 p2 => go_X4_checkGridLine_62 (go_X4_checkGridLine_162 (q _ _ ⟨p2.1, ?_⟩))))
    rw [p2.2, px_gl, if_pos v0]
  · have v5 := s6 c0
    have ln := r5 v5
    refine go_X4_checkGridLine_148 (sx_want (d := d) (i := 0) hl A (by omega) (by decide) rfl _ (fun _ g2 p2 => go_X4_checkGridLine_159 (go_X4_checkGridLine_162 (q _ _ ⟨p2.1, ?_⟩))))
    rw [p2.2, px_gl, if_neg (by omega), if_neg (by omega), if_neg (by omega), if_pos v5]
end SX5
