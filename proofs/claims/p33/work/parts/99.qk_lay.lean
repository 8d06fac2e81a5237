/-! ===== lay of the class: the grid that it leaves ===== -/
section LYC
variable {h g : LH} {d M : Nat}
theorem fx_2 {l n : Nat} (hl : l ≤ 400) {Q : tf_Q} : ∀ (ls : List px_L) (i : Nat) (g : LH) (k : Nat) (s : px_S), LSg h i ls → h.1 259 0 = nI (i + ls.length) → i + ls.length ≤ 80 → VB h (i + ls.length) → AGr h (i + ls.length) → (∀ L, L ∈ ls → LnOK 0 l L) → NFl h g n k → FR g s → s.n ≤ 14 → (px_sS ls s).bad = -1 → (∀ (g2 : LH) (k2 : Nat), NFl h g2 n k2 → FR g2 (px_sS ls s) → g2.1 1 = g.1 1 → g2.1 0 0 = g.1 0 0 → Q tf_z g2) → lx_X4_fill (d + 2) (tf_Cd 298 (d + 2)) Q 38 [.ref 259, .ref 0, .int (nI i)] [] g
  | [], i, g, k, s, S, e0, h80, V, A, K, N, F, hn, hb, q => by
    have e0 : h.1 259 0 = nI i := e0
    exact go_X4_fill_38 k000 ⟨fun _ => go_X4_fill_58 k000 (q g k N F rfl rfl), fun c1 => absurd (by rw [N.cl (by decide), e0]; exact nI_le (by omega) (by simp only [List.length_nil] at h80; omega)) c1⟩
  | L :: r, i, g, k, s, S, e0, h80, V, A, K, N, F, hn, hb, q => by
    have hlen : (L :: r).length = r.length + 1 := rfl
    rw [hlen] at e0 h80 V A
    have i80 : i < 80 := by omega
    have b := sS_m1 hb
    have S1 := S.hd
    refine go_X4_fill_38 k000 ⟨fun c1 => absurd (by rw [N.cl (by decide), e0] at c1; exact c1) (nI_ge (by omega) (by omega)), fun _ => ((sp_fil (d := d) h80 (by omega) V A N).cj (sx_fil (d := d) hl i80 (K L (List.mem_cons_self ..)) S1.1 N F hn b)) _ (fun _ g2 p => go_X4_fill_52 k000 ?_)⟩
    obtain ⟨⟨k2, N2⟩, F2, o1, o0⟩ := p
    rw [nI_1]
    have e : i + (r.length + 1) = i + 1 + r.length := by omega
    rw [e] at e0 h80 V A
    refine fx_2 hl r (i + 1) g2 k2 _ S.tl e0 h80 V A (fun M hM => K M (List.mem_cons_of_mem _ hM)) N2 F2 (px_sl_n hn) (by rw [px_sS] at hb; exact hb) (fun g3 k3 N3 F3 u1 u0 => q g3 k3 N3 (by rw [px_sS]; exact F3) (u1.trans o1) (u0.trans o0))
theorem fx_1 {n : Nat} {Q : tf_Q} {s : px_S} : ∀ (f i : Nat) (g : LH) (k : Nat), i + f = n → NFl h g n k → FR g s → (∀ p, p < i → g.1 1 p = h.1 264 p) → (∀ (g2 : LH) (k2 : Nat) (x : Int32), NFl h g2 n k2 → FR g2 s → (∀ p, p < n → g2.1 1 p = h.1 264 p) → lx_X4_fill (d + 2) (tf_Cd 298 (d + 2)) Q 36 [.ref 259, .ref 0, .int x] [] g2) → lx_X4_fill (d + 2) (tf_Cd 298 (d + 2)) Q 10 [.ref 259, .ref 0, .int (nI i)] [] g
  | 0, i, g, k, hf, N, F, z, q => by
    have n7 := N.1.2.1.2.1
    exact go_X4_fill_10 k000 ⟨fun _ => q g k _ N F (fun p hp => z p (by omega)), fun c1 => absurd (by rw [N.1.2.2.1]; exact nI_le (by omega) (by omega)) c1⟩
  | f + 1, i, g, k, hf, N, F, z, q => by
    have n7 := N.1.2.1.2.1
    refine go_X4_fill_10 k000 ⟨fun c1 => absurd (by rw [N.1.2.2.1] at c1; exact c1) (nI_ge (by omega) (by omega)), fun _ => ⟨vi_of (by omega) (by omega), vi_of (by omega) (by omega), ?_⟩⟩
    rw [nI_1, nI_clamp (by omega)]
    refine fx_1 f (i + 1) (w1 g 1 i (g.1 264 i)) k (by omega) (N.w (by decide) (by decide) (by decide) (fun z => absurd z (by decide)) (fun z => absurd z (by decide)) (by decide) (by decide)) ?_ (fun p hp => ?_) q
    · obtain ⟨f1, f2, f3, f4⟩ := F
      refine ⟨by rw [w1_ne (by decide)]; exact f1, by rw [w1_ne (by decide)]; exact f2, fun a ha => ?_, f4⟩
      rw [w1_ne (by decide), w1_ne (by decide), w1_ne (by decide), w1_ne (by decide), w1_ne (by decide), w1_ne (by decide)]
      exact f3 a ha
    · by_cases pi : p = i
      · rw [pi, w1_eq, N.cl (by decide)]
      · rw [w1_at pi]
        exact z p (by omega)
theorem z7_lo {b : Nat} : ∀ (f p : Nat) (g : LH) (e : Nat), e ≠ b + 1 → (nt_z7 b f p g).1 e = g.1 e
  | 0, p, g, e, h => rfl
  | f + 1, p, g, e, h => by
    rw [nt_z7, z7_lo f (p + 1) _ e h, w1_ne h]
theorem sx_fi {l n k : Nat} {ls : List px_L} {s : px_S} (hl : l ≤ 400) (S : LSg h 0 ls) (e0 : h.1 259 0 = nI ls.length) (hc : ls.length ≤ 80) (V : VB h ls.length) (A : AGr h ls.length) (K : ∀ L, L ∈ ls → LnOK 0 l L) (H : NO h 0 n k) (Z : S0 s) (hb : (px_sS ls s).bad = -1) : tf_Sp (d + 3) 239 [.ref 259, .ref 0] h (fun _ g => ∃ m, 2 ≤ m ∧ m ≤ 7 ∧ (px_sS ls s).pts = nI m ∧ NFl h g m (px_sS ls s).n ∧ FR g (px_sS ls s) ∧ ∀ p, p < m → g.1 1 p = h.1 264 p) := by
  intro Q q
  obtain ⟨zb, zf, zp, zn, zr, zs, zt⟩ := Z
  obtain ⟨pe, m, m2, m7, em⟩ := pt_eq hl ls s K hb ⟨2, by omega, by omega, zp⟩
  rw [zp, em] at pe
  refine en_X4_fill k000 (go_X4_fill_0 k000 (sx_ptd (d := d) S e0 hc _ (go_X4_fill_5 k000 k000 ?_)))
  rw [pe]
  refine sx_clr (d := d + 1) (b := 0) k000 _ _ (go_X4_fill_8 k000 ?_)
  have N0 : NFl h (w1 (w1 (w1 h 0 0 (nI m)) 0 1 0) 0 2 0) m 0 := ⟨H.b0 m7 (by omega) (by rw [w1_at (by decide), w1_at (by decide), w1_eq]) (by rw [w1_at (by decide), w1_eq]; rfl) (by rw [w1_ne (by decide), w1_ne (by decide), w1_ne (by decide)]) (by rw [w1_ne (by decide), w1_ne (by decide), w1_ne (by decide)]) (by rw [w1_ne (by decide), w1_ne (by decide), w1_ne (by decide)]) (by rw [w1_ne (by decide), w1_ne (by decide), w1_ne (by decide)]), by rw [w1_ne (by decide), w1_ne (by decide), w1_ne (by decide)], fun e he => by rw [w1_ne (by omega), w1_ne (by omega), w1_ne (by omega)], rfl⟩
  have F0 : FR (nt_z7 0 7 0 (w1 (w1 (w1 h 0 0 (nI m)) 0 1 0) 0 2 0)) s := by
    refine ⟨?_, ?_, fun a ha => ?_, fun a _ ha => zt _ (by omega)⟩
    · rw [z7_lo 7 0 _ 0 (by decide), w1_at (by decide), w1_eq, zn]
      rfl
    · rw [z7_lo 7 0 _ 0 (by decide), w1_eq, zr]
    · rw [zn] at ha
      exact absurd ha (by omega)
  refine fx_1 m 0 _ 0 (by omega) (z7_ok 7 0 _ N0) F0 (fun p hp => absurd hp (by omega)) (fun g2 k2 x N2 F2 z2 => go_X4_fill_36 k000 ?_)
  refine fx_2 hl ls 0 g2 k2 s S (by rw [Nat.zero_add]; exact e0) (by omega) (by rw [Nat.zero_add]; exact V) (by rw [Nat.zero_add]; exact A) K N2 F2 (by rw [zn]; omega) hb (fun g3 k3 N3 F3 o1 o0 => q _ g3 ⟨m, m2, m7, em, ?_, F3, fun p hp => by rw [o1]; exact z2 p hp⟩)
  have e3 : k3 = (px_sS ls s).n := by
    have hk := (sS_n hl ls 0 s K (by omega) zn hb)
    exact (nI_eq (by have := N3.1.2.1.2.2; omega) (by omega)).mp (N3.1.2.2.2.1.symm.trans F3.1)
  rw [← e3]
  exact N3
/-- lay of the class: what it answers, the grid before it begins -/
theorem cy_lay {l : Nat} {s : px_S} (X : CI h M) (hl : l ≤ 400) (el : h.1 251 1 = nI l) (Z : S0 s) : tf_Sp 11 182 [.ref 240] h (fun v g => ((px_lay (h.1 252) l).1 ≠ 0 → v = .int (-1) ∧ ∀ e, e < 15 → g.1 e = h.1 e) ∧ ((px_lay (h.1 252) l).1 = 0 → v = .int (nI (px_sS (px_all (h.1 252) l 0 80 (px_p (h.1 252) l 0)).1 s).n) ∧ ∃ (g3 : LH) (m : Nat), 2 ≤ m ∧ m ≤ 7 ∧ (px_sS (px_all (h.1 252) l 0 80 (px_p (h.1 252) l 0)).1 s).pts = nI m ∧ NO g3 0 m (px_sS (px_all (h.1 252) l 0 80 (px_p (h.1 252) l 0)).1 s).n ∧ FR g3 (px_sS (px_all (h.1 252) l 0 80 (px_p (h.1 252) l 0)).1 s) ∧ (∀ p, p < m → g3.1 1 p = (px_sS (px_all (h.1 252) l 0 80 (px_p (h.1 252) l 0)).1 s).su p) ∧ (px_sS (px_all (h.1 252) l 0 80 (px_p (h.1 252) l 0)).1 s).bad = -1 ∧ (∀ e, e < 15 → g.1 e = (nt_tcl (nt_beg g3 0 m (px_sS (px_all (h.1 252) l 0 80 (px_p (h.1 252) l 0)).1 s).n 0) 11).1 e) ∧ g.1 240 9 = 0)) := by
  intro Q q
  obtain ⟨XAh, P⟩ := X
  have hp0 := (px_p_le (c := h.1 252) (l := l) (a := 0) (Nat.zero_le _)).2
  have K := px_all_ok (c := h.1 252) (l := l) (o := 0) 80 _ hp0
  have c80 := px_all_80 (c := h.1 252) (l := l) (o := 0) 80 (px_p (h.1 252) l 0)
  refine en_X8_lay (by decide) (go_X8_lay_0 (by decide) (sx_rd (d := 3) hl el 0 _ (fun _ g1 p1 => ?_)))
  obtain ⟨-, F1, S, W⟩ := p1
  have V := S.vb
  have Sg := S.sg
  have el1 : g1.1 251 1 = nI l := by rw [F1.1 251 (by decide)]; exact el
  have PL : px_lay (h.1 252) l = (match (px_all (h.1 252) l 0 80 (px_p (h.1 252) l 0)).2 with | some w => (1, nI w) | none => px_cg (px_all (h.1 252) l 0 80 (px_p (h.1 252) l 0)).1 (nI l) (0, -1)) := rfl
  rw [PL] at q
  generalize px_all (h.1 252) l 0 80 (px_p (h.1 252) l 0) = r at c80 V Sg W S q K
  obtain ⟨ls, w⟩ := r
  have no : ∀ (g : LH), FS h g → g.1 259 1 ≠ 0 → (match w with | some w => ((1 : Int32), nI w) | none => px_cg ls (nI l) (0, -1)).1 ≠ 0 → lx_X8_lay 298 (tf_Cd 298 10) Q 36 [.ref 240] [] g := by
    intro g F z y
    obtain ⟨L, L2, L3⟩ := tkf_lo (h := g)
    have s1 := sx_tkf (d := 9) (h := g)
    generalize tkf g = gt at L L2 L3 s1
    refine go_X8_lay_36 (by decide) (s1 _ (go_X8_lay_40 (by decide) ⟨fun c => absurd c (by rw [L 259 (by decide)]; exact z), fun _ => q _ gt ⟨fun _ => ⟨rfl, fun e he => by rw [L e (by omega), F.1 e (by omega)]⟩, fun c => absurd c y⟩⟩))
  refine go_X8_lay_12 (by decide) ⟨fun z => ?_, fun z => ?_⟩
  · cases w with
    | some w => exact absurd (W.1.symm.trans z) (by decide)
    | none =>
      rw [el1]
      refine sx_cg (d := 6) Sg S.1 c80 _ _ (fun _ g2 p2 => ?_)
      obtain ⟨G2, z2, u2⟩ := p2
      have z3 : fp g2 = px_cg ls (nI l) (0, -1) := by rw [z2]; show px_cg ls (nI l) (g1.1 259 1, g1.1 259 2) = _; rw [W.1, W.2]
      have F2 : FS h g2 := F1.tr G2.fs
      by_cases y : g2.1 259 1 = 0
      · have y0 : (px_cg ls (nI l) (0, -1)).1 = 0 := by rw [← z3]; exact y
        -- nothing is bad
        have hb : (px_sS ls s).bad = -1 := by
          by_cases b : (px_sS ls s).bad = -1
          · exact b
          · exfalso
            obtain ⟨zb, zf, zp, zn, zr, zs, zt⟩ := Z
            have e1 := gs_bad hl ls 0 s K (Or.inl ⟨by omega, zn⟩)
            have f0 : fb s.bad = (0, -1) := by rw [zb]; rfl
            rw [f0] at e1
            unfold px_cg at y0
            simp only at y0
            rw [e1] at y0
            have n0 := fb_bad b
            rw [if_neg n0, if_neg n0] at y0
            exact n0 y0
        have A := (G2.lsg Sg).agr (px_gs_A ls 0 (0, -1) (by omega) (px_cg_0 (e := nI l) y0))
        have V2 := V.same (G2.1 260 (by decide) (by decide))
        have S2 := G2.lsg Sg
        have e2 := (G2.2.2 0 (by decide) (by decide)).trans S.1
        have u3 := u2 (by rw [z3]; exact y0)
        obtain ⟨L, L2, L3⟩ := tkf_lo (h := g2)
        have s1 := sx_tkf (d := 9) (h := g2)
        generalize tkf g2 = gt at L L2 L3 s1
        have A3 : AGr gt ls.length := A.same (L 260 (by decide)) (L 262 (by decide))
        have V3 : VB gt ls.length := V2.same (L 260 (by decide))
        have e3 : gt.1 259 0 = nI ls.length := by rw [L 259 (by decide)]; exact e2
        have S3 : LSg gt 0 ls := fun m L2 hm => ⟨(S2 m L2 hm).1.same (fun c h1 h2 => L c (by omega)), (S2 m L2 hm).2⟩
        have XT : XA gt M := XAh.lo (fun e he => by rw [L e (by omega), F2.1 e (by omega)])
        obtain ⟨n, k, m0, hm0, H⟩ := XT.net
        refine go_X8_lay_36 (by decide) (s1 _ (go_X8_lay_40 (by decide) ⟨fun _ => go_X8_lay_52 (by decide) (sx_fi (d := 7) hl S3 e3 c80 V3 A3 K H.1 Z hb _ (fun _ g3 p => go_X8_lay_63 (by decide) ?_)), fun c => absurd (by rw [L 259 (by decide)]; exact y) c⟩))
        obtain ⟨m, m2, m7, em, N3, F3, u4⟩ := p
        have s4 := sx_beg (d := 8) N3.1 0
        have H3 : NT g3 0 m (px_sS ls s).n m0 := ⟨N3.1, by rw [show (0 + 11 : Nat) = 11 from rfl, N3.2.1]; exact H.2.1, by rw [show (0 + 11 : Nat) = 11 from rfl, N3.2.1]; exact H.2.2⟩
        obtain ⟨H4, L4, B4⟩ := beg_ok H3 0
        refine s4 _ (go_X8_lay_71 (by decide) (sx_tcl (d := 9) (t := 11) (by decide) _ (go_X8_lay_81 (by decide) ?_)))
        have a1 : (w1 (nt_tcl (nt_beg g3 0 m (px_sS ls s).n 0) 11) 240 9 0).1 0 1 = nI (px_sS ls s).n := by
          rw [w1_ne (by decide)]
          unfold nt_tcl
          rw [w1_ne (by decide), w1_ne (by decide), w1_ne (by decide), w1_ne (by decide)]
          exact H4.1.2.2.2.1
        refine q _ (w1 (nt_tcl (nt_beg g3 0 m (px_sS ls s).n 0) 11) 240 9 0) ⟨fun c => absurd y0 c, fun _ => ⟨congrArg Value.int a1, g3, m, m2, m7, em, N3.1, F3, fun p hp => ?_, hb, fun e he => w1_ne (by omega), w1_eq⟩⟩
        obtain ⟨zb, zf, zp, zn, zr, zs, zt⟩ := Z
        rw [u4 p hp, L 264 (by decide), u3 p (by omega)]
        exact su_eq hl ls s _ K hb (fun i hi => (zs i hi).symm) p (by omega)
      · refine no g2 F2 y ?_
        show (px_cg ls (nI l) (0, -1)).1 ≠ 0
        rw [← z3]
        exact y
  · cases w with
    | none => exact absurd W.1 z
    | some w => exact no g1 F1 z (show (1 : Int32) ≠ 0 by decide)
end LYC
