/-! ===== trip on both sides: the walk ===== -/
section TPT
variable {h g c cc g1 : LH} {t M d n k m x : Nat}
theorem tr_g1_lo {x : Int32} : ∀ e, e ≠ 250 → (tr_g1 c x).1 e = c.1 e := fun e he => w1_ne he
theorem tr_g2_lo {x : Int32} : ∀ e, e ≠ 249 → e ≠ 244 → (tr_g2 c x).1 e = c.1 e := fun e h1 h2 => by
  unfold tr_g2
  rw [w1_ne h2, w1_ne h1]
/-- at the same place, after the same steps -/
def WRk (c g : LH) (k m : Nat) : Prop := WK c m 0 ∧ (∀ i, i < m → c.1 249 i = g.1 289 i) ∧ (∀ q, q < 7 → c.1 250 q = sax g (nI q) m 0) ∧ EQ c g k
theorem xgt_1 {C : LH} {Q : tf_Q} (q : ∀ (w l : Nat) (x1 x4 : Int32) (x5 x6 : Value) (g : LH), w ≤ 7 → l < w → ScF h g → g.1 288 = h.1 288 → TE g k w → C.1 244 7 = nI w → C.1 244 8 = nI l → (∀ i, i < w → C.1 249 i = g.1 289 i) → lx_X9_goesTrip 298 (tf_Cd 298 (d + 2)) Q 110 [.ref 270, .int x1, .int (nI w), .int (nI l), .int x4, x5, x6] [] g) (H : RM h n k) : ∀ (f m p : Nat) (V : Nat → Bool) (x3 : Int32) (x5 x6 : Value) (c g : LH), m + f = 7 → ScF h g → g.1 288 = h.1 288 → TG g n k m p V → PO g k (nI p) → WRk c g k m → tr_go 0 k f (nI p) c = C → lx_X9_goesTrip 298 (tf_Cd 298 (d + 2)) Q 26 [.ref 270, .int (nI p), .int (nI m), .int x3, .int 1, x5, x6] [] g
  | 0, m, p, V, x3, x5, x6, c, g, hm, F, E, G, po, W, eC => by
    have hn := H.1
    have := cv_le (V := V) n
    have := G.2.2.1
    omega
  | f + 1, m, p, V, x3, x5, x6, c, g, hm, F, E, G, po, W, eC => by
    have hn := H.1
    have hcv := cv_le (V := V) n
    obtain ⟨g1, g2, g3, g4, g5, g6⟩ := G
    obtain ⟨W1, W2, W3, W4⟩ := W
    have H1 := H.sc F
    have vp : vp_in (nI p) 7 := vi_of (by omega) (by omega)
    obtain ⟨Wa, -⟩ := wk_g1 W1 (by omega) vp
    have L1 := tr_g1_lo (c := c) (x := nI p)
    have A1 : ∀ o, o < 7 → (tr_g1 c (nI p)).1 250 o = sax g (nI o) (m + 1) 0 := by
      intro o ho
      have pm : ∀ i, i < m → g.1 290 i ≠ nI p := fun i hi e => by
        have := g6 i m (by omega) (Nat.le_refl _) (e.trans g2.symm)
        omega
      rw [sax_end m 0 (by omega), Nat.zero_add, g2]
      unfold tr_g1
      rw [nI_clamp (by omega)]
      by_cases e : o = p
      · rw [e, w1_eq, W1.1, if_pos rfl]
        rcases sax_or (g := g) (y := nI p) m 0 with ⟨s1, -⟩ | ⟨j, -, h2, -, h4⟩
        · rw [if_pos s1]
        · exact absurd h4 (pm j (by omega))
      · rw [w1_at e, W3 o ho, if_neg (fun z => e ((nI_eq (by omega) (by omega)).mp z).symm)]
        split
        · rename_i z
          exact z
        · rfl
    have E1 : EQ (tr_g1 c (nI p)) g k := W4.fr (L1 248 (by decide)) (L1 2 (by decide)) (L1 3 (by decide)) rfl rfl
    have B1 : ∀ i, i < m → (tr_g1 c (nI p)).1 249 i = g.1 289 i := fun i hi => by rw [L1 249 (by decide)]; exact W2 i hi
    unfold tr_go at eC
    have o1 := E1.out (nI p)
    generalize tr_g1 c (nI p) = c1 at *
    refine go_X9_goesTrip_26 (by decide) ⟨fun z => absurd z (by decide), fun _ => sx_oof (d := d) H1 (nI p) _ (go_X9_goesTrip_36 (by decide) ⟨vi_of (by omega) (by omega), ?_⟩)⟩
    rcases oof_po (g := g) (k := k) (p := nI p) with ⟨-, no⟩ | ⟨a, ha, ea, r0, lft⟩
    · exact absurd po no
    · rw [← o1, ea, if_neg (nI_neg1 (by omega))] at eC
      obtain ⟨Wb, -, -⟩ := wk_g2 Wa (by omega) (a := nI a) (vi_of (by omega) (by omega))
      have L2 := tr_g2_lo (c := c1) (x := nI a)
      have B2 : ∀ i, i < m → (tr_g2 c1 (nI a)).1 249 i = g.1 289 i := fun i hi => by
        unfold tr_g2
        rw [w1_ne (by decide), Wa.1, nI_clamp (by omega), w1_at (by omega)]
        exact B1 i hi
      have B3 : (tr_g2 c1 (nI a)).1 249 m = nI a := by
        unfold tr_g2
        rw [w1_ne (by decide), Wa.1, nI_clamp (by omega), w1_eq]
      have A2 : ∀ o, o < 7 → (tr_g2 c1 (nI a)).1 250 o = sax g (nI o) (m + 1) 0 := fun o ho => by rw [L2 250 (by decide) (by decide)]; exact A1 o ho
      have E2 : EQ (tr_g2 c1 (nI a)) g k := E1.fr (L2 248 (by decide) (by decide)) (L2 2 (by decide) (by decide)) (L2 3 (by decide) (by decide)) rfl rfl
      generalize tr_g2 c1 (nI a) = c2 at *
      rw [ea, nI_clamp (by omega), nI_1]
      show tf_Cd 298 (d + 2) _ _ (w1 g 289 m (nI a)) _
      have F1 : ScF h (w1 g 289 m (nI a)) := F.w (by omega)
      have x288 : (w1 g 289 m (nI a)).1 288 = g.1 288 := w1_ne (by decide)
      have x290 : (w1 g 289 m (nI a)).1 290 = g.1 290 := w1_ne (by decide)
      have x271 : (w1 g 289 m (nI a)).1 271 = g.1 271 := w1_ne (by decide)
      have y1 : (w1 g 289 m (nI a)).1 289 m = nI a := w1_eq
      have y2 : ∀ i, i ≠ m → (w1 g 289 m (nI a)).1 289 i = g.1 289 i := fun i hi => w1_at hi
      generalize w1 g 289 m (nI a) = gs at *
      have H2 := H.sc F1
      obtain ⟨p0, o, -, ho, -, eo⟩ := H2.ends ha
      have ev : c2.1 (0 + 3) (nI a).toNatClampNeg = nI o := by
        rw [nI_clamp (by omega), (E2 a ha).2.2, ← eo]
        unfold rm
        rw [x271]
      dsimp only at eC
      rw [ev, nI_clamp (by omega), A2 o (by omega)] at eC
      refine sx_of (d := d + 1) a 1 rfl rfl (by omega) (by omega) _ (go_X9_goesTrip_56 (by decide) ?_)
      rw [eo]
      refine sx_sax (d := d + 1) (m := m + 1) (by omega) _ ?_
      rw [sax_c (g1 := gs) (g := g) (m + 1) 0 (fun j _ _ => by rw [x290])]
      -- the step is added
      have add : ∀ (g2' : LH), g2' = w1 gs 290 (m + 1) (nI o) → ScF h g2' ∧ g2'.1 288 = h.1 288 ∧ g2'.1 271 = g.1 271 ∧ (∀ i, i ≤ m → g2'.1 290 i = g.1 290 i) ∧ g2'.1 290 (m + 1) = nI o ∧ (∀ i, i < m + 1 → ∃ a, a < k ∧ g2'.1 289 i = nI a ∧ ¬ g2'.1 288 a ≤ 0 ∧ rm g2' a 0 = g2'.1 290 i) ∧ ∀ i, i < m + 1 → c2.1 249 i = g2'.1 289 i := by
        intro g2' e
        have z288 : g2'.1 288 = gs.1 288 := by rw [e]; exact w1_ne (by decide)
        have z289 : g2'.1 289 = gs.1 289 := by rw [e]; exact w1_ne (by decide)
        have z271 : g2'.1 271 = gs.1 271 := by rw [e]; exact w1_ne (by decide)
        have z290 : ∀ i, i ≤ m → g2'.1 290 i = g.1 290 i := fun i hi => by rw [e, w1_at (by omega), x290]
        refine ⟨by rw [e]; exact F1.w (by omega), by rw [z288, x288]; exact E, by rw [z271, x271], z290, by rw [e, w1_eq], fun i hi => ?_, fun i hi => ?_⟩
        · have rr0 : ∀ b, rm g2' b 0 = rm g b 0 := fun b => by unfold rm; rw [z271, x271]
          by_cases c : i = m
          · refine ⟨a, ha, by rw [z289, c, y1], by rw [z288, x288]; exact lft, ?_⟩
            rw [rr0, c, z290 m (by omega), g2]
            exact r0
          · obtain ⟨b, hb, e1, e2, e3⟩ := g5 i (by omega)
            exact ⟨b, hb, by rw [z289, y2 i c]; exact e1, by rw [z288, x288]; exact e2, by rw [rr0, z290 i (by omega)]; exact e3⟩
        · rw [z289]
          by_cases c : i = m
          · rw [c, y1, B3]
          · rw [y2 i c]
            exact B2 i (by omega)
      have tofin : ∀ (g2' : LH), g2' = w1 gs 290 (m + 1) (nI o) → TE g2' k (m + 1) := by
        intro g2' e
        obtain ⟨-, -, -, z290, -, z5, -⟩ := add g2' e
        refine ⟨fun i hi => ?_, fun i j hi hj eq => ?_⟩
        · obtain ⟨b, hb, e1, e2, -⟩ := z5 i hi
          exact ⟨b, hb, e1, e2⟩
        · obtain ⟨b, hb, e1, -, e3⟩ := z5 i hi
          obtain ⟨b2, hb2, e4, -, e6⟩ := z5 j hj
          have : b = b2 := (nI_eq (by omega) (by omega)).mp (e1.symm.trans (eq.trans e4))
          subst this
          refine g6 i j (by omega) (by omega) ?_
          rw [← z290 i (by omega), ← z290 j (by omega), ← e3, ← e6]
      have fin : ∀ (j : Nat) (x1 x5 x6 : Int32), j < m + 1 → C.1 244 7 = nI (m + 1) → C.1 244 8 = nI j → C.1 249 = c2.1 249 → lx_X9_goesTrip 298 (tf_Cd 298 (d + 2)) Q 104 [.ref 270, .int x1, .int (nI (m + 1)), .int (nI j), .int 1, .int x5, .int x6] [] (w1 gs 290 (m + 1) (nI o)) := by
        intro j x1 x5 x6 hj k7 k8 k9
        obtain ⟨a1, a2, -, -, -, -, a7⟩ := add _ rfl
        exact go_X9_goesTrip_104 (by decide) (go_X9_goesTrip_105 (by decide) (go_X9_goesTrip_26 (by decide) ⟨fun _ => q (m + 1) j _ _ _ _ _ (by omega) hj a1 a2 (tofin _ rfl) k7 k8 (fun i hi => by rw [k9]; exact a7 i hi), fun z => absurd rfl z⟩))
      have cl9 : (nI (m + 1)).toNatClampNeg = m + 1 := nI_clamp (by omega)
      rcases sax_or (g := g) (y := nI o) (m + 1) 0 with ⟨ev1, new⟩ | ⟨j, -, hj, ev1, -⟩
      · rw [ev1] at eC ⊢
        rw [if_pos rfl] at eC
        refine go_X9_goesTrip_63 (by decide) ⟨fun _ => go_X9_goesTrip_77 (by decide) ⟨vi_of (by omega) (by omega), fun _ => ?_, fun z => absurd rfl z⟩, fun z => absurd rfl z⟩
        rw [cl9]
        obtain ⟨a1, a2, a3, a4, a5, a6, a7⟩ := add _ rfl
        have E3 : EQ c2 (w1 gs 290 (m + 1) (nI o)) k := E2.fr rfl rfl rfl (by rw [w1_ne (by decide), x288]) a3
        have o2 := E3.out (nI o)
        refine sx_oof (g := w1 gs 290 (m + 1) (nI o)) (d := d) (H.sc a1) (nI o) _ (go_X9_goesTrip_96 (by decide) ⟨fun z => ?_, fun c => go_X9_goesTrip_105 (by decide) ?_⟩)
        · rw [o2] at z
          have oc : C.1 244 = c2.1 244 ∧ C.1 249 = c2.1 249 := by
            cases f with
            | zero =>
              rw [tr_go] at eC
              rw [← eC]
              exact ⟨rfl, rfl⟩
            | succ f =>
              have L3 := tr_g1_lo (c := c2) (x := nI o)
              have E4 : EQ (tr_g1 c2 (nI o)) g k := E2.fr (L3 248 (by decide)) (L3 2 (by decide)) (L3 3 (by decide)) rfl rfl
              unfold tr_go at eC
              rw [← E4.out (nI o), E2.out (nI o), if_pos z] at eC
              rw [← eC]
              exact ⟨L3 244 (by decide), L3 249 (by decide)⟩
          exact fin 0 _ _ _ (by omega) (by rw [oc.1]; exact Wb.1) (by rw [oc.1]; exact Wb.2.2.1) oc.2
        have po2 : PO (w1 gs 290 (m + 1) (nI o)) k (nI o) := by
          rcases oof_po (g := w1 gs 290 (m + 1) (nI o)) (k := k) (p := nI o) with ⟨e, -⟩ | ⟨b, hb, -, w1', w2'⟩
          · exact absurd e c
          · exact ⟨b, hb, w1', w2'⟩
        have hVo : V o = false := by
          cases hv : V o with
          | false => rfl
          | true =>
            obtain ⟨i, hi, ei⟩ := g4 o hv
            exact absurd ei (new i (by omega) (by omega))
        refine xgt_1 q H f (m + 1) o (cadd V o) _ _ _ c2 _ (by omega) a1 a2 ⟨ho, a5, by rw [(cv_add (V := V) (p := o) n).2 ho hVo, g3], fun o2 hv => ?_, a6, fun i j hi hj e => ?_⟩ po2 ⟨Wb, a7, fun o2 ho2 => ?_, E3⟩ eC
        · unfold cadd at hv
          by_cases c2 : o2 = o
          · exact ⟨m + 1, by omega, by rw [c2]; exact a5⟩
          · simp [c2] at hv
            obtain ⟨i, hi, ei⟩ := g4 o2 hv
            exact ⟨i, by omega, by rw [a4 i hi]; exact ei⟩
        · have nn : ∀ i, i ≤ m → ¬ g.1 290 i = nI o := fun i hi => new i (by omega) (by omega)
          rcases Nat.lt_or_ge m i with c1 | c1 <;> rcases Nat.lt_or_ge m j with c2 | c2
          · omega
          · rw [show i = m + 1 by omega, a5, a4 j c2] at e
            exact absurd e.symm (nn j c2)
          · rw [show j = m + 1 by omega, a5, a4 i c1] at e
            exact absurd e (nn i c1)
          · rw [a4 i c1, a4 j c2] at e
            exact g6 i j c1 c2 e
        · rw [A2 o2 ho2]
          exact (sax_c (m + 1) 0 (fun j _ hj => a4 j (by omega))).symm
      · have nj : ¬ nI j = -1 := nI_neg1 (by omega)
        rw [ev1] at eC ⊢
        rw [if_neg nj] at eC
        refine go_X9_goesTrip_63 (by decide) ⟨fun z => absurd z nj, fun _ => go_X9_goesTrip_75 (by decide) (go_X9_goesTrip_77 (by decide) ⟨vi_of (by omega) (by omega), fun z => absurd z nj, fun _ => ?_⟩)⟩
        rw [cl9]
        refine fin j _ _ _ (by omega) ?_ ?_ ?_
        · rw [← eC, w1_at (by decide)]
          exact Wb.1
        · rw [← eC, w1_eq]
        · rw [← eC, w1_ne (by decide)]
end TPT
