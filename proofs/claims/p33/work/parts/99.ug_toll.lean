/-! ===== the reference: toll is a least cost of a plan ===== -/
section UGT
variable {h g g1 : LH} {n k M d : Nat} {P : Nat → Int}
/-- one more here, one less there -/
def supW (h : LH) (a o p : Nat) : Int32 := if p = o then supI h p - 1 else if p = a then supI h p + 1 else supI h p
theorem xr_toll (G0 : GI h n k M) (x y : Int32) : tf_Sp 11 106 [.ref 270, .int x, .int y] h (fun v _ => (rf_two h x y = false → v = .int (-1000000)) ∧ ∀ a o, a < n → o < n → a ≠ o → x = nI a → y = nI o → ∃ z1 z2 : Int32, v = .int (qv_less z2 z1) ∧ LV0 h n k z1 ∧ LVi h n k (capI h) (cosI h) (supW h a o) z2) := by
  intro Q q
  have G : GI (w1 h 270 0 0) n k M := G0.w (by decide)
  have e271 : (w1 h 270 0 0).1 271 = h.1 271 := w1_ne (by decide)
  have eA : rf_two (w1 h 270 0 0) x y = rf_two h x y := by
    unfold rf_two rf_isPt
    rw [e271]
  refine en_X9_toll (by decide) (go_X9_toll_0 (by decide) ?_)
  show tf_Cd 298 10 _ _ (w1 h 270 0 0) _
  generalize w1 h 270 0 0 = h1 at *
  have hn := G.1.1
  have isPt : ∀ p, p < n → rf_isPt h1 (nI p) = true := fun p hp => by
    have e : nI n - 1 = nI (n - 1) := by
      rw [show n = n - 1 + 1 by omega]
      exact nI_pred _
    unfold rf_isPt rf_in
    rw [G.1.2.1, e]
    have a1 : ¬ nI p < 0 := nI_nlt (a := p) (b := 0) (by omega) (by omega)
    have a2 : ¬ nI (n - 1) < nI p := nI_nlt (by omega) (by omega)
    simp [a1, a2]
  refine sx_rtwo (d := 7) x y _ (go_X9_toll_11 (by decide) ⟨fun c => q _ _ ⟨fun _ => rfl, fun a o ha ho hne ea eo => ?_⟩, fun c => go_X9_toll_18 (by decide) (tf_Sp.cj (sp_an (d := 8) G) (xp_an (d := 8) G.1) _ (fun v g p => go_X9_toll_22 (by decide) (xp_cco (d := 5) p.1.2.mono _ (fun v2 g2 p2 => ?_))))⟩)
  · rw [bI_0, ea, eo] at c
    unfold rf_two at c
    rw [isPt a ha, isPt o ho, decide_eq_false (fun z => hne ((nI_eq (by omega) (by omega)).mp z))] at c
    cases c
  rw [bI_0, Bool.not_eq_false] at c
  obtain ⟨a, o, ha, ho, hne, ea, eo⟩ := rf_two_t G.1 c
  subst ea eo
  have va : vp_in (nI a) 7 := vi_of (by omega) (by omega)
  have vo : vp_in (nI o) 7 := vi_of (by omega) (by omega)
  have ca : (nI a).toNatClampNeg = a := nI_clamp (by omega)
  have co : (nI o).toNatClampNeg = o := nI_clamp (by omega)
  obtain ⟨z1, e, L1, F2⟩ := p2
  subst e
  have L0 := an_lv p.1.1 p.2 L1
  have F3 := p.1.1.tr F2
  obtain ⟨b1, b2, b3, b4, b5⟩ := rw_fr e271
  have L00 : LV0 h n k z1 := by
    unfold LV0 LVi at L0 ⊢
    rw [b1, b2, b3, b4, b5] at L0
    exact L0
  refine go_X9_toll_26 (by decide) (tf_Sp.cj (sp_an (d := 8) (G.sc F3)) (xp_an (d := 8) (G.sc F3).1) _ (fun v3 g3 p3 => go_X9_toll_31 (by decide) ?_))
  obtain ⟨⟨S3, D3⟩, A1, A2⟩ := p3
  have F4 := F3.tr S3
  have e3 : g2.1 271 = h.1 271 := (F3.1 271 (by decide) (by decide)).trans e271
  obtain ⟨c1', c2', c3', c4', c5'⟩ := rw_fr e3
  have A1' : ∀ b, b < k → g3.1 291 b = capI h b ∧ g3.1 292 b = cosI h b := fun b hb => by
    rw [← c1', ← c2']
    exact A1 b hb
  have A2' : ∀ p, p < n → g3.1 294 p = supI h p := fun p hp => by
    rw [← c3']
    exact A2 p hp
  rw [ca, co]
  refine ⟨va, va, vo, vo, ?_⟩
  show tf_Cd 298 10 _ _ (w1 (w1 g3 294 a (g3.1 294 a + 1)) 294 o ((w1 g3 294 a (g3.1 294 a + 1)).1 294 o - 1)) _
  have k1 := D3.2.2.2 a ha
  have k2 := D3.2.2.2 o ho
  have r2 : (w1 g3 294 a (g3.1 294 a + 1)).1 294 o = g3.1 294 o := w1_at (fun z => hne z.symm)
  rw [r2]
  have t1 : (g3.1 294 a + 1).toInt = (g3.1 294 a).toInt + 1 := by rw [tia (by rw [one_ti]; omega) (by rw [one_ti]; omega), one_ti]
  have t2 : (g3.1 294 o - 1).toInt = (g3.1 294 o).toInt - 1 := by rw [tis (by rw [one_ti]; omega) (by rw [one_ti]; omega), one_ti]
  have D5 : DN (w1 (w1 g3 294 a (g3.1 294 a + 1)) 294 o (g3.1 294 o - 1)) n k 100 := by
    refine ⟨D3.1.fl (by rw [w1_ne (by decide), w1_ne (by decide)]), fun b hb => ?_, fun b hb => ?_, fun b hb => ?_⟩
    · rw [w1_ne (by decide), w1_ne (by decide)]
      have := D3.2.1 b hb
      omega
    · rw [w1_ne (by decide), w1_ne (by decide)]
      have := D3.2.2.1 b hb
      omega
    · by_cases e1 : b = o
      · rw [e1, w1_eq, t2]
        omega
      · rw [w1_at e1]
        by_cases e2 : b = a
        · rw [e2, w1_eq, t1]
          omega
        · rw [w1_at e2]
          have := D3.2.2.2 b hb
          omega
  have S5 : ScF h1 (w1 (w1 g3 294 a (g3.1 294 a + 1)) 294 o (g3.1 294 o - 1)) := (F4.w (by omega)).w (by omega)
  refine xp_cco (d := 5) D5 _ (fun v5 g5 p5 => ?_)
  obtain ⟨z2, e5, L5, F5⟩ := p5
  subst e5
  refine go_X9_toll_56 (by decide) (xv_less (d := 9) z2 z1 _ (go_X9_toll_60 (by decide) (q _ _ ⟨fun z => ?_, fun a2 o2 ha2 ho2 hne2 ea2 eo2 => ?_⟩)))
  · rw [← eA, c] at z
    cases z
  · have ea3 : a = a2 := (nI_eq (by omega) (by omega)).mp ea2
    have eo3 : o = o2 := (nI_eq (by omega) (by omega)).mp eo2
    subst ea3 eo3
    refine ⟨z1, z2, rfl, L00, lvi_r L5 ((S5.1 271 (by decide) (by decide)).trans e271) (fun b hb => ?_) (fun p hp => ?_)⟩
    · rw [w1_ne (by decide), w1_ne (by decide), w1_ne (by decide), w1_ne (by decide)]
      exact ⟨(A1' b hb).1.symm, (A1' b hb).2.symm⟩
    · unfold supW
      by_cases e1 : p = o
      · subst e1
        rw [if_pos rfl, w1_eq, A2' p hp]
      · rw [if_neg e1, w1_at e1]
        by_cases e2 : p = a
        · subst e2
          rw [if_pos rfl, w1_eq, A2' p hp]
        · rw [if_neg e2, w1_at e2, A2' p hp]
end UGT
