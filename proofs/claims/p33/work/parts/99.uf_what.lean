/-! ===== the reference: least, worth, toll are least costs of plans ===== -/
section UFW
variable {h g g1 : LH} {n k M d : Nat} {P : Nat → Int}
def capI (h : LH) (a : Nat) : Int32 := if rm h a 6 = 1 then 0 else rm h a 2
/-- as it is now -/
def ANx (h : LH) (n k : Nat) (g : LH) : Prop := (∀ a, a < k → g.1 291 a = capI h a ∧ g.1 292 a = rm h a 3) ∧ ∀ p, p < n → g.1 294 p = h.1 271 (44 + p)
theorem xan_p (H : RM h n k) {Q : tf_Q} (q : ∀ g, g.1 271 = h.1 271 → ANx h n k g → Q tf_z g) : ∀ (f p : Nat) (g : LH), p + f = n → g.1 271 = h.1 271 → (∀ a, a < k → g.1 291 a = capI h a ∧ g.1 292 a = rm h a 3) → (∀ o, o < p → g.1 294 o = h.1 271 (44 + o)) → lx_X9_asNow 298 (tf_Cd 298 d) Q 59 [.ref 270, .int (nI p)] [] g
  | 0, p, g, hp, F, s1, s3 => by
    have hn := H.1
    exact go_X9_asNow_59 (by decide) ⟨fun _ => go_X9_asNow_90 (by decide) (q g F ⟨s1, fun o ho => s3 o (by omega)⟩), fun z => absurd ((H.fl F).n2 (by omega) (by omega)) z⟩
  | f + 1, p, g, hp, F, s1, s3 => by
    have hn := H.1
    refine go_X9_asNow_59 (by decide) ⟨fun z => absurd z ((H.fl F).n1 (by omega)), fun _ => ?_⟩
    rw [i44, nI_clamp (by omega), nI_clamp (by omega), nI_1]
    refine ⟨vi_of (by omega) (by omega), vi_of (by omega) (by omega), xan_p H q f (p + 1) (w1 g 294 p (g.1 271 (44 + p))) (by omega) (by rw [w1_ne (by decide)]; exact F) (fun a ha => by rw [w1_ne (by decide), w1_ne (by decide)]; exact s1 a ha) (fun o ho => ?_)⟩
    by_cases e : o = p
    · rw [e, w1_eq, F]
    · rw [w1_at e]
      exact s3 o (by omega)
theorem xan_a (H : RM h n k) {Q : tf_Q} (q : ∀ g, g.1 271 = h.1 271 → ANx h n k g → Q tf_z g) : ∀ (f a : Nat) (g : LH), a + f = k → g.1 271 = h.1 271 → (∀ b, b < a → g.1 291 b = capI h b ∧ g.1 292 b = rm h b 3) → lx_X9_asNow 298 (tf_Cd 298 (d + 1)) Q 2 [.ref 270, .int (nI a)] [] g
  | 0, a, g, ha, F, s1 => by
    have hn := H.1
    exact go_X9_asNow_2 (by decide) ⟨fun _ => go_X9_asNow_57 (by decide) (xan_p H q n 0 g (by omega) F (fun b hb => s1 b (by omega)) (fun o ho => absurd ho (by omega))), fun z => absurd ((H.fl F).k2 (by omega) (by omega)) z⟩
  | f + 1, a, g, ha, F, s1 => by
    have hn := H.1
    have K1 : tf_K 291 = 8 := by decide +kernel
    have N1 : tf_N 291 = 14 := by decide +kernel
    have K2 : tf_K 292 = 8 := by decide +kernel
    have N2 : tf_N 292 = 14 := by decide +kernel
    have v14 : vp_in (nI a) 14 := vi_of (by omega) (by omega)
    have ca : (nI a).toNatClampNeg = a := nI_clamp (by omega)
    have rr : ∀ w, rm g a w = rm h a w := fun w => by unfold rm; rw [F]
    have e38 : ∀ y : Int32, y = capI h a → lx_X9_asNow 298 (tf_Cd 298 (d + 1)) Q 38 [.ref 270, .int (nI a)] [.int y, .int (nI a), .ref 291] g := by
      intro y hy
      refine go_X9_asNow_38 (by decide) K1 (ny0 := 14) N1 (by decide) ⟨v14, ?_⟩
      rw [ca]
      refine sx_of (h := w1 g 291 a y) (d := d) a 3 rfl rfl (by omega) (by omega) _ (go_X9_asNow_50 (by decide) K2 (ny0 := 14) N2 (by decide) ⟨v14, ?_⟩)
      have r3 : rm (w1 g 291 a y) a 3 = rm h a 3 := by
        rw [← rr]
        unfold rm
        rw [w1_ne (by decide)]
      rw [ca, nI_1, r3]
      refine xan_a H q f (a + 1) (w1 (w1 g 291 a y) 292 a (rm h a 3)) (by omega) (by rw [w1_ne (by decide), w1_ne (by decide)]; exact F) (fun b hb => ?_)
      by_cases e : b = a
      · rw [e, w1_eq, w1_ne (by decide), w1_eq]
        exact ⟨hy, rfl⟩
      · obtain ⟨h1, h2⟩ := s1 b (by omega)
        exact ⟨by rw [w1_ne (by decide), w1_at e]; exact h1, by rw [w1_at e, w1_ne (by decide)]; exact h2⟩
    refine go_X9_asNow_2 (by decide) ⟨fun z => absurd z ((H.fl F).k1 (by omega)), fun _ => sx_of (d := d) a 6 rfl rfl (by omega) (by omega) _ (go_X9_asNow_24 (by decide) K1 (ny0 := 14) N1 (by decide) ⟨fun c => e38 _ ?_, fun c => go_X9_asNow_32 (by decide) K1 (ny0 := 14) N1 (by decide) (sx_of (d := d) a 2 rfl rfl (by omega) (by omega) _ (e38 _ ?_))⟩)⟩
    · unfold capI
      rw [← rr, if_pos c]
    · unfold capI
      rw [← rr, ← rr, if_neg c]
theorem xp_an (H : RM h n k) : tf_Sp (d + 2) 95 [.ref 270] h (fun _ g => ANx h n k g) := fun Q q => en_X9_asNow (by decide) (go_X9_asNow_0 (by decide) (xan_a H (fun g _ A => q _ g A) k 0 h (by omega) rfl (fun b hb => absurd hb (by omega))))
/-- the least cost of a plan for the row's ends, and what else is given -/
def LVi (h : LH) (n k : Nat) (cap c sup : Nat → Int32) (x : Int32) : Prop := LVs (tlv h) (hdv h) (fun a => (cap a).toInt) (fun a => (c a).toInt) (fun p => (sup p).toInt) n k x.toInt
theorem LVi.uni {cap c sup : Nat → Int32} {x y : Int32} (X : LVi h n k cap c sup x) (Y : LVi h n k cap c sup y) : x = y := Int32.toInt_inj.mp (LVs.uni X Y)
theorem lvi_r {cap c sup : Nat → Int32} {x : Int32} (L : LVr g n k x.toInt) (e : g.1 271 = h.1 271) (ea : ∀ a, a < k → cap a = g.1 291 a ∧ c a = g.1 292 a) (ep : ∀ p, p < n → sup p = g.1 294 p) : LVi h n k cap c sup x := by
  unfold LVi
  refine LVs.c L (fun a ha => ?_) (fun p hp => ?_)
  · obtain ⟨h1, h2⟩ := ea a ha
    refine ⟨?_, ?_, by rw [h1], by rw [h2]⟩
    · unfold tlv rm
      rw [e]
    · unfold hdv rm
      rw [e]
  · rw [ep p hp]
def cosI (h : LH) (a : Nat) : Int32 := rm h a 3
def supI (h : LH) (p : Nat) : Int32 := h.1 271 (44 + p)
/-- least, of the grid as it is -/
def LV0 (h : LH) (n k : Nat) (x : Int32) : Prop := LVi h n k (capI h) (cosI h) (supI h) x
theorem rw_fr {T : LH} (e : T.1 271 = h.1 271) : capI T = capI h ∧ cosI T = cosI h ∧ supI T = supI h ∧ tlv T = tlv h ∧ hdv T = hdv h := by
  refine ⟨funext fun a => ?_, funext fun a => ?_, funext fun a => ?_, funext fun a => ?_, funext fun a => ?_⟩
  · unfold capI rm; rw [e]
  · unfold cosI rm; rw [e]
  · unfold supI; rw [e]
  · unfold tlv rm; rw [e]
  · unfold hdv rm; rw [e]
theorem an_lv (S : ScF h g) (A : ANx h n k g) {x : Int32} (L : LVr g n k x.toInt) : LV0 h n k x := lvi_r L (S.1 271 (by decide) (by decide)) (fun a ha => ⟨(A.1 a ha).1.symm, (A.1 a ha).2.symm⟩) (fun p hp => (A.2 p hp).symm)
theorem xr_least (G0 : GI h n k M) : tf_Sp 11 103 [.ref 270] h (fun v _ => ∃ x : Int32, v = .int x ∧ LV0 h n k x) := by
  intro Q q
  have G : GI (w1 h 270 0 0) n k M := G0.w (by decide)
  have e271 : (w1 h 270 0 0).1 271 = h.1 271 := w1_ne (by decide)
  refine en_X9_least (by decide) (go_X9_least_0 (by decide) ?_)
  show tf_Cd 298 10 _ _ (w1 h 270 0 0) _
  generalize w1 h 270 0 0 = h1 at *
  refine tf_Sp.cj (sp_an (d := 8) G) (xp_an (d := 8) G.1) _ (fun v g p => go_X9_least_9 (by decide) (xp_cco (d := 5) p.1.2.mono _ (fun v2 g2 p2 => ?_)))
  obtain ⟨x, e, L, F2⟩ := p2
  subst e
  have L0 := an_lv p.1.1 p.2 L
  refine go_X9_least_13 (by decide) (q _ _ ⟨x, rfl, ?_⟩)
  obtain ⟨a1, a2, a3, a4, a5⟩ := rw_fr e271
  unfold LV0 LVi at L0 ⊢
  rw [a1, a2, a3, a4, a5] at L0
  exact L0
theorem xv_less (x y : Int32) : tf_Rt (d + 1) 104 [.ref 270, .int x, .int y] h (.int (qv_less x y)) h := by
  intro Q q
  unfold qv_less at q
  refine en_X9_lessThan (by decide) (go_X9_lessThan_0 (by decide) ⟨fun c => go_X9_lessThan_14 (by decide) (go_X9_lessThan_23 (by decide) ?_), fun c => ⟨fun c2 => go_X9_lessThan_14 (by decide) (go_X9_lessThan_23 (by decide) ?_), fun c2 => go_X9_lessThan_20 (by decide) (go_X9_lessThan_23 (by decide) ?_)⟩⟩)
  · rw [if_pos c] at q
    by_cases z : y = -1000000
    · rw [if_pos z] at q
      exact q
    · rw [if_neg z] at q
      exact q
  · rw [if_pos c2] at q
    exact q
  · rw [if_neg c2, if_neg c] at q
    exact q
theorem isArc_n (H : RM h n k) {a : Nat} (ha : a < k) : rf_isArc h (nI a) = true := by
  have hn := H.1
  have e : nI k - 1 = nI (k - 1) := by
    rw [show k = k - 1 + 1 by omega]
    exact nI_pred _
  unfold rf_isArc rf_in
  rw [H.2.2.1, e]
  have a1 : ¬ nI a < 0 := nI_nlt (a := a) (b := 0) (by omega) (by omega)
  have a2 : ¬ nI (k - 1) < nI a := nI_nlt (by omega) (by omega)
  simp [a1, a2]
/-- what would be: one bound more, none, or one cost more -/
def capW (h : LH) (y : Int32) (a b : Nat) : Int32 := if b = a then (if y = 2 then capI h b else if y = 1 then 0 else if rm h a 6 = 0 then capI h b + 1 else capI h b) else capI h b
def cosW (h : LH) (y : Int32) (a b : Nat) : Int32 := if b = a then (if y = 2 then cosI h b + 1 else cosI h b) else cosI h b
theorem xr_worth (G0 : GI h n k M) (x y : Int32) : tf_Sp 11 105 [.ref 270, .int x, .int y] h (fun v _ => ((rf_isArc h x = false ∨ rf_in y 0 2 = false) → v = .int (-1000000)) ∧ ∀ a, a < k → x = nI a → rf_in y 0 2 = true → ∃ z1 z2 : Int32, v = .int (qv_less z2 z1) ∧ LV0 h n k z1 ∧ LVi h n k (capW h y a) (cosW h y a) (supI h) z2) := by
  intro Q q
  have G : GI (w1 h 270 0 0) n k M := G0.w (by decide)
  have e271 : (w1 h 270 0 0).1 271 = h.1 271 := w1_ne (by decide)
  have eA : rf_isArc (w1 h 270 0 0) x = rf_isArc h x := by
    unfold rf_isArc
    rw [e271]
  refine en_X9_worth (by decide) (go_X9_worth_0 (by decide) ?_)
  show tf_Cd 298 10 _ _ (w1 h 270 0 0) _
  generalize w1 h 270 0 0 = h1 at *
  have e22 : (rf_isArc h x = false ∨ rf_in y 0 2 = false) → lx_X9_worth 298 (tf_Cd 298 10) Q 22 [.ref 270, .int x, .int y, tf_z] [] h1 := fun z => go_X9_worth_22 (by decide) (q _ _ ⟨fun _ => rfl, fun a ha ea ey => by
    rcases z with z | z
    · rw [← eA, ea, isArc_n G.1 ha] at z
      cases z
    · rw [z] at ey
      cases ey⟩)
  refine sx_risArc (d := 8) x _ (go_X9_worth_10 (by decide) ⟨fun c => e22 (Or.inl (by rw [bI_0, eA] at c; exact c)), fun c => sx_in (d := 9) _ _ _ _ (go_X9_worth_19 (by decide) ⟨fun c2 => e22 (Or.inr (by rw [bI_0] at c2; exact c2)), fun c2 => go_X9_worth_26 (by decide) (tf_Sp.cj (sp_an (d := 8) G) (xp_an (d := 8) G.1) _ (fun v g p => go_X9_worth_30 (by decide) (xp_cco (d := 5) p.1.2.mono _ (fun v2 g2 p2 => ?_))))⟩)⟩)
  rw [bI_0, Bool.not_eq_false] at c c2
  obtain ⟨a, ha, ea⟩ := rf_arc_t G.1 c
  subst ea
  have hn := G.1.1
  have v14 : vp_in (nI a) 14 := vi_of (by omega) (by omega)
  have ca : (nI a).toNatClampNeg = a := nI_clamp (by omega)
  obtain ⟨z1, e, L1, F2⟩ := p2
  subst e
  have L0 := an_lv p.1.1 p.2 L1
  have F3 := p.1.1.tr F2
  obtain ⟨b1, b2, b3, b4, b5⟩ := rw_fr e271
  have L00 : LV0 h n k z1 := by
    unfold LV0 LVi at L0 ⊢
    rw [b1, b2, b3, b4, b5] at L0
    exact L0
  refine go_X9_worth_34 (by decide) (tf_Sp.cj (sp_an (d := 8) (G.sc F3)) (xp_an (d := 8) (G.sc F3).1) _ (fun v3 g3 p3 => go_X9_worth_39 (by decide) ?_))
  obtain ⟨⟨S3, D3⟩, A1, A2⟩ := p3
  have F4 := F3.tr S3
  have e3 : g2.1 271 = h.1 271 := (F3.1 271 (by decide) (by decide)).trans e271
  obtain ⟨c1', c2', c3', c4', c5'⟩ := rw_fr e3
  have A1' : ∀ b, b < k → g3.1 291 b = capI h b ∧ g3.1 292 b = cosI h b := fun b hb => by
    rw [← c1', ← c2']
    exact A1 b hb
  have A2' : ∀ p, p < n → g3.1 294 p = supI h p := fun p hp => by
    rw [← c3']
    exact A2 p hp
  have e92 : ∀ g4, ScF h1 g4 → DN g4 n k 100 → (∀ b, b < k → capW h y a b = g4.1 291 b ∧ cosW h y a b = g4.1 292 b) → g4.1 294 = g3.1 294 → lx_X9_worth 298 (tf_Cd 298 10) Q 92 [.ref 270, .int (nI a), .int y, .int z1] [] g4 := fun g4 S4 D4 AA A4 => go_X9_worth_92 (by decide) (xp_cco (d := 5) D4 _ (fun v5 g5 p5 => by
    obtain ⟨z2, e5, L5, F5⟩ := p5
    subst e5
    refine go_X9_worth_97 (by decide) (xv_less (d := 9) z2 z1 _ (go_X9_worth_101 (by decide) (q _ _ ⟨fun z => ?_, fun o ho eo ey => ?_⟩)))
    · rcases z with z | z
      · rw [← eA, c] at z
        cases z
      · rw [c2] at z
        cases z
    · have : a = o := (nI_eq (by omega) (by omega)).mp eo
      subst this
      exact ⟨z1, z2, rfl, L00, lvi_r L5 ((S4.1 271 (by decide) (by decide)).trans e271) AA (fun p hp => by rw [A4]; exact (A2' p hp).symm)⟩))
  have k1 := D3.2.1 a ha
  have k2 := D3.2.2.1 a ha
  have r6 : rm g3 a 6 = rm h a 6 := by
    unfold rm
    rw [F4.1 271 (by decide) (by decide), e271]
  rw [ca]
  refine ⟨fun y2 => ⟨v14, v14, ?_⟩, fun y2 => go_X9_worth_57 (by decide) ⟨fun y1 => ⟨v14, ?_⟩, fun y1 => go_X9_worth_72 (by decide) (sx_of (d := 9) a 6 rfl rfl (by omega) (by omega) _ (go_X9_worth_79 (by decide) ⟨fun y6 => ⟨v14, v14, ?_⟩, fun y6 => e92 g3 F4 D3.mono (fun b hb => ?_) rfl⟩))⟩⟩
  · refine e92 (w1 g3 292 a (g3.1 292 a + 1)) (F4.w (by omega)) (D3.w (Or.inr ⟨Or.inl rfl, by rw [tia (by rw [one_ti]; omega) (by rw [one_ti]; omega), one_ti]; omega⟩)) (fun b hb => ?_) (w1_ne (by decide))
    obtain ⟨h1, h2⟩ := A1' b hb
    unfold capW cosW
    rw [w1_ne (by decide)]
    by_cases e : b = a
    · subst e
      rw [if_pos rfl, if_pos rfl, if_pos y2, if_pos y2, w1_eq, h1, h2]
      exact ⟨rfl, rfl⟩
    · rw [if_neg e, if_neg e, w1_at e, h1, h2]
      exact ⟨rfl, rfl⟩
  · rw [ca]
    refine e92 (w1 g3 291 a 0) (F4.w (by omega)) (D3.w (Or.inl ⟨rfl, by rw [z_ti]; omega⟩)) (fun b hb => ?_) (w1_ne (by decide))
    obtain ⟨h1, h2⟩ := A1' b hb
    unfold capW cosW
    rw [w1_ne (show 292 ≠ 291 by decide)]
    by_cases e : b = a
    · subst e
      rw [if_pos rfl, if_pos rfl, if_neg y2, if_neg y2, if_pos y1, w1_eq, h2]
      exact ⟨rfl, rfl⟩
    · rw [if_neg e, if_neg e, w1_at e, h1, h2]
      exact ⟨rfl, rfl⟩
  · rw [ca]
    rw [r6] at y6
    refine e92 (w1 g3 291 a (g3.1 291 a + 1)) (F4.w (by omega)) (D3.w (Or.inl ⟨rfl, by rw [tia (by rw [one_ti]; omega) (by rw [one_ti]; omega), one_ti]; omega⟩)) (fun b hb => ?_) (w1_ne (by decide))
    obtain ⟨h1, h2⟩ := A1' b hb
    unfold capW cosW
    rw [w1_ne (show 292 ≠ 291 by decide)]
    by_cases e : b = a
    · subst e
      rw [if_pos rfl, if_pos rfl, if_neg y2, if_neg y2, if_neg y1, if_pos y6, w1_eq, h1, h2]
      exact ⟨rfl, rfl⟩
    · rw [if_neg e, if_neg e, w1_at e, h1, h2]
      exact ⟨rfl, rfl⟩
  · rw [r6] at y6
    obtain ⟨h1, h2⟩ := A1' b hb
    unfold capW cosW
    rw [h1, h2]
    by_cases e : b = a
    · subst e
      rw [if_pos rfl, if_pos rfl, if_neg y2, if_neg y2, if_neg y1, if_neg y6]
      exact ⟨rfl, rfl⟩
    · rw [if_neg e, if_neg e]
      exact ⟨rfl, rfl⟩
end UFW
