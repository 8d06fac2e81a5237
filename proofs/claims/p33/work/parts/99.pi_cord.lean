/-! ===== the class's grid check to its end; orders looked over ===== -/
theorem px_su_cg : ∀ (ls : List px_L) (f f2 : Nat → Int32), (∀ p, p < 7 → f p = f2 p) → ∀ p, p < 7 → px_su ls f p = px_su ls f2 p
  | [], f, f2, e, p, hp => e p hp
  | L :: r, f, f2, e, p, hp => by
    refine px_su_cg r _ _ (fun q hq => ?_) p hp
    split
    · unfold px_pw
      split
      · rfl
      · exact e q hq
    · split
      · unfold px_pw
        split
        · rfl
        · exact e q hq
      · exact e q hq
theorem px_sum_cg {f f2 : Nat → Int32} (e : ∀ p, p < 7 → f p = f2 p) : ∀ (n i : Nat) (x : Int32), i + n ≤ 7 → px_sum f n i x = px_sum f2 n i x
  | 0, _, _, _ => rfl
  | n + 1, i, x, h => by
    rw [px_sum, px_sum, e i (by omega)]
    exact px_sum_cg e n (i + 1) _ (by omega)
theorem bm_0 {s : Int32 × Int32} {k p : Int32} (hk : k ≠ 0) : (bm s k p).1 ≠ 0 := by
  unfold bm
  split
  · exact hk
  · assumption
theorem px_wt_0 {L : px_L} {i : Nat} {lo hi k : Int32} {s : Int32 × Int32} (hk : k ≠ 0) (z : (px_wt L i lo hi k s).1 = 0) : s.1 = 0 ∧ ¬ (px_no L i).1 < lo ∧ (px_no L i).1 ≤ hi := by
  unfold px_wt at z
  split at z
  · exact absurd z (bm_0 hk)
  · rename_i c
    exact ⟨z, fun y => c (Or.inl y), Decidable.byContradiction fun y => c (Or.inr y)⟩
/-- a line of a grid's text that passes -/
def px_ok (L : px_L) : Prop := (L.1 = 3 ∨ L.1 = 4 → vp_in (px_no L 0).1 7)
theorem px_gl_0 {L : px_L} {t : Nat} {s : Int32 × Int32} (z : (px_gl L t s).1 = 0) : s.1 = 0 ∧ px_ok L := by
  unfold px_gl at z
  split at z
  · rename_i c
    exact ⟨(px_wt_0 (by decide) z).1, fun y => by omega⟩
  · split at z
    · rename_i c
      refine ⟨?_, fun y => by omega⟩
      have zz : (px_wt L 1 0 6 2 (px_wt L 0 0 6 2 (if t = 14 then bm s 2 (nI L.2.1) else s))).1 = 0 := by
        split at z
        · exact absurd z (bm_0 (by decide))
        · exact z
      have z2 := (px_wt_0 (by decide) (px_wt_0 (by decide) zz).1).1
      split at z2
      · exact absurd z2 (bm_0 (by decide))
      · exact z2
    · split at z
      · obtain ⟨a, b, c⟩ := px_wt_0 (by decide) z
        exact ⟨a, fun _ => wt_7 b c⟩
      · split at z
        · rename_i c
          exact ⟨(px_wt_0 (by decide) z).1, fun y => by omega⟩
        · rename_i c _
          exact ⟨z, fun y => absurd y (by assumption)⟩
theorem px_gs_0 : ∀ (ls : List px_L) (t : Nat) (s : Int32 × Int32), (px_gs ls t s).1 = 0 → s.1 = 0 ∧ ∀ (m : Nat) (L : px_L), ls[m]? = some L → px_ok L
  | [], t, s, z => ⟨z, fun m L hm => by cases hm⟩
  | L :: r, t, s, z => by
    obtain ⟨a, b⟩ := px_gs_0 r _ _ z
    obtain ⟨c, d⟩ := px_gl_0 a
    refine ⟨c, fun m L2 hm => ?_⟩
    cases m with
    | zero =>
      cases hm
      exact d
    | succ m => exact b m L2 hm
theorem px_ps_0 {last : Int32} : ∀ (ls : List px_L) (s : Int32 × Int32), (px_ps last ls s).1 = 0 → s.1 = 0
  | [], s, z => z
  | L :: r, s, z => by
    have a := px_ps_0 r _ z
    split at a
    · exact (px_wt_0 (by decide) (px_wt_0 (by decide) a).1).1
    · split at a
      · exact (px_wt_0 (by decide) a).1
      · exact a
section SX7
variable {h g : LH} {d : Nat}
theorem w1_pw {i : Nat} {v : Int32} : (w1 g 264 i v).1 264 = px_pw (g.1 264) i v := by
  funext j
  unfold px_pw
  split
  · rename_i z
    rw [z, w1_eq]
  · rename_i z
    rw [w1_at z]
theorem LSg.f4 {i : Nat} {ls : List px_L} (S : LSg h i ls) (F : F4 h g) : LSg g i ls := fun m L hm => ⟨(S m L hm).1.same (fun c h1 h2 => F.1 c (by omega)), (S m L hm).2⟩
theorem sss_3 {Q : tf_Q} : ∀ (f i : Nat) (x : Int32), i + f = 7 → Q (.int (px_sum (g.1 264) f i x)) g → lx_X4_sumOfSupplies d (tf_Cd 298 d) Q 103 [.ref 259, .int x, .int (nI i)] [] g
  | 0, i, x, hf, q => go_X4_sumOfSupplies_103 ⟨fun _ => go_X4_sumOfSupplies_124 q, fun c => absurd (show nI 7 ≤ nI i from nI_le (by omega) (by omega)) c⟩
  | f + 1, i, x, hf, q => by
    refine go_X4_sumOfSupplies_103 ⟨fun c => absurd (show nI 7 ≤ nI i from c) (nI_ge (by omega) (by omega)), fun _ => ⟨vi_of (by omega) (by omega), ?_⟩⟩
    rw [nI_1, nI_clamp (by omega)]
    exact sss_3 f (i + 1) _ (by omega) q
theorem sss_2 {Q : tf_Q} : ∀ (ls : List px_L) (i : Nat) (g : LH), LSg g i ls → (∀ (m : Nat) (L : px_L), ls[m]? = some L → px_ok L) → g.1 259 0 = nI (i + ls.length) → i + ls.length ≤ 80 → (∀ g2, F4 g g2 → g2.1 264 = px_su ls (g.1 264) → Q (.int (px_sum (g2.1 264) 7 0 0)) g2) → lx_X4_sumOfSupplies (d + 1) (tf_Cd 298 (d + 1)) Q 23 [.ref 259, .int (nI i), tf_z] [] g
  | [], i, g, S, K, e0, hc, q => go_X4_sumOfSupplies_23 ⟨fun _ => go_X4_sumOfSupplies_99 (sss_3 7 0 0 (by omega) (q g F4.rf rfl)), fun c1 => absurd (by rw [e0]; exact nI_le (by simp) (by omega)) c1⟩
  | L :: r, i, g, S, K, e0, hc, q => by
    have A := S.hd
    have K0 : px_ok L := K 0 L rfl
    simp only [List.length_cons] at e0 hc
    have e : (nI i).toNatClampNeg = i := nI_clamp (by omega)
    have vl : vp_in (nI i) 80 := vi_of (by omega) (by omega)
    have ev : (g.1 260 i).toNatClampNeg = L.1 := A.1.vb A.2.1
    have gar := px_gar L.1 A.2.1
    have al := A.2.2
    have nx : ∀ g2, F4 g g2 → g2.1 264 = (if L.1 = 3 then px_pw (g.1 264) (px_no L 0).1.toNatClampNeg (px_no L 1).1 else if L.1 = 4 then px_pw (g.1 264) (px_no L 0).1.toNatClampNeg (-(px_no L 1).1) else g.1 264) → lx_X4_sumOfSupplies (d + 1) (tf_Cd 298 (d + 1)) Q 93 [.ref 259, .int (nI i), tf_z] [] g2 := by
      intro g2 F2 e2
      refine go_X4_sumOfSupplies_93 ?_
      rw [nI_1]
      exact sss_2 r (i + 1) g2 (S.tl.f4 F2) (fun m L2 hm => K (m + 1) L2 hm) (by rw [F2.1 259 (by decide), e0]; congr 1; omega) (by omega) (fun g3 F3 e3 => q g3 ⟨fun e he => (F3.1 e he).trans (F2.1 e he), F3.2.trans F2.2⟩ (by rw [e3, e2]; rfl))
    refine go_X4_sumOfSupplies_23 ⟨fun c1 => absurd (by rw [e0] at c1; exact c1) (nI_ge (by omega) (by omega)), fun _ => ?_⟩
    rw [e, ev]
    refine ⟨⟨vl, A.vin⟩, fun c1 => ?_, fun c1 => go_X4_sumOfSupplies_63 ?_⟩
    · have := gar.2.2.1 (Or.inl c1)
      refine sx_nb (d := d) (i := 0) (by omega) (by decide) rfl _ (go_X4_sumOfSupplies_53 k264.1 k264.2.1 k264.2.2 (sx_nb (d := d) (i := 1) (by omega) (by decide) rfl _ ?_))
      rw [(A.1.no (i := 0) (by omega)).1, (A.1.no (i := 1) (by omega)).1]
      refine go_X4_sumOfSupplies_59 k264.1 k264.2.1 k264.2.2 ⟨K0 (Or.inl c1), nx _ F4.rf.w ?_⟩
      rw [if_pos c1]
      exact w1_pw
    · rw [e, ev]
      refine ⟨⟨vl, A.vin⟩, fun c2 => ?_, fun c2 => nx g F4.rf (by rw [if_neg c1, if_neg c2])⟩
      have := gar.2.2.1 (Or.inr c2)
      refine sx_nb (d := d) (i := 0) (by omega) (by decide) rfl _ (go_X4_sumOfSupplies_85 k264.1 k264.2.1 k264.2.2 (sx_nb (d := d) (i := 1) (by omega) (by decide) rfl _ ?_))
      rw [(A.1.no (i := 0) (by omega)).1, (A.1.no (i := 1) (by omega)).1]
      refine go_X4_sumOfSupplies_91 k264.1 k264.2.1 k264.2.2 ⟨K0 (Or.inr c2), nx _ F4.rf.w ?_⟩
      rw [if_neg c1, if_pos c2]
      exact w1_pw
theorem sss_1 {ls : List px_L} (S : LSg h 0 ls) (K : ∀ (m : Nat) (L : px_L), ls[m]? = some L → px_ok L) (e0 : h.1 259 0 = nI ls.length) (hc : ls.length ≤ 80) {Q : tf_Q} (q : ∀ g, F4 h g → (∀ p, p < 7 → g.1 264 p = px_su ls (fun _ => 0) p) → Q (.int (px_sum (px_su ls (fun _ => 0)) 7 0 0)) g) : ∀ (f i : Nat) (g : LH), i + f = 7 → F4 h g → (∀ p, p < i → g.1 264 p = 0) → lx_X4_sumOfSupplies (d + 1) (tf_Cd 298 (d + 1)) Q 2 [.ref 259, .int (nI i), tf_z] [] g
  | 0, i, g, hf, F, z => by
    refine go_X4_sumOfSupplies_2 ⟨fun _ => go_X4_sumOfSupplies_21 ?_, fun c1 => absurd (show nI 7 ≤ nI i from nI_le (by omega) (by omega)) c1⟩
    refine sss_2 ls 0 g (S.f4 F) K (by rw [F.1 259 (by decide), e0]; congr 1; omega) (by omega) (fun g2 F2 e2 => ?_)
    have E : ∀ p, p < 7 → g2.1 264 p = px_su ls (fun _ => 0) p := fun p hp => by
      rw [e2]
      exact px_su_cg ls _ _ (fun p hp => z p (by omega)) p hp
    rw [px_sum_cg E 7 0 0 (by omega)]
    exact q g2 ⟨fun e he => (F2.1 e he).trans (F.1 e he), F2.2.trans F.2⟩ E
  | f + 1, i, g, hf, F, z => by
    refine go_X4_sumOfSupplies_2 ⟨fun c => absurd (show nI 7 ≤ nI i from c) (nI_ge (by omega) (by omega)), fun _ => ⟨vi_of (by omega) (by omega), ?_⟩⟩
    rw [nI_1, nI_clamp (by omega)]
    refine sss_1 S K e0 hc q f (i + 1) (w1 g 264 i 0) (by omega) F.w (fun p hp => ?_)
    by_cases pi : p = i
    · rw [pi, w1_eq]
    · rw [w1_at pi]
      exact z p (by omega)
theorem sx_ss {ls : List px_L} (S : LSg h 0 ls) (K : ∀ (m : Nat) (L : px_L), ls[m]? = some L → px_ok L) (e0 : h.1 259 0 = nI ls.length) (hc : ls.length ≤ 80) : tf_Sp (d + 2) 237 [.ref 259] h (fun v g => v = .int (px_sum (px_su ls (fun _ => 0)) 7 0 0) ∧ F4 h g ∧ ∀ p, p < 7 → g.1 264 p = px_su ls (fun _ => 0) p) := fun Q q => en_X4_sumOfSupplies (go_X4_sumOfSupplies_0 (sss_1 S K e0 hc (fun g F E => q _ g ⟨rfl, F, E⟩) 7 0 h (by omega) F4.rf (fun p hp => absurd hp (by omega))))
theorem F4.fpE (F : F4 h g) : (g.1 259 1, g.1 259 2) = (h.1 259 1, h.1 259 2) := by

  rw [F.1 259 (by decide)]
theorem sx_cg {ls : List px_L} (S : LSg h 0 ls) (e0 : h.1 259 0 = nI ls.length) (hc : ls.length ≤ 80) (x1 : Int32) : tf_Sp (d + 4) 232 [.ref 259, .int x1] h (fun _ g => FG h g ∧ fp g = px_cg ls x1 (fp h) ∧ ((fp g).1 = 0 → ∀ p, p < 7 → g.1 264 p = px_su ls (fun _ => 0) p)) := by
  intro Q q
  refine en_X4_checkGrid (go_X4_checkGrid_0 (scg_L ls 0 0 h S S.vb (by rw [e0]; congr 1; omega) (by omega) (Nat.le_refl _) (fun g2 x2 x3 F2 z2 => ?_)))
  have k51 : ∀ g3, FL h g3 → fp g3 = (if (px_gs ls 0 (fp h)).1 = 0 then px_ps (px_pt ls 2 - 1) ls (px_gs ls 0 (fp h)) else px_gs ls 0 (fp h)) → lx_X4_checkGrid (d + 3) (tf_Cd 298 (d + 3)) Q 51 [.ref 259, .int x1, .int x2, .int x3] [] g3 := by
    intro g3 F3 z3
    refine go_X4_checkGrid_51 ⟨fun c1 => ?_, fun c1 => go_X4_checkGrid_71 (q _ g3 ⟨F3.fg, ?_, fun y => absurd y c1⟩)⟩
    · have c2 : (if (px_gs ls 0 (fp h)).1 = 0 then px_ps (px_pt ls 2 - 1) ls (px_gs ls 0 (fp h)) else px_gs ls 0 (fp h)).1 = 0 := by rw [← z3]; exact c1
      have c3 : (px_gs ls 0 (fp h)).1 = 0 := by
        split at c2
        · assumption
        · exact c2
      refine sx_ss (d := d + 1) (S.fl F3) (px_gs_0 ls 0 _ c3).2 (by rw [F3.2.2 0 (by decide) (by decide)]; exact e0) hc _ (fun v g4 p => ?_)
      obtain ⟨rfl, F4', E⟩ := p
      have f4 : fp g4 = fp g3 := F4'.fpE
      refine go_X4_checkGrid_62 ⟨fun c4 => go_X4_checkGrid_71 (q _ g4 ⟨F3.fg.tr F4'.fg, ?_, fun _ => E⟩), fun c4 => sx_bl (d := d + 2) _ _ _ (go_X4_checkGrid_71 (q _ _ ⟨(F3.fg.tr F4'.fg).tr bl_fl.fg, ?_, fun y => ?_⟩))⟩
      · rw [f4, z3]
        unfold px_cg
        simp only []
        rw [if_pos c2, if_pos c4]
      · rw [fp_bl, f4, z3]
        unfold px_cg
        simp only []
        rw [if_pos c2, if_neg c4]
      · rw [fp_bl] at y
        exact absurd y (bm_0 (by decide))
    · have c2 : ¬ (if (px_gs ls 0 (fp h)).1 = 0 then px_ps (px_pt ls 2 - 1) ls (px_gs ls 0 (fp h)) else px_gs ls 0 (fp h)).1 = 0 := by rw [← z3]; exact c1
      rw [z3]
      unfold px_cg
      simp only []
      rw [if_neg c2]
  refine go_X4_checkGrid_40 ⟨fun c1 => sx_cpt (d := d) (S.fl F2) (by rw [F2.2.2 0 (by decide) (by decide)]; exact e0) hc _ (fun _ g3 p => k51 g3 (F2.tr p.1) ?_), fun c1 => k51 g2 F2 ?_⟩
  · have c2 : (px_gs ls 0 (fp h)).1 = 0 := by rw [← z2]; exact c1
    rw [p.2, z2, if_pos c2]
  · have c2 : ¬ (px_gs ls 0 (fp h)).1 = 0 := by rw [← z2]; exact c1
    rw [z2, if_neg c2]
end SX7
