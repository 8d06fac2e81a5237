/-! ===== trip on both sides: the loop ===== -/
section TST
variable {h g c cc g1 : LH} {t M d n k m x : Nat}
/-- what is told of the trip that was just gone -/
theorem x_tell {F : LH} {x1 x2 x3 x4 : Int32} {T t : Nat} {Q : tf_Q} (hT : T ≤ 7) (ht : t < 14) (eX : x1 = nI t) (h4 : x4 ≠ 0) (lt : nI t < F.1 244 0) (e5 : F.1 245 t = g.1 270 37) (e6 : F.1 246 t = nI T) (e36 : g.1 270 36 = nI T) (e7 : ∀ i, i < T → F.1 247 (t * 7 + i) = g.1 289 i) (q : ∀ g : LH, Q (.int (RTv F x1 x2)) g) : lx_X9_trip 298 (tf_Cd 298 (d + 4)) Q 65 [.ref 270, .int x1, .int x2, .int x3, .int x4] [] g := by
  have nx : ¬ x1 = -1 := by
    rw [eX]
    exact nI_neg1 (by omega)
  have n0 : ¬ x1 < 0 := by
    rw [eX]
    exact nI_nlt (a := t) (b := 0) (by omega) (by omega)
  have q2 : ∀ (v : Int32) (g : LH), v = RTv F x1 x2 → Q (.int v) g := fun v g e => by rw [e]; exact q g
  clear q
  have ct : x1.toNatClampNeg = t := by rw [eX]; exact nI_clamp (by omega)
  unfold RTv tr_told at q2
  rw [if_neg nx, if_neg n0, if_pos (by rw [eX]; exact lt), ct, e5, e6] at q2
  refine go_X9_trip_65 (by decide) ⟨fun z => absurd z h4, fun _ => go_X9_trip_85 (by decide) ⟨fun y0 => go_X9_trip_138 (by decide) (q2 _ _ (by rw [if_pos y0])), fun y0 => go_X9_trip_96 (by decide) ⟨fun y1 => go_X9_trip_138 (by decide) (q2 _ _ (by rw [if_neg y0, if_pos y1]; exact e36)), fun y1 => go_X9_trip_108 (by decide) ?_⟩⟩⟩
  rw [if_neg y0, if_neg y1] at q2
  rw [e36]
  have hin : rf_in (x2 - 10) 0 (nI T - 1) = true → ∃ i, i < T ∧ x2 - 10 = nI i := by
    intro b
    rcases Nat.eq_zero_or_pos T with z | z
    · unfold rf_in at b
      simp only [Bool.and_eq_true, Bool.not_eq_true', decide_eq_false_iff_not] at b
      rw [z] at b
      have h1 := Int32.not_lt.mp b.1
      have h2 := Int32.not_lt.mp b.2
      exact absurd (Int32.le_trans h1 h2) (by decide)
    · have e : nI T - 1 = nI (T - 1) := by
        rw [show T = T - 1 + 1 by omega]
        exact nI_pred _
      rw [e] at b
      obtain ⟨j, -, h2, h3⟩ := rf_in_t (l := 0) (u := T - 1) (by omega) b (by omega)
      exact ⟨j, by omega, h3⟩
  have hin2 : ∀ i, i < T → rf_in (nI i) 0 (nI T - 1) = true := by
    intro i hi
    have e : nI T - 1 = nI (T - 1) := by
      rw [show T = T - 1 + 1 by omega]
      exact nI_pred _
    unfold rf_in
    rw [e]
    have a1 : ¬ nI i < 0 := nI_nlt (a := i) (b := 0) (by omega) (by omega)
    have a2 : ¬ nI (T - 1) < nI i := nI_nlt (by omega) (by omega)
    simp [a1, a2]
  have x10 : ∀ i, x2 - 10 = nI i → x2 = nI (i + 10) := fun i e => by
    have : x2 = nI i + 10 := by rw [← e]; exact (Int32.sub_add_cancel x2 10).symm
    rw [this]
    exact nI_add i 10
  refine sx_in (d := d + 3) _ _ _ _ (go_X9_trip_122 (by decide) ⟨fun b => go_X9_trip_137 (by decide) (go_X9_trip_138 (by decide) (q2 _ _ ?_)), fun b => ?_⟩)
  · rw [bI_0] at b
    by_cases c5 : x2 < 10
    · rw [if_pos c5]
    · rw [if_neg c5, if_neg]
      intro c6
      obtain ⟨j, hj, e⟩ := m10 hT c5 c6
      have e2 : x2 - 10 = nI j := by
        rw [e]
        exact nI_sub (a := j + 10) (c := 10) (by omega)
      rw [e2] at c6 b
      have := (nI_ltI (by omega) (by omega)).mp c6
      rw [hin2 j this] at b
      cases b
  · rw [bI_0, Bool.not_eq_false] at b
    obtain ⟨i, hi, e⟩ := hin b
    have e2 := x10 i e
    refine ⟨by rw [e]; exact vi_of (by omega) (by omega), go_X9_trip_138 (by decide) (q2 _ _ ?_)⟩
    rw [e, if_neg (by rw [e2]; exact nI_nlt (a := i + 10) (b := 10) (by omega) (by omega)), if_pos (nI_lt hi (by omega)), eX, e2]
    have : nI t * 7 + nI (i + 10) - 10 = nI (t * 7 + i) := by
      rw [show (7 : Int32) = nI 7 from rfl, show (10 : Int32) = nI 10 from rfl, nI_mul, nI_add, nI_sub (by omega)]
      congr 1
    rw [this, nI_clamp (by omega), nI_clamp (by omega), e7 i hi]
theorem xtr {F : LH} {x1 x2 : Int32} {Q : tf_Q} (q : ∀ g : LH, Q (.int (RTv F x1 x2)) g) : ∀ (f t : Nat) (c g : LH) (K : tf_Q), t + f = 14 → RM g n k → LN g k → EQ c g k → NO c 0 n k → TRI c t → cv (nzv g k) k + t ≤ 14 → (∀ j, j < t → x1 ≠ nI j) → tr_lp 0 n k f t (tr_s1 c 0 n k n 0) c = F → (∀ (y : Int32) (g2 : LH), lx_X9_trip 298 (tf_Cd 298 (d + 4)) Q 43 [.ref 270, .int x1, .int x2, .int (nI t), .int y] [] g2 → K (.int y) g2) → tf_Cd 298 (d + 4) 90 [.ref 270] g K
  | f, t, c, g, K, htf, H, L, E, Hc, T, hz, no, eF, hK => by
    have hn := H.1
    refine xp_gt (d := d) H L E Hc (tr := t) _ (fun v g2 p => ?_)
    obtain ⟨F2, L2, ⟨ev, eg, es⟩ | ⟨ev, p, w, l, hp, es, hw, hl, k7, k8, r8, r7, r36, r37, le, b, hb, b1, b2⟩⟩ := p
    · subst ev
      subst eg
      have eFc : F = c := by
        rw [← eF, es]
        cases f with
        | zero => rfl
        | succ f =>
          rw [tr_lp, if_pos rfl]
      subst eFc
      refine hK _ _ (go_X9_trip_43 (by decide) ⟨fun _ => go_X9_trip_65 (by decide) ⟨fun _ => ⟨fun a1 => ⟨fun a2 => go_X9_trip_84 (by decide) ?_, fun a2 => go_X9_trip_83 (by decide) (go_X9_trip_84 (by decide) ?_)⟩, fun a1 => go_X9_trip_83 (by decide) (go_X9_trip_84 (by decide) ?_)⟩, fun z => absurd rfl z⟩, fun z => absurd rfl z⟩)
      · have := q g2
        unfold RTv at this
        rw [if_pos a1, if_pos a2, T.1] at this
        exact this
      · have := q g2
        unfold RTv at this
        rw [if_pos a1, if_neg a2] at this
        exact this
      · have := q g2
        unfold RTv at this
        rw [if_neg a1, told_no T no] at this
        exact this
    · subst ev
      have more : cv (nzv g2 k) k + 1 ≤ cv (nzv g k) k := by
        refine cv_more (c := b) (fun a ha => ?_) ?_ ?_ k hb
        · unfold nzv at ha ⊢
          have ha := of_decide_eq_true ha
          have := le a ha.1
          exact decide_eq_true ⟨ha.1, by omega⟩
        · unfold nzv
          exact decide_eq_false (fun z => z.2 b1)
        · unfold nzv
          exact decide_eq_true ⟨hb, b2⟩
      cases f with
      | zero => omega
      | succ f =>
        have vp : vp_in (nI p) 7 := vi_of (by omega) (by omega)
        obtain ⟨c2, e2, H2, T2, Ft2, -, -⟩ := lp_step (d := 0) Hc T (by omega) vp
        have ck7 : ((tr_g c 0 k (nI p)).1 244 7).toNatClampNeg = w := by rw [k7]; exact nI_clamp (by omega)
        have ck8 : ((tr_g c 0 k (nI p)).1 244 8).toNatClampNeg = l := by rw [k8]; exact nI_clamp (by omega)
        have eF2 : tr_lp 0 n k f (t + 1) (tr_s1 c2 0 n k n 0) c2 = F := by
          rw [tr_lp, es, if_neg (nI_neg1 (by omega))] at eF
          dsimp only at eF
          rw [← e2] at eF
          exact eF
        rw [ck7, ck8] at e2
        unfold tr_kp kp3 at e2
        generalize tr_g c 0 k (nI p) = C at *
        generalize kp2 (kp_x C w l) t l (w - l) l C = CC at *
        have c248 : c2.1 248 = CC.1 248 := by rw [e2, w1_ne (by decide), w1_ne (by decide), w1_ne (by decide)]
        have c247 : c2.1 247 = CC.1 247 := by rw [e2, w1_ne (by decide), w1_ne (by decide), w1_ne (by decide)]
        have c245 : c2.1 245 t = kp_x C w l := by rw [e2, w1_ne (by decide), w1_ne (by decide), w1_eq]
        have c246 : c2.1 246 t = nI (w - l) := by rw [e2, w1_ne (by decide), w1_eq]
        have E3 : EQ c2 g2 k := fun a ha => by
          obtain ⟨-, a2, a3⟩ := E a ha
          unfold rm at *
          rw [F2.1 271 (by decide) (by decide)]
          exact ⟨by rw [c248]; exact r8 a ha, by rw [Ft2.1 (0 + 2) (by decide)]; exact a2, by rw [Ft2.1 (0 + 3) (by decide)]; exact a3⟩
        obtain ⟨⟨t2, ht2, T3⟩, K2⟩ := lp_keep f (t + 1) (tr_s1 c2 0 n k n 0) c2 H2 T2 (by omega) (tr_s1_in H2.pts.2 n 0 (by have := H2.pts.2; omega))
        rw [eF2] at T3 K2
        obtain ⟨s5, s6, s7⟩ := K2 t (by omega)
        have n1 : ¬ (1 : Int32) = 0 := by decide
        refine hK _ _ (go_X9_trip_43 (by decide) ⟨fun z => absurd z n1, fun _ => ⟨fun ex => ?_, fun ex => ?_⟩⟩)
        · refine x_tell (F := F) (T := w - l) (t := t) (by omega) (by omega) ex.symm n1 ?_ ?_ ?_ r36 (fun i hi => ?_) q
          · rw [T3.1]
            exact nI_lt (by omega) (by have := T3.2.1; omega)
          · rw [s5, c245, r37]
          · rw [s6, c246]
          · rw [s7 i (by omega), c247]
            exact r7 i hi
        · refine xtr q f (t + 1) c2 g2 _ (by omega) (H.sc F2) L2 E3 H2 T2 (by omega) (fun j hj e => ?_) eF2 (fun y g3 r => go_X9_trip_60 (by decide) ?_)
          · by_cases ej : j = t
            · rw [ej] at e
              exact ex e.symm
            · exact no j (by omega) e
          · rw [nI_1]
            exact r
theorem xt_c (G : GI h n k M) {x1 x2 : Int32} {Q : tf_Q} (q : ∀ (x3 : Int32) (g : LH), ScF h g → (∀ b, b < k → g.1 288 b = rm h b 4) → lx_X9_trip 298 (tf_Cd 298 (d + 1)) Q 35 [.ref 270, .int x1, .int x2, .int x3, tf_z] [] g) : ∀ (f a : Nat) (g : LH), a + f = k → ScF h g → (∀ b, b < a → g.1 288 b = rm h b 4) → lx_X9_trip 298 (tf_Cd 298 (d + 1)) Q 7 [.ref 270, .int x1, .int x2, .int (nI a), tf_z] [] g
  | 0, a, g, ha, F, L => by
    have hn := G.1.1
    exact go_X9_trip_7 (by decide) ⟨fun _ => q _ g F (fun b hb => L b (by omega)), fun z => absurd ((G.1.sc F).k2 (by omega) (by omega)) z⟩
  | f + 1, a, g, ha, F, L => by
    have hn := G.1.1
    have K : tf_K 288 = 8 := by decide +kernel
    have N : tf_N 288 = 14 := by decide +kernel
    have h3 : rm g a 4 = rm h a 4 := by
      unfold rm
      rw [F.1 271 (by decide) (by decide)]
    refine go_X9_trip_7 (by decide) ⟨fun z => absurd z ((G.1.sc F).k1 (by omega)), fun _ => sx_of (d := d) a 4 rfl rfl (by omega) (by omega) _ (go_X9_trip_28 (by decide) K (ny0 := 14) N (by decide) ⟨vi_of (by omega) (by omega), ?_⟩)⟩
    rw [nI_clamp (by omega), nI_1, h3]
    refine xt_c G q f (a + 1) (w1 g 288 a (rm h a 4)) (by omega) (F.w (by omega)) (fun c hc => ?_)
    by_cases e : c = a
    · rw [e, w1_eq]
    · rw [w1_at e]
      exact L c (by omega)
theorem tr_cf_at {b : Nat} (hb : b < 200) : ∀ (f a : Nat) (g : LH), (∀ c, c < a → g.1 248 c = g.1 (b + 6) c) → ∀ c, c < a + f → (tr_cf b f a g).1 248 c = g.1 (b + 6) c
  | 0, a, g, hc => hc
  | f + 1, a, g, hc => fun c hc2 => by
    rw [tr_cf, tr_cf_at hb f (a + 1) _ (fun c2 hc3 => ?_) c (by omega), w1_ne (by omega)]
    rw [w1_ne (show b + 6 ≠ 248 by omega)]
    by_cases e : c2 = a
    · rw [e, w1_eq]
    · rw [w1_at e]
      exact hc c2 (by omega)
theorem xv_trip {gF : LH} (G : GI h n k M) (N : NR h 0 h n k m) (Hc : NO h 0 n k) (e271 : gF.1 271 = h.1 271) (x y : Int32) : XV 91 [.int x, .int y] gF (RTv (tr_sp h 0 n k) x y) := by
  intro Q q
  have hn := G.1.1
  have GF : GI gF n k M := G.cong (fun i _ => by rw [e271])
  have G1 : GI (w1 gF 270 0 0) n k M := GF.w (by decide)
  obtain ⟨⟨-, -, E0, F0, -, -⟩, -⟩ := N
  have L := tr_cf_lo (b := 0) k 0 (w1 h 244 0 0)
  have FC : Ft h (tr_c h 0 k) := ⟨fun e he => by unfold tr_c; rw [L.1 e (by omega), w1_ne (by omega)], by unfold tr_c; rw [L.2]⟩
  have HC : NO (tr_c h 0 k) 0 n k := Hc.trp (fun e he => FC.1 e (by omega))
  have T : TRI (tr_c h 0 k) 0 := ⟨by unfold tr_c; rw [L.1 244 (by decide), w1_eq]; rfl, by omega, fun j hj => absurd hj (by omega)⟩
  have c8 : ∀ a, a < k → (tr_c h 0 k).1 248 a = h.1 6 a := fun a ha => by
    unfold tr_c
    rw [tr_cf_at (by decide) k 0 _ (fun c hc => absurd hc (by omega)) a (by omega), w1_ne (by decide)]
  refine en_X9_trip (by decide) (go_X9_trip_0 (by decide) ?_)
  show lx_X9_trip 298 (tf_Cd 298 10) Q 7 [.ref 270, .int x, .int y, .int (nI 0), tf_z] [] (w1 gF 270 0 0)
  have e1 : (w1 gF 270 0 0).1 271 = h.1 271 := by rw [w1_ne (by decide), e271]
  generalize w1 gF 270 0 0 = g1 at *
  refine xt_c (d := 9) G1 (fun x3 g F l8 => go_X9_trip_35 (by decide) ?_) k 0 g1 (by omega) ScF.rf (fun b hb => absurd hb (by omega))
  have eg : g.1 271 = h.1 271 := by rw [F.1 271 (by decide) (by decide), e1]
  have LNg : LN g k := fun a ha => by
    obtain ⟨v, b, h1, h2, h3, -⟩ := G1.2.2.2.2.1.2.1 a ha
    exact ⟨v, by omega, by rw [l8 a ha]; exact h3⟩
  have E : EQ (tr_c h 0 k) g k := fun a ha => by
    have r4 : rm g1 a 4 = rm h a 4 := by unfold rm; rw [e1]
    have r0 : rm g a 0 = rm h a 0 := by unfold rm; rw [eg]
    have r1 : rm g a 1 = rm h a 1 := by unfold rm; rw [eg]
    refine ⟨by rw [c8 a ha, l8 a ha, r4]; exact (F0.1 a ha).2, ?_, ?_⟩
    · rw [FC.1 (0 + 2) (by decide), r0]
      exact (E0.1 a ha).1
    · rw [FC.1 (0 + 3) (by decide), r1]
      exact (E0.1 a ha).2
  have c14 := cv_le (V := nzv g k) k
  exact xtr (d := 6) (F := tr_sp h 0 n k) (fun g => q _ g rfl) 14 0 (tr_c h 0 k) g _ rfl (G1.1.sc F) LNg E HC T (by omega) (fun j hj => absurd hj (by omega)) rfl (fun y2 g2 r => go_X9_trip_41 (by decide) r)
theorem cv_trip (H : NO h 0 n k) (x y : Int32) : tf_Rt 11 202 [.ref 240, .int x, .int y] h (.int (RTv (tr_sp h 0 n k) x y)) (tr_sp h 0 n k) ∧ Ft h (tr_sp h 0 n k) := by
  obtain ⟨s1, ⟨t, T⟩, F⟩ := sx_split (d := 7) H
  generalize tr_sp h 0 n k = g at s1 T F
  have s2 := sx_trtold (d := 9) T x y
  refine ⟨fun Q q => en_X8_trip (by decide) (go_X8_trip_0 (by decide) (s1 _ (go_X8_trip_11 (by decide) ⟨fun c => ⟨fun c2 => go_X8_trip_31 (by decide) ?_, fun c2 => go_X8_trip_30 (by decide) (go_X8_trip_31 (by decide) ?_)⟩, fun c => go_X8_trip_32 (by decide) (s2 _ (go_X8_trip_41 (by decide) ?_))⟩))), F⟩
  · unfold RTv at q
    rw [if_pos c, if_pos c2] at q
    exact q
  · unfold RTv at q
    rw [if_pos c, if_neg c2] at q
    exact q
  · unfold RTv at q
    rw [if_neg c] at q
    exact q
theorem ze_23 (I : IZ h t) (x y : Int32) : lk_eq h 202 [.ref 240, .int x, .int y] 91 [.ref 270, .int x, .int y] (fun g => IZ g (t + 1)) := by
  obtain ⟨n, k, m, hm, H, G, N⟩ := I.1.1
  obtain ⟨r, F⟩ := cv_trip H.1 x y
  exact ze_q (iz_23 I x y) r (xv_trip G N H.1 (F.1 271 (by decide)) x y)
end TST
