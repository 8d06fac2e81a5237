/-! ===== the reference: least, worth, toll ===== -/
section R93
variable {h g : LH} {n k M d : Nat} {P : Nat → Int}
theorem sp_sd {R : Nat → Nat} (B : CB g n k) (C : CH g n k R P) {t : Nat} (ht : t < n) (neg : ¬ 0 ≤ g.1 294 t) (re : g.1 295 t ≠ 1000000) : tf_Sp (d + 3) 100 [.ref 270, .int (nI t)] g (fun _ g2 => CB g2 n k ∧ PT g2 k P ∧ ScF g g2) := by
  intro Q q
  have hn := B.1.1
  have v7 : vp_in (nI t) 7 := vi_of (by omega) (by omega)
  have ct : (nI t).toNatClampNeg = t := nI_clamp (by omega)
  have sb := B.2.2.2 t ht
  have sneg : (g.1 294 t).toInt < 0 := by
    rw [Int32.not_le, Int32.lt_iff_toInt_lt, z_ti] at neg
    exact neg
  have hm : ∃ m : Nat, 1 ≤ m ∧ m ≤ 5000 ∧ -(g.1 294 t) = nI m ∧ (m : Int) = -(g.1 294 t).toInt := by
    have e1 := tin (x := g.1 294 t) (by omega) (by omega)
    have hp0 : ¬ -(g.1 294 t) < 0 := by
      rw [Int32.lt_iff_toInt_lt, z_ti]
      omega
    obtain ⟨m2, hm2, em2⟩ := nI_of hp0
    have ti := congrArg Int32.toInt em2
    rw [nI_toInt hm2] at ti
    exact ⟨m2, by omega, by omega, em2, by omega⟩
  obtain ⟨m, hm1, hm2, em, mt⟩ := hm
  refine en_X9_sendsTo (by decide) (go_X9_sendsTo_0 (by decide) ⟨v7, ?_⟩)
  rw [ct, em]
  refine sd_1 (d := d) B C (t := t) (fun J m x4 hm1 hm2 hJn last pos st => ?_) (R t + 1) 0 m _ (show R t < R t + 1 by omega) hm1 hm2 ht re (fun i hi => absurd hi (by omega))
  have vJ : vp_in (nI (pw g J t)) 7 := vi_of (by omega) (by omega)
  have cJ : (nI (pw g J t)).toNatClampNeg = pw g J t := nI_clamp (by omega)
  refine go_X9_sendsTo_80 (by decide) ⟨vJ, sx_lesser (d := d + 1) _ _ _ (go_X9_sendsTo_90 (by decide) ?_)⟩
  rw [cJ, ct]
  have sJ := B.2.2.2 _ hJn
  have spos : 0 < (g.1 294 (pw g J t)).toInt := by
    rw [Int32.not_le, Int32.lt_iff_toInt_lt, z_ti] at pos
    exact pos
  have neJ : pw g J t ≠ t := fun z => by
    rw [z] at spos
    omega
  have mn : ∃ m3 : Nat, 1 ≤ m3 ∧ m3 ≤ m ∧ (m3 : Int) ≤ (g.1 294 (pw g J t)).toInt ∧ rf_le (nI m) (g.1 294 (pw g J t)) = nI m3 := by
    obtain ⟨s, hs, es⟩ := nI_of (x := g.1 294 (pw g J t)) (by rw [Int32.lt_iff_toInt_lt, z_ti]; omega)
    have ti := congrArg Int32.toInt es
    rw [nI_toInt hs] at ti
    unfold rf_le
    rw [es]
    by_cases c : nI s ≤ nI m
    · rw [if_pos c]
      exact ⟨s, by omega, (nI_leI hs (by omega)).mp c, by rw [nI_toInt hs]; omega, rfl⟩
    · rw [if_neg c]
      have : ¬ s ≤ m := fun z => c (nI_le z (by omega))
      exact ⟨m, hm1, Nat.le_refl _, by rw [nI_toInt hs]; omega, rfl⟩
  obtain ⟨m3, b1, b2, b3, b4⟩ := mn
  rw [b4]
  refine ⟨vJ, vJ, v7, v7, ?_⟩
  show lx_X9_sendsTo 298 (tf_Cd 298 (d + 2)) Q 113 _ [] (w1 (w1 g 294 (pw g J t) (g.1 294 (pw g J t) - nI m3)) 294 t ((w1 g 294 (pw g J t) (g.1 294 (pw g J t) - nI m3)).1 294 t + nI m3))
  have x1 : (w1 g 294 (pw g J t) (g.1 294 (pw g J t) - nI m3)).1 294 t = g.1 294 t := w1_at (fun z => neJ z.symm)
  rw [x1]
  have y0 : ∀ e, e ≠ 294 → (w1 (w1 g 294 (pw g J t) (g.1 294 (pw g J t) - nI m3)) 294 t (g.1 294 t + nI m3)).1 e = g.1 e := fun e he => by rw [w1_ne he, w1_ne he]
  have y1 : (w1 (w1 g 294 (pw g J t) (g.1 294 (pw g J t) - nI m3)) 294 t (g.1 294 t + nI m3)).1 294 t = g.1 294 t + nI m3 := w1_eq
  have y2 : (w1 (w1 g 294 (pw g J t) (g.1 294 (pw g J t) - nI m3)) 294 t (g.1 294 t + nI m3)).1 294 (pw g J t) = g.1 294 (pw g J t) - nI m3 := (w1_at neJ).trans w1_eq
  have y3 : ∀ p, p ≠ t → p ≠ pw g J t → (w1 (w1 g 294 (pw g J t) (g.1 294 (pw g J t) - nI m3)) 294 t (g.1 294 t + nI m3)).1 294 p = g.1 294 p := fun p h1 h2 => (w1_at h1).trans (w1_at h2)
  generalize w1 (w1 g 294 (pw g J t) (g.1 294 (pw g J t) - nI m3)) 294 t (g.1 294 t + nI m3) = g2 at *
  have tm : (nI m3).toInt = (m3 : Int) := nI_toInt (by omega)
  have st2 : ∀ i, i < J → pw g i t < n ∧ g.1 295 (pw g i t) ≠ 1000000 ∧ g.1 296 (pw g i t) ≠ -1 ∧ (m3 : Int) ≤ (eR g (bn g (pw g i t))).toInt := fun i hi => by
    obtain ⟨u1, u2, u3, u4⟩ := st i hi
    exact ⟨u1, u2, u3, by omega⟩
  obtain ⟨one, -⟩ := pw_ne C B.1 (t := t) (J := J) (fun i hi => ⟨(st2 i hi).1, (st2 i hi).2.1, (st2 i hi).2.2.1⟩)
  refine sd_2 (d := d) B C (t := t) (J := J) (m := m3) b1 (by omega) (fun i hi => ?_) last st2 (fun g3 F3 s1 s2 s3 => q _ _ ⟨⟨B.1.fl (F3 271 (by decide) (by decide)), fun a ha => ?_, fun a ha => ?_, s1⟩, fun r hr ho => ?_, ⟨fun e h1 h2 => F3 e (by omega) (by omega), by rw [F3 270 (by decide) (by decide)]⟩⟩) J 0 _ g2 (by omega) (fun e h1 h2 => y0 e h2) (fun p hp => ?_) (fun a ha => ?_) (fun a ha => Or.inl (by rw [y0 293 (by decide)]))
  · by_cases e : i = J
    · rw [e]
      exact hJn
    · exact (st i (by omega)).1
  · rw [F3 291 (by decide) (by decide)]
    have := B.2.1 a ha
    have := s2 a ha
    omega
  · rw [F3 292 (by decide) (by decide)]
    exact B.2.2.1 a ha
  · have hF : eF g3 = eF g := by
      funext r
      unfold eF rm
      rw [F3 271 (by decide) (by decide)]
    have hT : eT g3 = eT g := by
      funext r
      unfold eT rm
      rw [F3 271 (by decide) (by decide)]
    have hC : eC g3 = eC g := by
      funext r
      unfold eC
      rw [F3 292 (by decide) (by decide)]
    rw [hF, hT, hC]
    rcases s3 (r / 2) (by omega) with z | ⟨i, hi, ei⟩
    · refine C.2 r hr (fun y => ho ?_)
      unfold eR at y ⊢
      rw [z, F3 291 (by decide) (by decide)]
      exact y
    · obtain ⟨a1, -, -, -, -, tg⟩ := one i hi
      generalize bn g (pw g i t) = r0 at *
      by_cases e : r0 = r
      · rw [e] at tg
        omega
      · have kc := B.2.2.1 (r / 2) (by omega)
        have ng := tin (x := g.1 292 (r / 2)) (by omega) (by omega)
        unfold eC eF eT at tg ⊢
        rw [ei] at tg
        rcases Nat.mod_two_eq_zero_or_one r with m1 | m1 <;> rcases Nat.mod_two_eq_zero_or_one r0 with m2 | m2
        · omega
        · rw [if_neg (by omega), if_neg (by omega), if_neg (by omega)] at tg
          rw [if_pos m1, if_pos m1, if_pos m1]
          omega
        · rw [if_pos m2, if_pos m2, if_pos m2] at tg
          rw [if_neg (by omega), if_neg (by omega), if_neg (by omega)]
          omega
        · omega
  · by_cases e1 : p = t
    · rw [e1, y1, tia (by omega) (by omega)]
      omega
    · by_cases e2 : p = pw g J t
      · rw [e2, y2, tis (by omega) (by omega)]
        omega
      · rw [y3 p e1 e2]
        exact B.2.2.2 p hp
  · rw [y0 293 (by decide)]
    have := B.2.1 a ha
    omega
/-- bounds, costs and what is left over, before anything is carried -/
def DN (g : LH) (n k B : Nat) : Prop := RM g n k ∧ (∀ a, a < k → 0 ≤ (g.1 291 a).toInt ∧ (g.1 291 a).toInt ≤ (B : Int)) ∧ (∀ a, a < k → -(B : Int) ≤ (g.1 292 a).toInt ∧ (g.1 292 a).toInt ≤ (B : Int)) ∧ ∀ p, p < n → -(B : Int) ≤ (g.1 294 p).toInt ∧ (g.1 294 p).toInt ≤ (B : Int)
theorem F3c.sc (F : F3c h g) : ScF h g := ⟨fun e h1 h2 => F e (by omega) (by omega), by rw [F 270 (by decide) (by decide)]⟩
theorem ca_1 (D : DN h n k 100) {Q : tf_Q} (q : ∀ (x1 : Int32) (g : LH), F3c h g → (∀ a, a < k → g.1 293 a = (if 0 ≤ h.1 292 a then 0 else h.1 291 a)) → (∀ p, p < n → -5000 ≤ (g.1 294 p).toInt ∧ (g.1 294 p).toInt ≤ 5000) → lx_X9_carries 298 (tf_Cd 298 (d + 1)) Q 83 [.ref 270, .int x1, tf_z] [] g) : ∀ (f a : Nat) (g : LH), a + f = k → F3c h g → (∀ b, b < a → g.1 293 b = (if 0 ≤ h.1 292 b then 0 else h.1 291 b)) → (∀ p, p < n → -(100 + 200 * (a : Int)) ≤ (g.1 294 p).toInt ∧ (g.1 294 p).toInt ≤ 100 + 200 * (a : Int)) → lx_X9_carries 298 (tf_Cd 298 (d + 1)) Q 2 [.ref 270, .int (nI a), tf_z] [] g
  | 0, a, g, ha, F, s1, s2 => by
    have hn := D.1.1
    have e : a = k := by omega
    subst e
    exact go_X9_carries_2 (by decide) ⟨fun _ => q _ g F s1 (fun p hp => by have := s2 p hp; omega), fun z => absurd ((D.1.fl (F 271 (by decide) (by decide))).k2 (by omega) (by omega)) z⟩
  | f + 1, a, g, ha, F, s1, s2 => by
    have hn := D.1.1
    have H := D.1.fl (F 271 (by decide) (by decide))
    have K3 : tf_K 293 = 8 := by decide +kernel
    have N3 : tf_N 293 = 14 := by decide +kernel
    have K4 : tf_K 294 = 8 := by decide +kernel
    have N4 : tf_N 294 = 7 := by decide +kernel
    have v14 : vp_in (nI a) 14 := vi_of (by omega) (by omega)
    have ca : (nI a).toNatClampNeg = a := nI_clamp (by omega)
    obtain ⟨p, o, hp, ho, ep, eo⟩ := H.ends (a := a) (by omega)
    have db := D.2.1 a (by omega)
    have e36 : ∀ y : Int32, y = (if 0 ≤ h.1 292 a then 0 else h.1 291 a) → lx_X9_carries 298 (tf_Cd 298 (d + 1)) Q 36 [.ref 270, .int (nI a), tf_z] [.int y, .int (nI a), .ref 293] g := by
      intro y ey
      have by' : 0 ≤ y.toInt ∧ y.toInt ≤ 100 := by
        rw [ey]
        split
        · rw [z_ti]; omega
        · omega
      refine go_X9_carries_36 (by decide) K3 (ny0 := 14) N3 (by decide) ⟨v14, ?_⟩
      rw [ca]
      show tf_Cd 298 (d + 1) _ _ (w1 g 293 a y) _
      have u0 : ∀ e, e ≠ 293 → (w1 g 293 a y).1 e = g.1 e := fun e he => w1_ne he
      have u1 : (w1 g 293 a y).1 293 a = y := w1_eq
      have u2 : ∀ b, b ≠ a → (w1 g 293 a y).1 293 b = g.1 293 b := fun b hb => w1_at hb
      generalize w1 g 293 a y = g1 at *
      have r0 : rm g1 a 0 = nI p := by unfold rm; rw [u0 271 (by decide)]; exact ep
      refine sx_of (d := d) a 0 rfl rfl (by omega) (by omega) _ (go_X9_carries_47 (by decide) K4 (ny0 := 7) N4 (by decide) ?_)
      rw [r0, ca, u1, nI_clamp (by omega)]
      have vp7 : vp_in (nI p) 7 := vi_of (by omega) (by omega)
      have vo7 : vp_in (nI o) 7 := vi_of (by omega) (by omega)
      refine ⟨vp7, v14, vp7, ?_⟩
      show tf_Cd 298 (d + 1) _ _ (w1 g1 294 p (g1.1 294 p - y)) _
      have w0 : ∀ e, e ≠ 294 → (w1 g1 294 p (g1.1 294 p - y)).1 e = g1.1 e := fun e he => w1_ne he
      have w1' : (w1 g1 294 p (g1.1 294 p - y)).1 294 p = g1.1 294 p - y := w1_eq
      have w2 : ∀ b, b ≠ p → (w1 g1 294 p (g1.1 294 p - y)).1 294 b = g1.1 294 b := fun b hb => w1_at hb
      generalize w1 g1 294 p (g1.1 294 p - y) = g2 at *
      have r1 : rm g2 a 1 = nI o := by unfold rm; rw [w0 271 (by decide), u0 271 (by decide)]; exact eo
      refine sx_of (d := d) a 1 rfl rfl (by omega) (by omega) _ (go_X9_carries_67 (by decide) K4 (ny0 := 7) N4 (by decide) ?_)
      have c93 : g2.1 293 a = y := by rw [w0 293 (by decide)]; exact u1
      rw [r1, ca, c93, nI_clamp (by omega), nI_1]
      refine ⟨vo7, v14, vo7, ?_⟩
      show lx_X9_carries 298 (tf_Cd 298 (d + 1)) Q 2 _ [] (w1 g2 294 o (g2.1 294 o + y))
      have z0 : ∀ e, e ≠ 294 → (w1 g2 294 o (g2.1 294 o + y)).1 e = g2.1 e := fun e he => w1_ne he
      have z1 : (w1 g2 294 o (g2.1 294 o + y)).1 294 o = g2.1 294 o + y := w1_eq
      have z2 : ∀ b, b ≠ o → (w1 g2 294 o (g2.1 294 o + y)).1 294 b = g2.1 294 b := fun b hb => w1_at hb
      generalize w1 g2 294 o (g2.1 294 o + y) = g3 at *
      have mid : ∀ q, q < n → -(200 + 200 * (a : Int)) ≤ (g2.1 294 q).toInt ∧ (g2.1 294 q).toInt ≤ 200 + 200 * (a : Int) := by
        intro q hq
        have sq := s2 q hq
        by_cases e : q = p
        · rw [e] at sq
          rw [e, w1', u0 294 (by decide), tis (by omega) (by omega)]
          omega
        · rw [w2 q e, u0 294 (by decide)]
          omega
      refine ca_1 D q f (a + 1) g3 (by omega) (fun e h1 h2 => by rw [z0 e h2, w0 e h2, u0 e h1]; exact F e h1 h2) (fun b hb => ?_) (fun q hq => ?_)
      · rw [z0 293 (by decide), w0 293 (by decide)]
        by_cases e : b = a
        · rw [e, u1]
          exact ey
        · rw [u2 b e]
          exact s1 b (by omega)
      · have mq := mid q hq
        by_cases e : q = o
        · rw [e] at mq
          rw [e, z1, tia (by omega) (by omega)]
          omega
        · rw [z2 q e]
          omega
    refine go_X9_carries_2 (by decide) ⟨fun z => absurd z (H.k1 (by omega)), fun _ => ⟨v14, ?_⟩⟩
    rw [ca, F 292 (by decide) (by decide), F 291 (by decide) (by decide)]
    exact ⟨fun c => go_X9_carries_35 (by decide) K3 (ny0 := 14) N3 (by decide) (e36 _ (by rw [if_pos c])), fun c => ⟨v14, e36 _ (by rw [if_neg c])⟩⟩
theorem ca_3 (H : RM g n k) {x1 : Int32} {Q : tf_Q} (q : ∀ x : Int32, Q (.int x) g) : ∀ (f p : Nat), p + f = n → lx_X9_carries 298 (tf_Cd 298 d) Q 126 [.ref 270, .int x1, .int (nI p)] [] g
  | 0, p, hp => by
    have hn := H.1
    exact go_X9_carries_126 (by decide) ⟨fun _ => go_X9_carries_153 (by decide) (q _), fun z => absurd (H.n2 (by omega) (by omega)) z⟩
  | f + 1, p, hp => by
    have hn := H.1
    refine go_X9_carries_126 (by decide) ⟨fun z => absurd z (H.n1 (by omega)), fun _ => ⟨vi_of (by omega) (by omega), fun _ => go_X9_carries_147 (by decide) ?_, fun _ => q _⟩⟩
    rw [nI_1]
    exact ca_3 H q f (p + 1) (by omega)
theorem ca_2 {Q : tf_Q} (q : ∀ (x : Int32) (g : LH), CB g n k → ScF h g → Q (.int x) g) : ∀ (f i : Nat) (x1 : Int32) (g : LH), i + f = 10000 → CB g n k → (∃ P, PT g k P) → ScF h g → lx_X9_carries 298 (tf_Cd 298 (d + 3)) Q 87 [.ref 270, .int x1, .int (nI i)] [] g
  | 0, i, x1, g, hi, B, Pt, F => by
    have e : i = 10000 := by omega
    subst e
    exact go_X9_carries_87 (by decide) ⟨fun _ => go_X9_carries_124 (by decide) (ca_3 B.1 (fun x => q x g B F) n 0 (by omega)), fun z => absurd (nI_le (a := 10000) (b := 10000) (by omega) (by omega)) z⟩
  | f + 1, i, x1, g, hi, B, Pt, F => by
    obtain ⟨P, Pt⟩ := Pt
    refine go_X9_carries_87 (by decide) ⟨fun z => absurd z (nI_ge (a := i) (b := 10000) (by omega) (by omega)), fun _ => ⟨fun _ => go_X9_carries_124 (by decide) (ca_3 B.1 (fun x => q x g B F) n 0 (by omega)), fun _ => sp_lcw (d := d) B Pt _ (fun v g2 p => go_X9_carries_103 (by decide) ?_)⟩⟩
    obtain ⟨F2, W⟩ := p
    have B2 := F2.cb B
    obtain ⟨R, P2, C⟩ := cw_ch B Pt F2 W
    have S2 : ScF h g2 := F.tr ⟨fun e h1 h2 => F2.1 e (by omega) (by omega), by rw [F2.1 270 (by decide) (by decide)]⟩
    refine sp_wa (d := d + 2) B2.1 _ (fun v2 g3 p3 => ?_)
    obtain ⟨e3, o⟩ := p3
    subst e3
    rcases o with ev | ⟨t, ht, ev, neg, re⟩
    · subst ev
      refine go_X9_carries_107 (by decide) ⟨fun _ => go_X9_carries_118 (by decide) ?_, fun z => absurd rfl z⟩
      rw [nI_1]
      exact ca_2 q f (i + 1) _ _ (by omega) B2 ⟨P2, C.2⟩ S2
    · subst ev
      have hn := B.1.1
      refine go_X9_carries_107 (by decide) ⟨fun z => absurd z (nI_neg1 (by omega)), fun _ => sp_sd (d := d) B2 C ht neg re _ (fun v4 g4 p4 => go_X9_carries_118 (by decide) ?_)⟩
      rw [nI_1]
      exact ca_2 q f (i + 1) _ g4 (by omega) p4.1 ⟨P2, p4.2.1⟩ (S2.tr p4.2.2)
theorem sp_ca (D : DN h n k 100) : tf_Sp (d + 4) 101 [.ref 270] h (fun v g => (∃ x, v = .int x) ∧ CB g n k ∧ ScF h g) := by
  intro Q q
  refine en_X9_carries (by decide) (go_X9_carries_0 (by decide) (ca_1 (d := d + 2) D (fun x1 g F s1 s2 => go_X9_carries_83 (by decide) ?_) k 0 h (by omega) (fun _ _ _ => rfl) (fun b hb => absurd hb (by omega)) (fun p hp => by have := D.2.2.2 p hp; omega)))
  have cost := D.2.2.1
  have bd := D.2.1
  have c91 : g.1 291 = h.1 291 := F 291 (by decide) (by decide)
  have c92 : g.1 292 = h.1 292 := F 292 (by decide) (by decide)
  have B : CB g n k := by
    refine ⟨D.1.fl (F 271 (by decide) (by decide)), fun a ha => ?_, fun a ha => ?_, s2⟩
    · rw [s1 a ha, c91]
      have := bd a ha
      split
      · rw [z_ti]; omega
      · omega
    · rw [c92]
      have := cost a ha
      omega
  refine ca_2 (d := d) (h := h) (fun x g B S => q _ _ ⟨⟨x, rfl⟩, B, S⟩) 10000 0 _ g (by omega) B ⟨fun _ => 0, fun r hr ho => ?_⟩ F.sc
  have ha : r / 2 < k := by omega
  have ka := cost _ ha
  unfold eR at ho
  show 0 ≤ (eC g r).toInt + (0 : Int) - 0
  unfold eC
  rw [c92]
  rw [s1 _ ha, c91] at ho
  by_cases m0 : r % 2 = 0
  · rw [if_pos m0] at ho ⊢
    by_cases c : 0 ≤ h.1 292 (r / 2)
    · rw [Int32.le_iff_toInt_le, z_ti] at c
      omega
    · rw [if_neg c, Int32.sub_self] at ho
      exact absurd rfl ho
  · rw [if_neg m0] at ho ⊢
    by_cases c : 0 ≤ h.1 292 (r / 2)
    · rw [if_pos c] at ho
      exact absurd rfl ho
    · rw [Int32.not_le, Int32.lt_iff_toInt_lt, z_ti] at c
      rw [tin (by omega) (by omega)]
      omega
theorem cc_L (H : RM g n k) {Q : tf_Q} (q : ∀ x : Int32, Q (.int x) g) : ∀ (f a : Nat) (s : Int32), a + f = k → lx_X9_cheapestCost 298 (tf_Cd 298 d) Q 15 [.ref 270, .int s, .int (nI a)] [] g
  | 0, a, s, ha => by
    have hn := H.1
    exact go_X9_cheapestCost_15 (by decide) ⟨fun _ => go_X9_cheapestCost_47 (by decide) (q _), fun z => absurd (H.k2 (by omega) (by omega)) z⟩
  | f + 1, a, s, ha => by
    have hn := H.1
    refine go_X9_cheapestCost_15 (by decide) ⟨fun z => absurd z (H.k1 (by omega)), fun _ => ⟨vi_of (by omega) (by omega), vi_of (by omega) (by omega), ?_⟩⟩
    rw [nI_1]
    exact cc_L H q f (a + 1) _ (by omega)
theorem sp_cco (D : DN h n k 100) : tf_Sp (d + 5) 102 [.ref 270] h (fun v g => (∃ x, v = .int x) ∧ ScF h g) := by
  intro Q q
  refine en_X9_cheapestCost (by decide) (go_X9_cheapestCost_0 (by decide) (sp_ca (d := d) D _ (fun v g p => ?_)))
  obtain ⟨⟨x, e⟩, B, F⟩ := p
  subst e
  exact go_X9_cheapestCost_4 (by decide) ⟨fun _ => q _ _ ⟨⟨_, rfl⟩, F⟩, fun _ => go_X9_cheapestCost_11 (by decide) (cc_L B.1 (fun x => q _ _ ⟨⟨x, rfl⟩, F⟩) k 0 _ (by omega))⟩
/-! as it is now -/
theorem ti_s {x : Int32} {s : Nat} (hs : s ≤ 198) (e : x + 99 = nI s) : -99 ≤ x.toInt ∧ x.toInt ≤ 99 := by
  have ex : x = nI s - nI 99 := by rw [← e]; exact (Int32.add_sub_cancel x 99).symm
  rw [ex, pk_sub_toInt (by omega) (by omega)]
  omega
theorem an_p (G : GI h n k M) {Q : tf_Q} (q : ∀ g, ScF h g → DN g n k 99 → Q tf_z g) : ∀ (f p : Nat) (g : LH), p + f = n → ScF h g → (∀ a, a < k → 0 ≤ (g.1 291 a).toInt ∧ (g.1 291 a).toInt ≤ 99) → (∀ a, a < k → -99 ≤ (g.1 292 a).toInt ∧ (g.1 292 a).toInt ≤ 99) → (∀ o, o < p → -99 ≤ (g.1 294 o).toInt ∧ (g.1 294 o).toInt ≤ 99) → lx_X9_asNow 298 (tf_Cd 298 d) Q 59 [.ref 270, .int (nI p)] [] g
  | 0, p, g, hp, F, s1, s2, s3 => by
    have hn := G.1.1
    exact go_X9_asNow_59 (by decide) ⟨fun _ => go_X9_asNow_90 (by decide) (q g F ⟨G.1.sc F, s1, s2, fun o ho => s3 o (by omega)⟩), fun z => absurd ((G.1.sc F).n2 (by omega) (by omega)) z⟩
  | f + 1, p, g, hp, F, s1, s2, s3 => by
    have hn := G.1.1
    obtain ⟨s, hs, es⟩ := (G.sc F).2.2.2.2.1.2.2.2 p (by omega)
    refine go_X9_asNow_59 (by decide) ⟨fun z => absurd z ((G.1.sc F).n1 (by omega)), fun _ => ?_⟩
    rw [i44, nI_clamp (by omega), nI_clamp (by omega), nI_1]
    refine ⟨vi_of (by omega) (by omega), vi_of (by omega) (by omega), an_p G q f (p + 1) (w1 g 294 p (g.1 271 (44 + p))) (by omega) (F.w (by omega)) (fun a ha => by rw [w1_ne (by decide)]; exact s1 a ha) (fun a ha => by rw [w1_ne (by decide)]; exact s2 a ha) (fun o ho => ?_)⟩
    by_cases e : o = p
    · rw [e, w1_eq]
      exact ti_s hs es
    · rw [w1_at e]
      exact s3 o (by omega)
theorem an_a (G : GI h n k M) {Q : tf_Q} (q : ∀ g, ScF h g → DN g n k 99 → Q tf_z g) : ∀ (f a : Nat) (g : LH), a + f = k → ScF h g → (∀ b, b < a → 0 ≤ (g.1 291 b).toInt ∧ (g.1 291 b).toInt ≤ 99) → (∀ b, b < a → -99 ≤ (g.1 292 b).toInt ∧ (g.1 292 b).toInt ≤ 99) → lx_X9_asNow 298 (tf_Cd 298 (d + 1)) Q 2 [.ref 270, .int (nI a)] [] g
  | 0, a, g, ha, F, s1, s2 => by
    have hn := G.1.1
    exact go_X9_asNow_2 (by decide) ⟨fun _ => go_X9_asNow_57 (by decide) (an_p G q n 0 g (by omega) F (fun b hb => s1 b (by omega)) (fun b hb => s2 b (by omega)) (fun o ho => absurd ho (by omega))), fun z => absurd ((G.1.sc F).k2 (by omega) (by omega)) z⟩
  | f + 1, a, g, ha, F, s1, s2 => by
    have hn := G.1.1
    have K1 : tf_K 291 = 8 := by decide +kernel
    have N1 : tf_N 291 = 14 := by decide +kernel
    have K2 : tf_K 292 = 8 := by decide +kernel
    have N2 : tf_N 292 = 14 := by decide +kernel
    have v14 : vp_in (nI a) 14 := vi_of (by omega) (by omega)
    have ca : (nI a).toNatClampNeg = a := nI_clamp (by omega)
    have GG := G.sc F
    obtain ⟨bd, hbd, eb⟩ := vi_nI (GG.2.2.2.1 a (by omega)).1
    obtain ⟨c, hc, ec⟩ := GG.2.2.2.2.1.2.2.1 a (by omega)
    have e38 : ∀ y : Int32, (0 ≤ y.toInt ∧ y.toInt ≤ 99) → lx_X9_asNow 298 (tf_Cd 298 (d + 1)) Q 38 [.ref 270, .int (nI a)] [.int y, .int (nI a), .ref 291] g := by
      intro y hy
      refine go_X9_asNow_38 (by decide) K1 (ny0 := 14) N1 (by decide) ⟨v14, ?_⟩
      rw [ca]
      refine sx_of (h := w1 g 291 a y) (d := d) a 3 rfl rfl (by omega) (by omega) _ (go_X9_asNow_50 (by decide) K2 (ny0 := 14) N2 (by decide) ⟨v14, ?_⟩)
      have r3 : rm (w1 g 291 a y) a 3 = rm g a 3 := by unfold rm; rw [w1_ne (by decide)]
      rw [ca, nI_1, r3]
      refine an_a G q f (a + 1) (w1 (w1 g 291 a y) 292 a (rm g a 3)) (by omega) ((F.w (by omega)).w (by omega)) (fun b hb => ?_) (fun b hb => ?_)
      · rw [w1_ne (by decide)]
        by_cases e : b = a
        · rw [e, w1_eq]
          exact hy
        · rw [w1_at e]
          exact s1 b (by omega)
      · by_cases e : b = a
        · rw [e, w1_eq]
          exact ti_s hc ec
        · rw [w1_at e, w1_ne (by decide)]
          exact s2 b (by omega)
    refine go_X9_asNow_2 (by decide) ⟨fun z => absurd z ((G.1.sc F).k1 (by omega)), fun _ => sx_of (d := d) a 6 rfl rfl (by omega) (by omega) _ (go_X9_asNow_24 (by decide) K1 (ny0 := 14) N1 (by decide) ⟨fun _ => e38 _ (by rw [z_ti]; omega), fun _ => go_X9_asNow_32 (by decide) K1 (ny0 := 14) N1 (by decide) (sx_of (d := d) a 2 rfl rfl (by omega) (by omega) _ (e38 _ ?_))⟩)⟩
    rw [eb, nI_toInt (by omega)]
    omega
theorem sp_an (G : GI h n k M) : tf_Sp (d + 2) 95 [.ref 270] h (fun _ g => ScF h g ∧ DN g n k 99) := fun Q q => en_X9_asNow (by decide) (go_X9_asNow_0 (by decide) (an_a G (fun g F D => q _ g ⟨F, D⟩) k 0 h (by omega) ScF.rf (fun b hb => absurd hb (by omega)) (fun b hb => absurd hb (by omega))))
theorem DN.mono (D : DN g n k 99) : DN g n k 100 := ⟨D.1, fun a ha => by have := D.2.1 a ha; omega, fun a ha => by have := D.2.2.1 a ha; omega, fun p hp => by have := D.2.2.2 p hp; omega⟩
theorem rq_least (R : RI h M) : RQ 103 [] h M := by
  intro Q q
  obtain ⟨n, k, G, R1, F⟩ := R.p0
  refine en_X9_least (by decide) (go_X9_least_0 (by decide) ?_)
  show tf_Cd 298 10 _ _ (w1 h 270 0 0) _
  generalize w1 h 270 0 0 = h1 at *
  refine sp_an (d := 8) G _ (fun v g p => go_X9_least_9 (by decide) (sp_cco (d := 5) p.2.mono _ (fun v2 g2 p2 => ?_)))
  obtain ⟨⟨x, e⟩, F2⟩ := p2
  subst e
  have F3 := p.1.tr F2
  exact go_X9_least_13 (by decide) (q _ _ ⟨⟨_, rfl⟩, R1.sc F3, F.tr F3.of⟩)
theorem DN.w (D : DN g n k 99) {c i : Nat} {v : Int32} (hc : (c = 291 ∧ 0 ≤ v.toInt ∧ v.toInt ≤ 100) ∨ (c = 292 ∨ c = 294) ∧ -100 ≤ v.toInt ∧ v.toInt ≤ 100) : DN (w1 g c i v) n k 100 := by
  obtain ⟨H, d1, d2, d3⟩ := D
  have key : ∀ (e j : Nat) (lo hi : Int), (lo ≤ (g.1 e j).toInt ∧ (g.1 e j).toInt ≤ hi) → (e = c → lo ≤ v.toInt ∧ v.toInt ≤ hi) → lo ≤ ((w1 g c i v).1 e j).toInt ∧ ((w1 g c i v).1 e j).toInt ≤ hi := by
    intro e j lo hi h1 h2
    by_cases z : e = c
    · subst z
      by_cases y : j = i
      · rw [y, w1_eq]
        exact h2 rfl
      · rw [w1_at y]
        exact h1
    · rw [w1_ne z]
      exact h1
  refine ⟨H.fl (w1_ne (by rcases hc with ⟨z, -⟩ | ⟨z | z, -⟩ <;> omega)), fun a ha => key 291 a _ _ (by have := d1 a ha; omega) (fun z => ?_), fun a ha => key 292 a _ _ (by have := d2 a ha; omega) (fun z => ?_), fun p hp => key 294 p _ _ (by have := d3 p hp; omega) (fun z => ?_)⟩
  · rcases hc with ⟨-, z1⟩ | ⟨y | y, z1⟩ <;> omega
  · rcases hc with ⟨y, z1⟩ | ⟨-, z1⟩ <;> omega
  · rcases hc with ⟨y, z1⟩ | ⟨-, z1⟩ <;> omega
theorem one_ti : (1 : Int32).toInt = 1 := rfl
theorem rq_worth (R : RI h M) (x y : Int32) : RQ 105 [.int x, .int y] h M := by
  intro Q q
  obtain ⟨n, k, G, R1, F⟩ := R.p0
  refine en_X9_worth (by decide) (go_X9_worth_0 (by decide) ?_)
  show tf_Cd 298 10 _ _ (w1 h 270 0 0) _
  generalize w1 h 270 0 0 = h1 at *
  have e22 : lx_X9_worth 298 (tf_Cd 298 10) Q 22 [.ref 270, .int x, .int y, tf_z] [] h1 := go_X9_worth_22 (by decide) (q _ _ ⟨⟨_, rfl⟩, R1, F⟩)
  refine sx_risArc (d := 8) x _ (go_X9_worth_10 (by decide) ⟨fun _ => e22, fun c => sx_in (d := 9) _ _ _ _ (go_X9_worth_19 (by decide) ⟨fun _ => e22, fun _ => go_X9_worth_26 (by decide) (sp_an (d := 8) G _ (fun v g p => go_X9_worth_30 (by decide) (sp_cco (d := 5) p.2.mono _ (fun v2 g2 p2 => ?_))))⟩)⟩)
  rw [bI_0, Bool.not_eq_false] at c
  obtain ⟨a, ha, ea⟩ := rf_arc_t G.1 c
  subst ea
  have hn := G.1.1
  have v14 : vp_in (nI a) 14 := vi_of (by omega) (by omega)
  have ca : (nI a).toNatClampNeg = a := nI_clamp (by omega)
  obtain ⟨⟨x2, e⟩, F2⟩ := p2
  subst e
  have F3 := p.1.tr F2
  refine go_X9_worth_34 (by decide) (sp_an (d := 8) (G.sc F3) _ (fun v3 g3 p3 => go_X9_worth_39 (by decide) ?_))
  have F4 := F3.tr p3.1
  have D3 := p3.2
  have e92 : ∀ g4, ScF h1 g4 → DN g4 n k 100 → lx_X9_worth 298 (tf_Cd 298 10) Q 92 [.ref 270, .int (nI a), .int y, .int x2] [] g4 := fun g4 S4 D4 => go_X9_worth_92 (by decide) (sp_cco (d := 5) D4 _ (fun v5 g5 p5 => by
    obtain ⟨⟨x5, e5⟩, F5⟩ := p5
    subst e5
    have F6 := S4.tr F5
    exact go_X9_worth_97 (by decide) ((pv_lt (d := 9) _ _).c fun y6 => go_X9_worth_101 (by decide) (q _ _ ⟨⟨_, rfl⟩, R1.sc F6, F.tr F6.of⟩))))
  have k1 := D3.2.1 a ha
  have k2 := D3.2.2.1 a ha
  rw [ca]
  refine ⟨fun _ => ⟨v14, v14, ?_⟩, fun _ => go_X9_worth_57 (by decide) ⟨fun _ => ⟨v14, ?_⟩, fun _ => go_X9_worth_72 (by decide) (sx_of (d := 9) a 6 rfl rfl (by omega) (by omega) _ (go_X9_worth_79 (by decide) ⟨fun _ => ⟨v14, v14, ?_⟩, fun _ => e92 g3 F4 D3.mono⟩))⟩⟩
  · exact e92 (w1 g3 292 a (g3.1 292 a + 1)) (F4.w (by omega)) (D3.w (Or.inr ⟨Or.inl rfl, by rw [tia (by rw [one_ti]; omega) (by rw [one_ti]; omega), one_ti]; omega⟩))
  · rw [ca]
    exact e92 (w1 g3 291 a 0) (F4.w (by omega)) (D3.w (Or.inl ⟨rfl, by rw [z_ti]; omega⟩))
  · rw [ca]
    exact e92 (w1 g3 291 a (g3.1 291 a + 1)) (F4.w (by omega)) (D3.w (Or.inl ⟨rfl, by rw [tia (by rw [one_ti]; omega) (by rw [one_ti]; omega), one_ti]; omega⟩))
theorem rq_toll (R : RI h M) (x y : Int32) : RQ 106 [.int x, .int y] h M := by
  intro Q q
  obtain ⟨n, k, G, R1, F⟩ := R.p0
  refine en_X9_toll (by decide) (go_X9_toll_0 (by decide) ?_)
  show tf_Cd 298 10 _ _ (w1 h 270 0 0) _
  generalize w1 h 270 0 0 = h1 at *
  refine sx_rtwo (d := 7) x y _ (go_X9_toll_11 (by decide) ⟨fun _ => q _ _ ⟨⟨_, rfl⟩, R1, F⟩, fun c => go_X9_toll_18 (by decide) (sp_an (d := 8) G _ (fun v g p => go_X9_toll_22 (by decide) (sp_cco (d := 5) p.2.mono _ (fun v2 g2 p2 => ?_))))⟩)
  rw [bI_0, Bool.not_eq_false] at c
  obtain ⟨a, o, ha, ho, hne, ea, eo⟩ := rf_two_t G.1 c
  subst ea eo
  have hn := G.1.1
  have va : vp_in (nI a) 7 := vi_of (by omega) (by omega)
  have vo : vp_in (nI o) 7 := vi_of (by omega) (by omega)
  have ca : (nI a).toNatClampNeg = a := nI_clamp (by omega)
  have co : (nI o).toNatClampNeg = o := nI_clamp (by omega)
  obtain ⟨⟨x2, e⟩, F2⟩ := p2
  subst e
  have F3 := p.1.tr F2
  refine go_X9_toll_26 (by decide) (sp_an (d := 8) (G.sc F3) _ (fun v3 g3 p3 => go_X9_toll_31 (by decide) ?_))
  have F4 := F3.tr p3.1
  have D3 := p3.2
  rw [ca, co]
  refine ⟨va, va, vo, vo, ?_⟩
  show tf_Cd 298 10 _ _ (w1 (w1 g3 294 a (g3.1 294 a + 1)) 294 o ((w1 g3 294 a (g3.1 294 a + 1)).1 294 o - 1)) _
  have k1 := D3.2.2.2 a ha
  have k2 := D3.2.2.2 o ho
  have r2 : (w1 g3 294 a (g3.1 294 a + 1)).1 294 o = g3.1 294 o := w1_at (fun z => hne z.symm)
  rw [r2]
  have D5 : DN (w1 (w1 g3 294 a (g3.1 294 a + 1)) 294 o (g3.1 294 o - 1)) n k 100 := by
    have t1 : (g3.1 294 a + 1).toInt = (g3.1 294 a).toInt + 1 := by rw [tia (by rw [one_ti]; omega) (by rw [one_ti]; omega), one_ti]
    have t2 : (g3.1 294 o - 1).toInt = (g3.1 294 o).toInt - 1 := by rw [tis (by rw [one_ti]; omega) (by rw [one_ti]; omega), one_ti]
    refine ⟨D3.1.fl (by rw [w1_ne (by decide), w1_ne (by decide)]), fun b hb => ?_, fun b hb => ?_, fun b hb => ?_⟩
    · rw [w1_ne (by decide), w1_ne (by decide)]
      have := D3.2.1 b hb
      omega
    · rw [w1_ne (by decide), w1_ne (by decide)]
      have := D3.2.2.1 b hb
      omega
    · by_cases e1 : b = o
      · rw [e1, w1_eq, t2]
        omega
      · rw [w1_at e1]
        by_cases e2 : b = a
        · rw [e2, w1_eq, t1]
          omega
        · rw [w1_at e2]
          have := D3.2.2.2 b hb
          omega
  have S5 : ScF h1 (w1 (w1 g3 294 a (g3.1 294 a + 1)) 294 o (g3.1 294 o - 1)) := (F4.w (by omega)).w (by omega)
  refine sp_cco (d := 5) D5 _ (fun v5 g5 p5 => ?_)
  obtain ⟨⟨x5, e5⟩, F5⟩ := p5
  subst e5
  have F6 := S5.tr F5
  exact go_X9_toll_56 (by decide) ((pv_lt (d := 9) _ _).c fun y6 => go_X9_toll_60 (by decide) (q _ _ ⟨⟨_, rfl⟩, R1.sc F6, F.tr F6.of⟩))
end R93
