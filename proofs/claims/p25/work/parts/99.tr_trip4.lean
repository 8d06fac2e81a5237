/-! ===== trip on both sides: all trips, and the answer ===== -/
section TRT
variable {h g c cc g1 : LH} {t M d n k m x : Nat}
def RTv (F : LH) (x y : Int32) : Int32 := if x = -1 then (if y = 0 then F.1 244 0 else -1) else tr_told F x y
/-- one trip on both sides; the class's is its number tr -/
theorem xp_gt (H : RM g n k) (L : LN g k) (E : EQ c g k) (Hc : NO c 0 n k) {tr : Nat} : tf_Sp (d + 4) 90 [.ref 270] g (fun v g2 => ScF g g2 ∧ LN g2 k ∧ ((v = .int 0 ∧ g2 = g ∧ tr_s1 c 0 n k n 0 = -1) ∨ (v = .int 1 ∧ ∃ p w l, p < n ∧ tr_s1 c 0 n k n 0 = nI p ∧ w ≤ 7 ∧ l < w ∧ (tr_g c 0 k (nI p)).1 244 7 = nI w ∧ (tr_g c 0 k (nI p)).1 244 8 = nI l ∧ (∀ a, a < k → (kp2 (kp_x (tr_g c 0 k (nI p)) w l) tr l (w - l) l (tr_g c 0 k (nI p))).1 248 a = g2.1 288 a) ∧ (∀ i, i < w - l → (kp2 (kp_x (tr_g c 0 k (nI p)) w l) tr l (w - l) l (tr_g c 0 k (nI p))).1 247 (tr * 7 + i) = g2.1 289 i) ∧ g2.1 270 36 = nI (w - l) ∧ g2.1 270 37 = kp_x (tr_g c 0 k (nI p)) w l ∧ (∀ a, a < k → (g2.1 288 a).toNatClampNeg ≤ (g.1 288 a).toNatClampNeg) ∧ ∃ b, b < k ∧ (g2.1 288 b).toNatClampNeg = 0 ∧ (g.1 288 b).toNatClampNeg ≠ 0))) := by
  intro Q q
  have hn := H.1
  refine en_X9_goesTrip (by decide) (go_X9_goesTrip_0 (by decide) (tf_Sp.cj ((xv_st (d := d) H E).sp (P := fun v g2 => v = .int (tr_s1 c 0 n k n 0) ∧ g2 = g) ⟨rfl, rfl⟩) (sp_st (d := d) H L) _ (fun v gg pv => ?_)))
  obtain ⟨⟨ev0, e1⟩, -, pv⟩ := pv
  subst e1
  rcases pv with ev | ⟨p, hp, ev, po⟩
  · subst ev
    exact go_X9_goesTrip_4 (by decide) ⟨fun _ => q _ _ ⟨ScF.rf, L, Or.inl ⟨rfl, rfl, (Value.int.inj ev0).symm⟩⟩, fun z => absurd rfl z⟩
  · subst ev
    have es := (Value.int.inj ev0).symm
    refine go_X9_goesTrip_4 (by decide) ⟨fun z => absurd z (nI_neg1 (by omega)), fun _ => go_X9_goesTrip_12 (by decide) ?_⟩
    show lx_X9_goesTrip 298 (tf_Cd 298 (d + 3)) Q 26 _ [] (w1 gg 290 0 (nI p))
    have x8 : (w1 gg 290 0 (nI p)).1 288 = gg.1 288 := w1_ne (by decide)
    have x1 : (w1 gg 290 0 (nI p)).1 271 = gg.1 271 := w1_ne (by decide)
    have x0 : (w1 gg 290 0 (nI p)).1 290 0 = nI p := w1_eq
    obtain ⟨-, -, FC⟩ := sx_go (d := 0) Hc (x := nI p) (vi_of (by omega) (by omega))
    obtain ⟨z1, z2, z3⟩ := tr_gz_ok 7 0 c (fun i hi => absurd hi (by omega))
    have F0 : ∀ e, e ≠ 250 → e ≠ 244 → (w1 (w1 (tr_gz 7 0 c) 244 7 0) 244 8 0).1 e = c.1 e := fun e h1 h2 => by rw [w1_ne h2, w1_ne h2, z3 e h1]
    have W0 : WRk (w1 (w1 (tr_gz 7 0 c) 244 7 0) 244 8 0) (w1 gg 290 0 (nI p)) k 0 := by
      refine ⟨⟨by rw [w1_at (by decide), w1_eq]; rfl, by omega, by rw [w1_eq]; rfl, Nat.le_refl _, fun i hi => absurd hi (by omega), fun p hp => Or.inl ?_⟩, fun i hi => absurd hi (by omega), fun o ho => ?_, E.fr (F0 248 (by decide) (by decide)) (F0 2 (by decide) (by decide)) (F0 3 (by decide) (by decide)) x8 x1⟩
      · rw [w1_ne (by decide), w1_ne (by decide)]
        exact z2 p (by omega)
      · rw [w1_ne (by decide), w1_ne (by decide), z2 o (by omega), sax]
    refine xgt_1 (d := d + 1) (h := gg) (n := n) (k := k) (C := tr_g c 0 k (nI p)) ?_ H 7 0 p (cadd (fun _ => false) p) _ _ _ _ _ (by omega) (ScF.rf.w (by omega)) x8 ⟨hp, x0, ?_, fun o ho => ?_, fun i hi => absurd hi (by omega), fun i j hi hj _ => by omega⟩ ?_ W0 rfl
    · intro w l x1 x4 x5 x6 g2 hw hl F2 E2 T2 k7 k8 k9
      have C8 : ∀ a, a < k → (tr_g c 0 k (nI p)).1 248 a = gg.1 288 a := fun a ha => by rw [FC.1 248 (by decide) (by decide) (by decide)]; exact (E a ha).1
      have q2 := fun (g5 : LH) (F5 : ScF gg g5) (L5 : LN g5 k) z => q (.int 1) g5 ⟨F5, L5, Or.inr ⟨rfl, p, w, l, hp, es, hw, hl, k7, k8, z⟩⟩
      have eX : kp_x (tr_g c 0 k (nI p)) w l = kp1 (tr_g c 0 k (nI p)) (w - l) (l + 0) (nI 1000000) := rfl
      generalize tr_g c 0 k (nI p) = C at *
      refine go_X9_goesTrip_110 (by decide) ?_
      rw [nI_sub (by omega)]
      show lx_X9_goesTrip 298 (tf_Cd 298 (d + 3)) Q 127 _ [] (w1 (w1 g2 270 36 (nI (w - l))) 270 37 1000000)
      have u1 : ∀ e, e ≠ 270 → (w1 (w1 g2 270 36 (nI (w - l))) 270 37 1000000).1 e = g2.1 e := fun e he => by rw [w1_ne he, w1_ne he]
      have u2 : (w1 (w1 g2 270 36 (nI (w - l))) 270 37 1000000).1 270 36 = nI (w - l) := (w1_at (by decide)).trans w1_eq
      have u3 : (w1 (w1 g2 270 36 (nI (w - l))) 270 37 1000000).1 270 37 = nI 1000000 := w1_eq
      have F3 : ScF g2 (w1 (w1 g2 270 36 (nI (w - l))) 270 37 1000000) := (ScF.rf.w0 (by decide)).w0 (by decide)
      generalize w1 (w1 g2 270 36 (nI (w - l))) 270 37 1000000 = g3 at *
      have L2 : LN g2 k := fun a ha => by rw [E2]; exact L a ha
      refine xgt_2 (d := d + 1) (h := g2) (C := C) (X := kp_x C w l) hw hl L2 hn.2.2 (fun a ha => by rw [E2]; exact C8 a ha) k9 (fun t x5 x6 g4 ht ht2 F4 E4 e36 e37 s1 s3 etX att => go_X9_goesTrip_181 (by decide) ?_) T2 (w - l) 0 1000000 _ g3 (by omega) (by omega) (by omega) F3 (u1 288 (by decide)) u2 u3 (fun i hi => absurd hi (by omega)) (fun i _ => by rw [u1 289 (by decide)]) (fun i a hi => absurd hi (by omega)) eX.symm (Or.inl ⟨rfl, rfl⟩)
      have L4 : LN g4 k := fun a ha => by rw [E4]; exact L2 a ha
      have E5 : g4.1 288 = gg.1 288 := E4.trans E2
      refine xgt_3 (d := d + 1) (h := g4) (CC := kp2 (nI t) tr l (w - l) l C) (T := w - l) (t := t) (l := l) (tr := tr) (by omega) ht hn.2.2 L4 e36 e37 (fun i hi => ?_) (fun i j2 hi hj2 e => ?_) (fun g5 F5 L5 e5 e6 e9 r8 r7 le dz => q2 g5 ((F2.tr F4).tr F5) L5 ⟨?_, ?_, e5, ?_, fun a ha => by rw [← E5]; exact le a ha, ?_⟩) (w - l) 0 _ C g4 (by omega) ScF.rf (fun _ _ => rfl) rfl L4 (fun _ _ => Nat.le_refl _) (fun _ _ _ _ _ _ => rfl) (fun a ha => by rw [E5]; exact C8 a ha) (fun i hi => ?_) (fun i hi => absurd hi (by omega)) (fun i b hi => absurd hi (by omega)) rfl
      · obtain ⟨a, ha, ea, -⟩ := T2.1 (i + l) (by omega)
        obtain ⟨v, v1, v2, v3⟩ := s3 i a hi ha ea
        exact ⟨a, v, ha, by rw [s1 i hi]; exact ea, by rw [E4]; exact v1, v2, v3⟩
      · rw [s1 i hi, s1 j2 hj2] at e
        have := T2.2 (i + l) (j2 + l) (by omega) (by omega) e
        omega
      · rw [← etX]
        exact r8
      · rw [← etX]
        exact fun i hi => by rw [r7 i hi, e9]
      · rw [← etX]
        exact e6
      · obtain ⟨i, a, hi, ha, ea, ez⟩ := att
        refine ⟨a, ha, dz i a hi ha (by rw [s1 i hi]; exact ea) (by rw [E4]; exact ez), ?_⟩
        rw [← E2, ez, nI_clamp (by omega)]
        omega
      · rw [s1 i hi, Nat.add_comm]
        exact k9 _ (by omega)
    · have z : ∀ m, cv (fun _ => false) m = 0 := by
        intro m
        induction m with
        | zero => rfl
        | succ m ih =>
          unfold cv
          rw [ih]
          rfl
      rw [(cv_add (V := fun _ => false) (p := p) n).2 hp rfl, z]
    · unfold cadd at ho
      simp at ho
      exact ⟨0, by omega, by rw [ho]; exact x0⟩
    · obtain ⟨a, ha, e1, e2⟩ := po
      exact ⟨a, ha, by unfold rm; rw [x1]; exact e1, by rw [x8]; exact e2⟩
theorem kp2_247 {x : Int32} {t l : Nat} : ∀ (f i : Nat) (g : LH), l ≤ i → ∀ q, q < t * 7 → (kp2 x t l f i g).1 247 q = g.1 247 q
  | 0, _, _, _, _, _ => rfl
  | f + 1, i, g, hi, q, hq => by
    rw [kp2, kp2_247 f (i + 1) _ (by omega) q hq, w1_at (by omega), w1_ne (by decide)]
/-- what was kept stays kept -/
def KPk (c cc : LH) (t : Nat) : Prop := ∀ j, j < t → cc.1 245 j = c.1 245 j ∧ cc.1 246 j = c.1 246 j ∧ ∀ i, i < 7 → cc.1 247 (j * 7 + i) = c.1 247 (j * 7 + i)
theorem kp_keep {w l : Nat} (FC : Fk c cc) : KPk c (tr_kp cc t w l) t := by
  intro j hj
  have L := (kp2_lo (x := kp_x cc w l) (t := t) (l := l) (w - l) l cc).1
  unfold tr_kp kp3
  refine ⟨?_, ?_, fun i hi => ?_⟩
  · rw [w1_ne (by decide), w1_ne (by decide), w1_at (by omega), L 245 (by decide) (by decide), FC.1 245 (by decide) (by decide) (by decide)]
  · rw [w1_ne (by decide), w1_at (by omega), w1_ne (by decide), L 246 (by decide) (by decide), FC.1 246 (by decide) (by decide) (by decide)]
  · rw [w1_ne (by decide), w1_ne (by decide), w1_ne (by decide), kp2_247 _ _ _ (Nat.le_refl _) _ (by omega), FC.1 247 (by decide) (by decide) (by decide)]
theorem lp_keep : ∀ (f t : Nat) (x : Int32) (c : LH), NO c 0 n k → TRI c t → t + f = 14 → (x = -1 ∨ vp_in x 7) → (∃ t2, t ≤ t2 ∧ TRI (tr_lp 0 n k f t x c) t2) ∧ KPk c (tr_lp 0 n k f t x c) t
  | 0, t, x, c, H, T, ht, hx => ⟨⟨t, Nat.le_refl _, T⟩, fun _ _ => ⟨rfl, rfl, fun _ _ => rfl⟩⟩
  | f + 1, t, x, c, H, T, ht, hx => by
    unfold tr_lp
    split
    · exact ⟨⟨t, Nat.le_refl _, T⟩, fun _ _ => ⟨rfl, rfl, fun _ _ => rfl⟩⟩
    · rename_i nx
      obtain ⟨g2, e2, H2, T2, F2, -, -⟩ := lp_step (d := 0) H T (by omega) (hx.resolve_left nx)
      obtain ⟨-, -, FC⟩ := sx_go (d := 0) H (hx.resolve_left nx)
      dsimp only
      rw [← e2]
      obtain ⟨⟨t2, k1, k3⟩, k2⟩ := lp_keep f (t + 1) (tr_s1 g2 0 n k n 0) g2 H2 T2 (by omega) (tr_s1_in H.pts.2 n 0 (by have := H.pts.2; omega))
      have K := kp_keep (t := t) (w := ((tr_g c 0 k x).1 244 7).toNatClampNeg) (l := ((tr_g c 0 k x).1 244 8).toNatClampNeg) FC
      rw [← e2] at K
      refine ⟨⟨t2, by omega, k3⟩, fun j hj => ?_⟩
      obtain ⟨a1, a2, a3⟩ := k2 j (by omega)
      obtain ⟨b1, b2, b3⟩ := K j hj
      exact ⟨a1.trans b1, a2.trans b2, fun i hi => (a3 i hi).trans (b3 i hi)⟩
def nzv (g : LH) (k : Nat) (a : Nat) : Bool := decide (a < k ∧ (g.1 288 a).toNatClampNeg ≠ 0)
theorem told_no {F : LH} {x y : Int32} {t : Nat} (T : TRI F t) (no : ∀ j, j < t → x ≠ nI j) : tr_told F x y = -1 := by
  unfold tr_told
  by_cases c1 : x < 0
  · rw [if_pos c1]
  · rw [if_neg c1, if_neg]
    intro z
    obtain ⟨j, hj, e⟩ := nI_of c1
    have := T.2.1
    rw [T.1, e] at z
    exact no j ((nI_ltI hj (by omega)).mp z) e
end TRT
