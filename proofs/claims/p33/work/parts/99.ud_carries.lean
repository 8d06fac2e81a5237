/-! ===== the reference's least: what carries in the end ===== -/
section UDC
variable {h g g1 : LH} {n k M d : Nat} {P : Nat → Int}
theorem xca_1 (D : DN h n k 100) {Q : tf_Q} (q : ∀ (x1 : Int32) (g : LH), F3c h g → (∀ a, a < k → g.1 293 a = (if 0 ≤ h.1 292 a then 0 else h.1 291 a)) → (∀ p, p < n → -5000 ≤ (g.1 294 p).toInt ∧ (g.1 294 p).toInt ≤ 5000) → (∀ p, p < n → (g.1 294 p).toInt + dvg g k p = (h.1 294 p).toInt) → lx_X9_carries 298 (tf_Cd 298 (d + 1)) Q 83 [.ref 270, .int x1, tf_z] [] g) : ∀ (f a : Nat) (g : LH), a + f = k → F3c h g → (∀ b, b < a → g.1 293 b = (if 0 ≤ h.1 292 b then 0 else h.1 291 b)) → (∀ p, p < n → -(100 + 200 * (a : Int)) ≤ (g.1 294 p).toInt ∧ (g.1 294 p).toInt ≤ 100 + 200 * (a : Int)) → (∀ p, p < n → (g.1 294 p).toInt + dvg g a p = (h.1 294 p).toInt) → lx_X9_carries 298 (tf_Cd 298 (d + 1)) Q 2 [.ref 270, .int (nI a), tf_z] [] g
  | 0, a, g, ha, F, s1, s2, s5 => by
    have hn := D.1.1
    have e : a = k := by omega
    subst e
    exact go_X9_carries_2 (by decide) ⟨fun _ => q _ g F s1 (fun p hp => by have := s2 p hp; omega) s5, fun z => absurd ((D.1.fl (F 271 (by decide) (by decide))).k2 (by omega) (by omega)) z⟩
  | f + 1, a, g, ha, F, s1, s2, s5 => by
    have hn := D.1.1
    have H := D.1.fl (F 271 (by decide) (by decide))
    have K3 : tf_K 293 = 8 := by decide +kernel
    have N3 : tf_N 293 = 14 := by decide +kernel
    have K4 : tf_K 294 = 8 := by decide +kernel
    have N4 : tf_N 294 = 7 := by decide +kernel
    have v14 : vp_in (nI a) 14 := vi_of (by omega) (by omega)
    have ca : (nI a).toNatClampNeg = a := nI_clamp (by omega)
    obtain ⟨p, o, hp, ho, ep, eo⟩ := H.ends (a := a) (by omega)
    have db := D.2.1 a (by omega)
    have e36 : ∀ y : Int32, y = (if 0 ≤ h.1 292 a then 0 else h.1 291 a) → lx_X9_carries 298 (tf_Cd 298 (d + 1)) Q 36 [.ref 270, .int (nI a), tf_z] [.int y, .int (nI a), .ref 293] g := by
      intro y ey
      have by' : 0 ≤ y.toInt ∧ y.toInt ≤ 100 := by
        rw [ey]
        split
        · rw [z_ti]; omega
        · omega
      refine go_X9_carries_36 (by decide) K3 (ny0 := 14) N3 (by decide) ⟨v14, ?_⟩
      rw [ca]
      show tf_Cd 298 (d + 1) _ _ (w1 g 293 a y) _
      have u0 : ∀ e, e ≠ 293 → (w1 g 293 a y).1 e = g.1 e := fun e he => w1_ne he
      have u1 : (w1 g 293 a y).1 293 a = y := w1_eq
      have u2 : ∀ b, b ≠ a → (w1 g 293 a y).1 293 b = g.1 293 b := fun b hb => w1_at hb
      generalize w1 g 293 a y = g1 at *
      have r0 : rm g1 a 0 = nI p := by unfold rm; rw [u0 271 (by decide)]; exact ep
      refine sx_of (d := d) a 0 rfl rfl (by omega) (by omega) _ (go_X9_carries_47 (by decide) K4 (ny0 := 7) N4 (by decide) ?_)
      rw [r0, ca, u1, nI_clamp (by omega)]
      have vp7 : vp_in (nI p) 7 := vi_of (by omega) (by omega)
      have vo7 : vp_in (nI o) 7 := vi_of (by omega) (by omega)
      refine ⟨vp7, v14, vp7, ?_⟩
      show tf_Cd 298 (d + 1) _ _ (w1 g1 294 p (g1.1 294 p - y)) _
      have w0 : ∀ e, e ≠ 294 → (w1 g1 294 p (g1.1 294 p - y)).1 e = g1.1 e := fun e he => w1_ne he
      have w1' : (w1 g1 294 p (g1.1 294 p - y)).1 294 p = g1.1 294 p - y := w1_eq
      have w2 : ∀ b, b ≠ p → (w1 g1 294 p (g1.1 294 p - y)).1 294 b = g1.1 294 b := fun b hb => w1_at hb
      generalize w1 g1 294 p (g1.1 294 p - y) = g2 at *
      have r1 : rm g2 a 1 = nI o := by unfold rm; rw [w0 271 (by decide), u0 271 (by decide)]; exact eo
      refine sx_of (d := d) a 1 rfl rfl (by omega) (by omega) _ (go_X9_carries_67 (by decide) K4 (ny0 := 7) N4 (by decide) ?_)
      have c93 : g2.1 293 a = y := by rw [w0 293 (by decide)]; exact u1
      rw [r1, ca, c93, nI_clamp (by omega), nI_1]
      refine ⟨vo7, v14, vo7, ?_⟩
      show lx_X9_carries 298 (tf_Cd 298 (d + 1)) Q 2 _ [] (w1 g2 294 o (g2.1 294 o + y))
      have z0 : ∀ e, e ≠ 294 → (w1 g2 294 o (g2.1 294 o + y)).1 e = g2.1 e := fun e he => w1_ne he
      have z1 : (w1 g2 294 o (g2.1 294 o + y)).1 294 o = g2.1 294 o + y := w1_eq
      have z2 : ∀ b, b ≠ o → (w1 g2 294 o (g2.1 294 o + y)).1 294 b = g2.1 294 b := fun b hb => w1_at hb
      generalize w1 g2 294 o (g2.1 294 o + y) = g3 at *
      have mid : ∀ q, q < n → -(200 + 200 * (a : Int)) ≤ (g2.1 294 q).toInt ∧ (g2.1 294 q).toInt ≤ 200 + 200 * (a : Int) := by
        intro q hq
        have sq := s2 q hq
        by_cases e : q = p
        · rw [e] at sq
          rw [e, w1', u0 294 (by decide), tis (by omega) (by omega)]
          omega
        · rw [w2 q e, u0 294 (by decide)]
          omega
      refine xca_1 D q f (a + 1) g3 (by omega) (fun e h1 h2 => by rw [z0 e h2, w0 e h2, u0 e h1]; exact F e h1 h2) (fun b hb => ?_) (fun q hq => ?_) (fun q hq => ?_)
      · rw [z0 293 (by decide), w0 293 (by decide)]
        by_cases e : b = a
        · rw [e, u1]
          exact ey
        · rw [u2 b e]
          exact s1 b (by omega)
      · have mq := mid q hq
        by_cases e : q = o
        · rw [e] at mq
          rw [e, z1, tia (by omega) (by omega)]
          omega
        · rw [z2 q e]
          omega
      · have dg : dvg g3 (a + 1) q = dvg g a q + ((if p = q then y.toInt else 0) - (if o = q then y.toInt else 0)) := by
          have r31 : ∀ b w, rm g3 b w = rm g b w := fun b w => by
            unfold rm
            rw [z0 271 (by decide), w0 271 (by decide), u0 271 (by decide)]
          have c3 : g3.1 293 a = y := by rw [z0 293 (by decide)]; exact c93
          unfold dvg dv
          rw [fs]
          congr 1
          · refine fs_c a (fun b hb => ?_)
            have e3 : g3.1 293 b = g.1 293 b := by rw [z0 293 (by decide), w0 293 (by decide), u2 b (by omega)]
            simp only [r31, e3]
          · simp only [r31, c3, ep, eo]
            rw [nI_clamp (by omega), nI_clamp (by omega)]
        have sq := s2 q hq
        have s6 := s5 q hq
        rw [dg]
        have m2 : (g2.1 294 q).toInt = (g.1 294 q).toInt - (if p = q then y.toInt else 0) := by
          by_cases e : q = p
          · rw [← e] at w1'
            rw [w1', u0 294 (by decide), if_pos e.symm, tis (by omega) (by omega)]
          · rw [w2 q e, u0 294 (by decide), if_neg (fun z => e z.symm)]
            omega
        have mq := mid q hq
        have m3 : (g3.1 294 q).toInt = (g2.1 294 q).toInt + (if o = q then y.toInt else 0) := by
          by_cases e : q = o
          · rw [← e] at z1
            rw [z1, if_pos e.symm, tia (by omega) (by omega)]
          · rw [z2 q e, if_neg (fun z => e z.symm)]
            omega
        rw [m3, m2]
        omega
    refine go_X9_carries_2 (by decide) ⟨fun z => absurd z (H.k1 (by omega)), fun _ => ⟨v14, ?_⟩⟩
    rw [ca, F 292 (by decide) (by decide), F 291 (by decide) (by decide)]
    exact ⟨fun c => go_X9_carries_35 (by decide) K3 (ny0 := 14) N3 (by decide) (e36 _ (by rw [if_pos c])), fun c => ⟨v14, e36 _ (by rw [if_neg c])⟩⟩
theorem xca_3 (H : RM g n k) {x1 : Int32} {Q : tf_Q} (q1 : (∀ p, p < n → g.1 294 p = 0) → Q (.int 1) g) (q0 : (∃ p, p < n ∧ g.1 294 p ≠ 0) → Q (.int 0) g) : ∀ (f p : Nat), p + f = n → (∀ o, o < p → g.1 294 o = 0) → lx_X9_carries 298 (tf_Cd 298 d) Q 126 [.ref 270, .int x1, .int (nI p)] [] g
  | 0, p, hp, all => by
    have hn := H.1
    exact go_X9_carries_126 (by decide) ⟨fun _ => go_X9_carries_153 (by decide) (q1 (fun o ho => all o (by omega))), fun z => absurd (H.n2 (by omega) (by omega)) z⟩
  | f + 1, p, hp, all => by
    have hn := H.1
    refine go_X9_carries_126 (by decide) ⟨fun z => absurd z (H.n1 (by omega)), fun _ => ⟨vi_of (by omega) (by omega), ?_⟩⟩
    rw [nI_clamp (by omega)]
    refine ⟨fun c => go_X9_carries_147 (by decide) ?_, fun c => q0 ⟨p, by omega, c⟩⟩
    rw [nI_1]
    refine xca_3 H q1 q0 f (p + 1) (by omega) (fun o ho => ?_)
    by_cases e : o = p
    · rw [e]
      exact c
    · exact all o (by omega)
theorem fs_in {u : Nat → Nat} {f : Nat → Int} {n : Nat} : ∀ k, (∀ a, a < k → 0 ≤ f a) → fs (fun p => fs (fun a => if u a = p then f a else 0) k) n ≤ fs f k
  | 0, _ => by
    have : fs (fun p => fs (fun a => if u a = p then f a else 0) 0) n = 0 := fs_0 n
    rw [this]
    exact Int.le_refl _
  | k + 1, e => by
    have ih := fs_in (u := u) (n := n) k (fun a ha => e a (by omega))
    have one := fs_at (f := fun _ => 1) (q := u k) (v := f k) n
    have f0 := e k (by omega)
    have e2 : fs (fun p => fs (fun a => if u a = p then f a else 0) (k + 1)) n = fs (fun p => fs (fun a => if u a = p then f a else 0) k) n + fs (fun p => 1 * (if u k = p then f k else 0)) n := by
      rw [← fs_add]
      refine fs_c n (fun p _ => ?_)
      rw [fs, Int.one_mul]
    rw [e2, one, fs]
    split <;> omega
/-- so much is too much at most -/
theorem psv_b {S : Nat → Int} (hn : n ≤ 7) (hk : k ≤ 14) (B : ∀ a, a < k → 0 ≤ (g.1 293 a).toInt ∧ (g.1 293 a).toInt ≤ 100) (SB : ∀ p, p < n → S p ≤ 100) (CQ : ∀ p, p < n → (g.1 294 p).toInt + dvg g k p = S p) : psv g n ≤ 2100 := by
  have f1 := fs_in (u := fun a => (rm g a 1).toNatClampNeg) (f := fun a => (g.1 293 a).toInt) (n := n) k (fun a ha => (B a ha).1)
  have f2 : fs (fun a => (g.1 293 a).toInt) k ≤ 100 * (k : Int) := by
    have : ∀ m, fs (fun _ => 100) m = 100 * (m : Int) := by
      intro m
      induction m with
      | zero => rfl
      | succ m ih =>
        rw [fs, ih]
        omega
    rw [← this]
    exact fs_le k (fun a ha => (B a ha).2)
  have f3 : psv g n ≤ fs (fun p => 100 + fs (fun a => if (rm g a 1).toNatClampNeg = p then (g.1 293 a).toInt else 0) k) n := by
    unfold psv
    refine fs_le n (fun p hp => ?_)
    have c := CQ p hp
    have s := SB p hp
    have i0 : 0 ≤ fs (fun a => if (rm g a 1).toNatClampNeg = p then (g.1 293 a).toInt else 0) k := by
      have := fs_le (f := fun _ => 0) (g := fun a => if (rm g a 1).toNatClampNeg = p then (g.1 293 a).toInt else 0) k (fun a ha => by
        show (0 : Int) ≤ _
        have := (B a ha).1
        split <;> omega)
      rw [fs_0] at this
      exact this
    have i1 : -dvg g k p ≤ fs (fun a => if (rm g a 1).toNatClampNeg = p then (g.1 293 a).toInt else 0) k := by
      unfold dvg dv
      rw [fs_sub]
      dsimp only
      have := fs_le (f := fun _ => 0) (g := fun a => if (rm g a 0).toNatClampNeg = p then (g.1 293 a).toInt else 0) k (fun a ha => by
        show (0 : Int) ≤ _
        have := (B a ha).1
        split <;> omega)
      rw [fs_0] at this
      omega
    split <;> omega
  rw [fs_add] at f3
  have f4 : ∀ m, fs (fun _ => 100) m = 100 * (m : Int) := by
    intro m
    induction m with
    | zero => rfl
    | succ m ih =>
      rw [fs, ih]
      omega
  rw [f4] at f3
  omega
theorem psv_0 : 0 ≤ psv g n := by
  have := fs_le (f := fun _ => 0) (g := fun p => if 0 < (g.1 294 p).toInt then (g.1 294 p).toInt else 0) n (fun p _ => by
    show (0 : Int) ≤ _
    split <;> omega)
  rw [fs_0] at this
  exact this
/-- no one who wants is reached -/
def NOW (g : LH) (n k : Nat) : Prop := FX g k (g.1 295) ∧ (∀ p, p < n → ¬ g.1 294 p ≤ 0 → g.1 295 p ≠ 1000000) ∧ ∀ p, p < n → ¬ 0 ≤ g.1 294 p → g.1 295 p = 1000000
/-- as all began, but for what is carried -/
def CSk (h g : LH) (n k : Nat) : Prop := CB g n k ∧ (∃ P, PT g k P) ∧ ScF h g ∧ g.1 291 = h.1 291 ∧ g.1 292 = h.1 292 ∧ ∀ p, p < n → (g.1 294 p).toInt + dvg g k p = (h.1 294 p).toInt
theorem xca_2 {Q : tf_Q} (q1 : ∀ g : LH, CSk h g n k → (∀ p, p < n → g.1 294 p = 0) → Q (.int 1) g) (q0 : ∀ g : LH, CSk h g n k → NOW g n k → (∃ p, p < n ∧ g.1 294 p ≠ 0) → Q (.int 0) g) : ∀ (f i : Nat) (x1 : Int32) (g : LH), i + f = 10000 → CSk h g n k → ((x1 = -1 ∧ NOW g n k) ∨ (¬ x1 = -1 ∧ psv g n + (i : Int) ≤ 2100)) → lx_X9_carries 298 (tf_Cd 298 (d + 3)) Q 87 [.ref 270, .int x1, .int (nI i)] [] g := by
  intro f
  induction f with
  | zero =>
    intro i x1 g hi C W
    have e : i = 10000 := by omega
    subst e
    have p0 := psv_0 (g := g) (n := n)
    rcases W with ⟨-, W⟩ | ⟨-, W⟩
    · exact go_X9_carries_87 (by decide) ⟨fun _ => go_X9_carries_124 (by decide) (xca_3 C.1.1 (q1 g C) (q0 g C W) n 0 (by omega) (fun o ho => absurd ho (by omega))), fun z => absurd (nI_le (a := 10000) (b := 10000) (by omega) (by omega)) z⟩
    · omega
  | succ f ih =>
    intro i x1 g hi C W
    refine go_X9_carries_87 (by decide) ⟨fun z => absurd z (nI_ge (a := i) (b := 10000) (by omega) (by omega)), fun _ => ⟨fun c => ?_, fun c => ?_⟩⟩
    · rcases W with ⟨-, W⟩ | W
      · exact go_X9_carries_124 (by decide) (xca_3 C.1.1 (q1 g C) (q0 g C W) n 0 (by omega) (fun o ho => absurd ho (by omega)))
      · exact absurd c W.1
    · rcases W with ⟨z, -⟩ | ⟨-, W⟩
      · exact absurd z c
      · obtain ⟨B, ⟨P, Pt⟩, F, e1, e2, CQ⟩ := C
        refine tf_Sp.cj (sp_lcw (d := d) B Pt) (sp_lcs (d := d) B) _ (fun v g2 p => go_X9_carries_103 (by decide) ?_)
        obtain ⟨⟨F2, W2⟩, -, SR⟩ := p
        have B2 := F2.cb B
        obtain ⟨R, P2, C2⟩ := cw_ch B Pt F2 W2
        have S2 : ScF h g2 := F.tr ⟨fun e h1 h2 => F2.1 e (by omega) (by omega), by rw [F2.1 270 (by decide) (by decide)]⟩
        have dve : ∀ p, dvg g2 k p = dvg g k p := fun p => by
          unfold dvg rm
          rw [F2.1 293 (by decide) (by decide), F2.1 271 (by decide) (by decide)]
        have CQ2 : ∀ p, p < n → (g2.1 294 p).toInt + dvg g2 k p = (h.1 294 p).toInt := fun p hp => by
          rw [dve, F2.1 294 (by decide) (by decide)]
          exact CQ p hp
        have e12 : g2.1 291 = h.1 291 := by rw [F2.1 291 (by decide) (by decide)]; exact e1
        have e22 : g2.1 292 = h.1 292 := by rw [F2.1 292 (by decide) (by decide)]; exact e2
        have ps : psv g2 n = psv g n := by
          unfold psv
          rw [F2.1 294 (by decide) (by decide)]
        refine tf_Sp.cj (sp_wa (d := d + 2) B2.1) (sp_wn (d := d + 2) B2.1) _ (fun v2 g3 p3 => ?_)
        obtain ⟨⟨e3, o⟩, x, ex, none⟩ := p3
        subst e3
        rcases o with ev | ⟨t, ht, ev, neg, re⟩
        · subst ev
          have x1 := Value.int.inj ex
          refine go_X9_carries_107 (by decide) ⟨fun _ => go_X9_carries_118 (by decide) ?_, fun z => absurd rfl z⟩
          rw [nI_1]
          refine ih (i + 1) _ g3 (by omega) ⟨B2, ⟨P2, C2.2⟩, S2, e12, e22, CQ2⟩ (Or.inl ⟨rfl, ?_, fun p hp z => ?_, fun p hp z => ?_⟩)
          · obtain ⟨T, N, -, -, fx⟩ := W2
            obtain ⟨f1, f2, f3, f4⟩ := F2.e
            unfold FX
            rw [f1, f2, f3, f4]
            exact fx
          · rw [F2.1 294 (by decide) (by decide)] at z
            exact (SR p hp).2 z
          · exact Int32.le_antisymm (SR p hp).1 (none x1.symm p hp z)
        · subst ev
          have hn := B.1.1
          refine go_X9_carries_107 (by decide) ⟨fun z => absurd z (nI_neg1 (by omega)), fun _ => xsp_sd (d := d) B2 C2 ht neg re _ (fun v4 g4 p4 => go_X9_carries_118 (by decide) ?_)⟩
          obtain ⟨B4, P4, S4, a1, a2, cq, less⟩ := p4
          rw [nI_1]
          refine ih (i + 1) _ g4 (by omega) ⟨B4, ⟨P2, P4⟩, S2.tr S4, a1.trans e12, a2.trans e22, fun p hp => by rw [cq p hp]; exact CQ2 p hp⟩ (Or.inr ⟨nI_neg1 (by omega), by omega⟩)
end UDC
