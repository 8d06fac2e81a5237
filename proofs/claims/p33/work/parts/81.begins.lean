/-! ===== the reference begins ===== -/
section R81
variable {h g : LH} {n k M d : Nat}
/-- a grid before it begins -/
def BI (g : LH) (n k : Nat) : Prop := RM g n k ∧ RS g ∧ GN g ∧ (∀ a, a < k → rm g a 0 ≠ rm g a 1) ∧ (∀ a, a < k → vp_in (rm g a 2) 100) ∧ (∀ a, a < k → ∃ c, c ≤ 198 ∧ rm g a 3 + 99 = nI c) ∧ (∀ p, p < n → ∃ s, s ≤ 198 ∧ g.1 271 (44 + p) + 99 = nI s)
theorem GI.bi (G : GI h n k M) : BI h n k := ⟨G.1, G.2.2.1, G.2.2.2.2.2.2, G.2.2.2.2.1.1, fun a ha => (G.2.2.2.1 a ha).1, G.2.2.2.2.1.2.2.1, G.2.2.2.2.1.2.2.2⟩
/-- what begins leaves as it was -/
def BX (ix : Nat) : Prop := ix < 51 ∨ (170 ≤ ix) ∨ ∃ b w, ix = 72 + 7 * b + w ∧ w < 7 ∧ w ≠ 4 ∧ w ≠ 5
def Fb (h g : LH) : Prop := (∀ e, e ≠ 271 → g.1 e = h.1 e) ∧ g.2 = h.2 ∧ ∀ ix, BX ix → g.1 271 ix = h.1 271 ix
theorem Fb.rf : Fb h h := ⟨fun _ _ => rfl, rfl, fun _ _ => rfl⟩
theorem Fb.tr {f : LH} (x : Fb h g) (y : Fb g f) : Fb h f := ⟨fun e he => (y.1 e he).trans (x.1 e he), y.2.1.trans x.2.1, fun i hi => (y.2.2 i hi).trans (x.2.2 i hi)⟩
theorem Fb.rm (F : Fb h g) {b w : Nat} (h1 : w < 7) (h2 : w ≠ 4) (h3 : w ≠ 5) : _root_.Eq (_root_.id (g.1 271 (72 + 7 * b + w))) (h.1 271 (72 + 7 * b + w)) := F.2.2 _ (Or.inr (Or.inr ⟨b, w, rfl, h1, h2, h3⟩))
theorem BI.fb (B : BI h n k) (F : Fb h g) : BI g n k := by
  obtain ⟨R, S, N, A1, A2, A3, A4⟩ := B
  have hn := R.1
  have er : ∀ b w, w < 7 → w ≠ 4 → w ≠ 5 → rm g b w = rm h b w := fun b w h1 h2 h3 => F.rm h1 h2 h3
  have lo : ∀ i, i < 51 → g.1 271 i = h.1 271 i := fun i hi => F.2.2 i (Or.inl hi)
  refine ⟨⟨R.1, by rw [lo 0 (by omega)]; exact R.2.1, by rw [lo 1 (by omega)]; exact R.2.2.1, fun a ha => by rw [er a 0 (by omega) (by omega) (by omega), er a 1 (by omega) (by omega) (by omega)]; exact R.2.2.2 a ha⟩, by unfold RS; rw [lo 6 (by omega)]; exact S, by unfold GN; rw [lo 7 (by omega)]; exact N, fun a ha => by rw [er a 0 (by omega) (by omega) (by omega), er a 1 (by omega) (by omega) (by omega)]; exact A1 a ha, fun a ha => by rw [er a 2 (by omega) (by omega) (by omega)]; exact A2 a ha, fun a ha => by rw [er a 3 (by omega) (by omega) (by omega)]; exact A3 a ha, fun p hp => by rw [lo _ (by omega)]; exact A4 p hp⟩
def ba_full (g : LH) (w : Int32) (a : Nat) : Bool := !decide (w = 0) && (decide (rm g a 6 = 0) && (!decide (rm g a 2 ≤ 0) && !decide (2 * rm g a 4 < rm g a 2)))
def ba1 (g : LH) (w : Int32) (a : Nat) : LH := if ba_full g w a = true then rp (rp g a 5 1) a 4 (rm g a 2) else rp (rp g a 5 0) a 4 0
def ba (w : Int32) : Nat → Nat → LH → LH
  | 0, _, g => g
  | f + 1, a, g => ba w f (a + 1) (ba1 g w a)
theorem rp_fb {a w : Nat} {v : Int32} (ha : a < 14) (hw : w = 4 ∨ w = 5) : Fb g (rp g a w v) := ⟨fun e he => w1_ne he, rfl, fun ix hx => rp_ne (by rcases hx with z | z | ⟨b, w2, z, h1, h2, h3⟩ <;> omega)⟩
theorem ba1_fb {w : Int32} {a : Nat} (ha : a < 14) : Fb g (ba1 g w a) := by
  unfold ba1
  split
  · exact (rp_fb ha (Or.inr rfl)).tr (rp_fb ha (Or.inl rfl))
  · exact (rp_fb ha (Or.inr rfl)).tr (rp_fb ha (Or.inl rfl))
theorem ba_fb {w : Int32} : ∀ (f a : Nat) (g : LH), a + f ≤ 14 → Fb g (ba w f a g)
  | 0, _, _, _ => Fb.rf
  | f + 1, a, g, ha => (ba1_fb (by omega)).tr (ba_fb f (a + 1) _ (by omega))
theorem sx_rbaL {w : Int32} {Q : tf_Q} : ∀ (f a : Nat) (g : LH) (x3 : Value), RM g n k → a + f = k → (∀ (x2 : Int32) (x3 : Value), lx_X9_begins 298 (tf_Cd 298 (d + 1)) Q 99 [.ref 270, .int w, .int x2, x3, tf_z] [] (ba w f a g)) → lx_X9_begins 298 (tf_Cd 298 (d + 1)) Q 2 [.ref 270, .int w, .int (nI a), x3, tf_z] [] g
  | 0, a, g, x3, H, ha, q => by
    have hk := H.1
    refine go_X9_begins_2 (by decide) ⟨fun _ => q _ _, fun z => absurd ?_ z⟩
    show g.1 271 1 ≤ nI a
    rw [H.2.2.1]
    exact nI_le (by omega) (by omega)
  | f + 1, a, g, x3, H, ha, q => by
    have hk := H.1
    have h14 : a < 14 := by omega
    have s2 := sx_of (h := g) (d := d) (x := nI a) (y := 2) a 2 rfl rfl h14 (by omega)
    have s4 := sx_of (h := g) (d := d) (x := nI a) (y := 4) a 4 rfl rfl h14 (by omega)
    have s6 := sx_of (h := g) (d := d) (x := nI a) (y := 6) a 6 rfl rfl h14 (by omega)
    have H1 : RM (ba1 g w a) n k := by
      have F := ba1_fb (g := g) (w := w) h14
      exact ⟨H.1, by rw [F.2.2 0 (Or.inl (by omega))]; exact H.2.1, by rw [F.2.2 1 (Or.inl (by omega))]; exact H.2.2.1, fun b hb => by
        have e0 : rm (ba1 g w a) b 0 = rm g b 0 := F.rm (by omega) (by omega) (by omega)
        have e1 : rm (ba1 g w a) b 1 = rm g b 1 := F.rm (by omega) (by omega) (by omega)
        rw [e0, e1]
        exact H.2.2.2 b hb⟩
    have e93 : ∀ x3 : Int32, lx_X9_begins 298 (tf_Cd 298 (d + 1)) Q 93 [.ref 270, .int w, .int (nI a), .int x3, tf_z] [] (ba1 g w a) := fun x3 => go_X9_begins_93 (by decide) (by rw [nI_1]; exact sx_rbaL f (a + 1) (ba1 g w a) _ H1 (by omega) q)
    have e56 : ba_full g w a = false → lx_X9_begins 298 (tf_Cd 298 (d + 1)) Q 56 [.ref 270, .int w, .int (nI a), x3, tf_z] [] g := by
      intro e
      unfold ba1 at e93
      rw [e, if_neg Bool.false_ne_true] at e93
      exact go_X9_begins_56 (by decide) (go_X9_begins_57 (by decide) ⟨fun _ => go_X9_begins_69 (by decide) (go_X9_begins_70 (by decide) (sx_puts (d := d) a 5 _ rfl rfl h14 (by omega) _ (go_X9_begins_73 (by decide) ⟨fun _ => go_X9_begins_89 (by decide) (go_X9_begins_90 (by decide) (sx_puts (d := d) a 4 _ rfl rfl h14 (by omega) _ (e93 _))), fun z => absurd rfl z⟩))), fun z => absurd rfl z⟩)
    have e57 : ba_full g w a = true → lx_X9_begins 298 (tf_Cd 298 (d + 1)) Q 57 [.ref 270, .int w, .int (nI a), x3, tf_z] [.int 1] g := by
      intro e
      unfold ba1 at e93
      rw [if_pos e] at e93
      have s2' := sx_of (h := rp g a 5 1) (d := d) (x := nI a) (y := 2) a 2 rfl rfl h14 (by omega)
      have r2 : rm (rp g a 5 1) a 2 = rm g a 2 := rp_ne (by omega)
      rw [r2] at s2'
      exact go_X9_begins_57 (by decide) ⟨fun z => absurd z (by decide), fun _ => go_X9_begins_70 (by decide) (sx_puts (d := d) a 5 _ rfl rfl h14 (by omega) _ (go_X9_begins_73 (by decide) ⟨fun z => absurd z (by decide), fun _ => s2' _ (go_X9_begins_86 (by decide) (go_X9_begins_90 (by decide) (sx_puts (d := d) a 4 _ rfl rfl h14 (by omega) _ (e93 _))))⟩))⟩
    refine go_X9_begins_2 (by decide) ⟨fun z => ?_, fun _ => ⟨fun c0 => e56 ?_, fun c0 => s6 _ (go_X9_begins_23 (by decide) ⟨fun c1 => s2 _ (go_X9_begins_32 (by decide) ⟨fun c2 => e56 ?_, fun c2 => s4 _ (go_X9_begins_42 (by decide) (s2 _ (go_X9_begins_49 (by decide) ⟨fun c3 => e56 ?_, fun c3 => e57 ?_⟩)))⟩), fun c1 => e56 ?_⟩)⟩⟩
    · have z2 : g.1 271 1 ≤ nI a := z
      rw [H.2.2.1] at z2
      exact absurd z2 (nI_ge (by omega) (by omega))
    · simp [ba_full, c0]
    · simp [ba_full, c0, c1, c2]
    · simp [ba_full, c0, c1, c2, c3]
    · simp [ba_full, c0, c1, c2, c3]
    · simp [ba_full, c0, c1]
/-- what is left at a point -/
def lf1 (g : LH) (p a : Nat) : Int32 := if rm g a 1 = nI p then rm g a 4 else if rm g a 0 = nI p then -rm g a 4 else 0
def lf (g : LH) (p : Nat) : Nat → Nat → Int32 → Int32
  | 0, _, s => s
  | f + 1, a, s => lf g p f (a + 1) (s + lf1 g p a)
theorem sx_lfL {w : Int32} {p : Nat} {Q : tf_Q} (H : RM g n k) : ∀ (f a : Nat) (s : Int32), a + f = k → (∀ x4 : Int32, lx_X9_begins 298 (tf_Cd 298 (d + 1)) Q 188 [.ref 270, .int w, .int (nI p), .int (lf g p f a s), .int x4] [] g) → lx_X9_begins 298 (tf_Cd 298 (d + 1)) Q 124 [.ref 270, .int w, .int (nI p), .int s, .int (nI a)] [] g
  | 0, a, s, ha, q => by
    have hk := H.1
    refine go_X9_begins_124 (by decide) ⟨fun _ => q _, fun z => absurd ?_ z⟩
    show g.1 271 1 ≤ nI a
    rw [H.2.2.1]
    exact nI_le (by omega) (by omega)
  | f + 1, a, s, ha, q => by
    have hk := H.1
    have h14 : a < 14 := by omega
    have s0 := sx_of (h := g) (d := d) (x := nI a) (y := 0) a 0 rfl rfl h14 (by omega)
    have s1 := sx_of (h := g) (d := d) (x := nI a) (y := 1) a 1 rfl rfl h14 (by omega)
    have s4 := sx_of (h := g) (d := d) (x := nI a) (y := 4) a 4 rfl rfl h14 (by omega)
    have e180 : ∀ y : Int32, y = lf1 g p a → lx_X9_begins 298 (tf_Cd 298 (d + 1)) Q 180 [.ref 270, .int w, .int (nI p), .int s, .int (nI a)] [.int y, .int s] g := fun y e => go_X9_begins_180 (by decide) (by rw [nI_1, e]; exact sx_lfL H f (a + 1) _ (by omega) q)
    refine go_X9_begins_124 (by decide) ⟨fun z => ?_, fun _ => s1 _ (go_X9_begins_143 (by decide) ⟨fun c => s4 _ (go_X9_begins_154 (by decide) (e180 _ ?_)), fun c => go_X9_begins_157 (by decide) (s0 _ (go_X9_begins_164 (by decide) ⟨fun c2 => s4 _ (go_X9_begins_175 (by decide) (e180 _ ?_)), fun c2 => go_X9_begins_179 (by decide) (e180 _ ?_)⟩))⟩)⟩
    · have z2 : g.1 271 1 ≤ nI a := z
      rw [H.2.2.1] at z2
      exact absurd z2 (nI_ge (by omega) (by omega))
    · rw [lf1, if_pos c]
    · rw [lf1, if_neg c, if_pos c2]
    · rw [lf1, if_neg c, if_neg c2]
def bp1 (g : LH) (k p : Nat) : LH := w1 (w1 (w1 g 271 (51 + p) 1) 271 (58 + p) (if lf g p k 0 (g.1 271 (44 + p)) < 0 then -1 else 1)) 271 (65 + p) (if lf g p k 0 (g.1 271 (44 + p)) < 0 then -lf g p k 0 (g.1 271 (44 + p)) else lf g p k 0 (g.1 271 (44 + p)))
def bp (k : Nat) : Nat → Nat → LH → LH
  | 0, _, g => g
  | f + 1, p, g => bp k f (p + 1) (bp1 g k p)
theorem bp1_lo {p : Nat} : (∀ e, e ≠ 271 → (bp1 g k p).1 e = g.1 e) ∧ (bp1 g k p).2 = g.2 ∧ ∀ ix, ix ≠ 51 + p → ix ≠ 58 + p → ix ≠ 65 + p → (bp1 g k p).1 271 ix = g.1 271 ix := ⟨fun e he => by unfold bp1; rw [w1_ne he, w1_ne he, w1_ne he], rfl, fun ix h1 h2 h3 => by unfold bp1; rw [w1_at h3, w1_at h2, w1_at h1]⟩
theorem RM.bp1 {p : Nat} (H : RM g n k) (hp : p < 7) : RM (bp1 g k p) n k := by
  have L := bp1_lo (g := g) (k := k) (p := p)
  exact ⟨H.1, by rw [L.2.2 0 (by omega) (by omega) (by omega)]; exact H.2.1, by rw [L.2.2 1 (by omega) (by omega) (by omega)]; exact H.2.2.1, fun b hb => by
    unfold rm
    rw [L.2.2 _ (by omega) (by omega) (by omega), L.2.2 _ (by omega) (by omega) (by omega)]
    exact H.2.2.2 b hb⟩
theorem sx_bpL {w : Int32} {Q : tf_Q} : ∀ (f p : Nat) (g : LH) (x3 x4 : Value), RM g n k → p + f = n → Q tf_z (bp k f p g) → lx_X9_begins 298 (tf_Cd 298 (d + 1)) Q 101 [.ref 270, .int w, .int (nI p), x3, x4] [] g
  | 0, p, g, x3, x4, H, hp, q => by
    have hk := H.1
    refine go_X9_begins_101 (by decide) ⟨fun _ => go_X9_begins_241 (by decide) q, fun z => absurd ?_ z⟩
    show g.1 271 0 ≤ nI p
    rw [H.2.1]
    exact nI_le (by omega) (by omega)
  | f + 1, p, g, x3, x4, H, hp, q => by
    have hk := H.1
    have K : tf_K 271 = 8 := by decide +kernel
    have N : tf_N 271 = 865 := by decide +kernel
    have i44 : (44 : Int32) + nI p = nI (44 + p) := nI_add 44 p
    have i51 : (51 : Int32) + nI p = nI (51 + p) := nI_add 51 p
    have i58 : (58 : Int32) + nI p = nI (58 + p) := nI_add 58 p
    have i65' : (65 : Int32) + nI p = nI (65 + p) := nI_add 65 p
    have q2 := fun (x3 x4 : Value) => sx_bpL (w := w) f (p + 1) (bp1 g k p) x3 x4 (H.bp1 (by omega)) (by omega) q
    refine go_X9_begins_101 (by decide) ⟨fun z => ?_, fun _ => ?_⟩
    · have z2 : g.1 271 0 ≤ nI p := z
      rw [H.2.1] at z2
      exact absurd z2 (nI_ge (by omega) (by omega))
    · rw [i44, nI_clamp (by omega)]
      refine ⟨vi_of (by omega) (by omega), sx_lfL H k 0 _ (by omega) (fun x4 => go_X9_begins_188 (by decide) ?_)⟩
      unfold bp1 at q2
      rw [i51, i58, nI_clamp (by omega)]
      generalize lf g p k 0 (g.1 271 (44 + p)) = s at q2 ⊢
      refine ⟨vi_of (by omega) (by omega), fun c => go_X9_begins_214 (by decide) K (ny0 := 865) N (by decide) (go_X9_begins_215 (by decide) K (ny0 := 865) N (by decide) ⟨vi_of (by omega) (by omega), fun _ => go_X9_begins_232 (by decide) K (ny0 := 865) N (by decide) (go_X9_begins_234 (by decide) K (ny0 := 865) N (by decide) ?_), fun z => absurd c z⟩), fun c => go_X9_begins_215 (by decide) K (ny0 := 865) N (by decide) ⟨vi_of (by omega) (by omega), fun z => absurd z c, fun _ => go_X9_begins_234 (by decide) K (ny0 := 865) N (by decide) ?_⟩⟩
      · rw [i65', nI_clamp (by omega), nI_clamp (by omega), nI_1]
        rw [if_pos c, if_pos c] at q2
        exact ⟨vi_of (by omega) (by omega), q2 _ _⟩
      · rw [i65', nI_clamp (by omega), nI_clamp (by omega), nI_1]
        rw [if_neg c, if_neg c] at q2
        exact ⟨vi_of (by omega) (by omega), q2 _ _⟩
def bgn (g : LH) (n k : Nat) (w : Int32) : LH := bp k n 0 (ba w k 0 g)
theorem sx_bgn (H : RM g n k) (w : Int32) : tf_Rt (d + 2) 51 [.ref 270, .int w] g tf_z (bgn g n k w) := by
  intro Q q
  have hk := H.1
  have F := ba_fb (w := w) k 0 g (by omega)
  have H1 : RM (ba w k 0 g) n k := ⟨H.1, by rw [F.2.2 0 (Or.inl (by omega))]; exact H.2.1, by rw [F.2.2 1 (Or.inl (by omega))]; exact H.2.2.1, fun b hb => by
    have e0 : rm (ba w k 0 g) b 0 = rm g b 0 := F.rm (by omega) (by omega) (by omega)
    have e1 : rm (ba w k 0 g) b 1 = rm g b 1 := F.rm (by omega) (by omega) (by omega)
    rw [e0, e1]
    exact H.2.2.2 b hb⟩
  exact en_X9_begins (by decide) (go_X9_begins_0 (by decide) (sx_rbaL k 0 g _ H (by omega) (fun x2 x3 => go_X9_begins_99 (by decide) (sx_bpL n 0 _ _ _ H1 (by omega) q))))
end R81
