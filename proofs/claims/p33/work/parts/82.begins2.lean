/-! ===== after the reference has begun its grid is one ===== -/
section R82
variable {h g : LH} {n k M d : Nat}
/-- arcs a below m are empty or full -/
theorem ba1_at {w : Int32} {a : Nat} (hb : vp_in (rm g a 2) 100) : (rm (ba1 g w a) a 5 = 0 ∧ rm (ba1 g w a) a 4 = 0) ∨ (rm (ba1 g w a) a 5 = 1 ∧ rm (ba1 g w a) a 4 = rm g a 2) := by
  unfold ba1
  split
  · refine Or.inr ⟨?_, rp_at⟩
    exact (rp_ne (by omega)).trans rp_at
  · refine Or.inl ⟨?_, rp_at⟩
    exact (rp_ne (by omega)).trans rp_at
theorem ba1_ne {w : Int32} {a b v : Nat} (hv : v < 7) (hne : b ≠ a) : rm (ba1 g w a) b v = rm g b v := by
  unfold ba1
  have e1 : 72 + 7 * b + v ≠ 72 + 7 * a + 5 ∨ True := Or.inr trivial
  split
  · by_cases h5 : 72 + 7 * b + v = 72 + 7 * a + 5
    · omega
    · by_cases h4 : 72 + 7 * b + v = 72 + 7 * a + 4
      · omega
      · exact (rp_ne h4).trans (rp_ne h5)
  · by_cases h5 : 72 + 7 * b + v = 72 + 7 * a + 5
    · omega
    · by_cases h4 : 72 + 7 * b + v = 72 + 7 * a + 4
      · omega
      · exact (rp_ne h4).trans (rp_ne h5)
def EF (g : LH) (a : Nat) : Prop := (rm g a 5 = 0 ∧ rm g a 4 = 0) ∨ (rm g a 5 = 1 ∧ rm g a 4 = rm g a 2)
theorem ba_ef {w : Int32} : ∀ (f a : Nat) (g : LH), a + f ≤ 14 → (∀ b, b < a + f → vp_in (rm g b 2) 100) → (∀ b, b < a → EF g b) → ∀ b, b < a + f → EF (ba w f a g) b
  | 0, a, g, ha, hb, he, b, hlt => he b hlt
  | f + 1, a, g, ha, hb, he, b, hlt => by
    rw [ba]
    have F := ba1_fb (g := g) (w := w) (a := a) (by omega)
    have r2 : ∀ c, rm (ba1 g w a) c 2 = rm g c 2 := fun c => F.rm (by omega) (by omega) (by omega)
    refine ba_ef f (a + 1) _ (by omega) (fun c hc => by rw [r2]; exact hb c (by omega)) (fun c hc => ?_) b (by omega)
    by_cases e : c = a
    · subst e
      have := ba1_at (w := w) (hb c (by omega))
      unfold EF
      rw [r2]
      exact this
    · unfold EF
      rw [r2, ba1_ne (by omega) e, ba1_ne (by omega) e]
      exact he c (by omega)
theorem lf_in {p : Nat} (hf : ∀ a, a < k → ∃ v, v < 100 ∧ rm g a 4 = nI v) : ∀ (f a : Nat) (s : Int32) (t : Nat), a + f = k → t ≤ 198 * (a + 1) → s + nI (99 * (a + 1)) = nI t → ∃ t2, t2 ≤ 198 * (k + 1) ∧ lf g p f a s + nI (99 * (k + 1)) = nI t2
  | 0, a, s, t, ha, ht, e => ⟨t, by subst ha; exact ht, by subst ha; exact e⟩
  | f + 1, a, s, t, ha, ht, e => by
    rw [lf]
    obtain ⟨v, hv, ev⟩ := hf a (by omega)
    have key : ∃ t1, t1 ≤ 198 ∧ lf1 g p a + nI 99 = nI t1 := by
      unfold lf1
      rw [ev]
      split
      · exact ⟨v + 99, by omega, nI_add v 99⟩
      · split
        · refine ⟨99 - v, by omega, ?_⟩
          rw [Int32.add_comm]
          exact nI_subneg (by omega)
        · exact ⟨99, by omega, Int32.zero_add _⟩
    obtain ⟨t1, h1, e1⟩ := key
    refine lf_in hf f (a + 1) _ (t + t1) (by omega) (by omega) ?_
    have : nI (99 * (a + 1 + 1)) = nI (99 * (a + 1)) + nI 99 := by rw [nI_add, show 99 * (a + 1) + 99 = 99 * (a + 1 + 1) by omega]
    rw [this, ← nI_add, ← e, ← e1, Int32.add_assoc, Int32.add_assoc]
    congr 1
    rw [← Int32.add_assoc, Int32.add_comm (lf1 g p a), Int32.add_assoc]
/-- a number between -m and m: its size -/
theorem abs_in {s : Int32} {m t : Nat} (hm : m ≤ 100000) (ht : t ≤ 2 * m) (e : s + nI m = nI t) : ∃ v, v ≤ m ∧ (if s < 0 then -s else s) = nI v := by
  have es : s = nI t - nI m := by rw [← e, Int32.add_sub_cancel]
  by_cases c : t < m
  · have hneg : s < 0 := by rw [es]; exact pk_sneg (by omega) c
    refine ⟨m - t, by omega, ?_⟩
    rw [if_pos hneg, es, Int32.neg_sub, nI_sub (by omega)]
  · rw [nI_sub (by omega)] at es
    rw [if_neg (by rw [es]; exact nI_pos (by omega)), es]
    exact ⟨t - m, by omega, rfl⟩
/-- the debts after -/
theorem lf_same {g2 : LH} {p : Nat} (e : ∀ a w, rm g2 a w = rm g a w) : ∀ (f a : Nat) (s : Int32), lf g2 p f a s = lf g p f a s
  | 0, _, _ => rfl
  | f + 1, a, s => by
    rw [lf, lf, lf_same e f (a + 1)]
    unfold lf1
    rw [e, e, e]
theorem bp_ok : ∀ (f p : Nat) (g : LH), p + f ≤ 7 → k ≤ 14 → (∀ a, a < k → ∃ v, v < 100 ∧ rm g a 4 = nI v) → (∀ q, q < p + f → ∃ s, s ≤ 198 ∧ g.1 271 (44 + q) + 99 = nI s) → (∀ q, q < p → g.1 271 (51 + q) = 1 ∧ ∃ v, v ≤ 1485 ∧ g.1 271 (65 + q) = nI v ∧ (g.1 271 (58 + q) = 1 ∨ g.1 271 (58 + q) = -1)) → (∀ q, q < p + f → (bp k f p g).1 271 (51 + q) = 1 ∧ ∃ v, v ≤ 1485 ∧ (bp k f p g).1 271 (65 + q) = nI v ∧ ((bp k f p g).1 271 (58 + q) = 1 ∨ (bp k f p g).1 271 (58 + q) = -1)) ∧ (∀ e, e ≠ 271 → (bp k f p g).1 e = g.1 e) ∧ (bp k f p g).2 = g.2 ∧ ∀ ix, ix < 51 ∨ 72 ≤ ix → (bp k f p g).1 271 ix = g.1 271 ix
  | 0, p, g, hp, hk, ha, hs, hd => ⟨hd, fun _ _ => rfl, rfl, fun _ _ => rfl⟩
  | f + 1, p, g, hp, hk, ha, hs, hd => by
    rw [bp]
    obtain ⟨l1, l2, l3⟩ := bp1_lo (g := g) (k := k) (p := p)
    have r : ∀ a w, rm (bp1 g k p) a w = rm g a w := fun a w => l3 _ (by omega) (by omega) (by omega)
    obtain ⟨s, hs1, hs2⟩ := hs p (by omega)
    obtain ⟨t, ht, et⟩ := lf_in (g := g) (p := p) (k := k) ha k 0 (g.1 271 (44 + p)) s (by omega) (by omega) hs2
    obtain ⟨v, hv, ev⟩ := abs_in (m := 99 * (k + 1)) (by omega) (by omega) et
    have d65 : (bp1 g k p).1 271 (65 + p) = nI v := by
      unfold bp1
      rw [w1_eq]
      exact ev
    have d58 : (bp1 g k p).1 271 (58 + p) = 1 ∨ (bp1 g k p).1 271 (58 + p) = -1 := by
      unfold bp1
      rw [w1_at (by omega), w1_eq]
      split
      · exact Or.inr rfl
      · exact Or.inl rfl
    have d51 : (bp1 g k p).1 271 (51 + p) = 1 := by
      unfold bp1
      rw [w1_at (by omega), w1_at (by omega), w1_eq]
    obtain ⟨k1, k2, k3, k4⟩ := bp_ok f (p + 1) (bp1 g k p) (by omega) hk (fun a h1 => by rw [r]; exact ha a h1) (fun q hq => by rw [l3 _ (by omega) (by omega) (by omega)]; exact hs q (by omega)) (fun q hq => by
      by_cases e : q = p
      · subst e
        exact ⟨d51, v, by omega, d65, d58⟩
      · rw [l3 (51 + q) (by omega) (by omega) (by omega), l3 (65 + q) (by omega) (by omega) (by omega), l3 (58 + q) (by omega) (by omega) (by omega)]
        exact hd q (by omega))
    exact ⟨fun q hq => k1 q (by omega), fun e he => (k2 e he).trans (l1 e he), k3.trans l2, fun ix hx => (k4 ix hx).trans (l3 ix (by omega) (by omega) (by omega))⟩
theorem bgn_ok {w : Int32} (B : BI g n k) : GI (bgn g n k w) n k M ∧ Fb g (bgn g n k w) := by
  have hn := B.1.1
  have F1 := ba_fb (w := w) k 0 g (by omega)
  have B1 : BI (ba w k 0 g) n k := B.fb F1
  have E1 := ba_ef (w := w) k 0 g (by omega) (fun b hb => B.2.2.2.2.1 b (by omega)) (fun b hb => absurd hb (by omega))
  rw [Nat.zero_add] at E1
  unfold bgn
  generalize ba w k 0 g = g1 at *
  have fl : ∀ a, a < k → ∃ v, v < 100 ∧ rm g1 a 4 = nI v := by
    intro a ha
    rcases E1 a ha with ⟨-, z⟩ | ⟨-, z⟩
    · exact ⟨0, by omega, z⟩
    · rw [z]
      exact vi_nI (B1.2.2.2.2.1 a ha)
  obtain ⟨k1, k2, k3, k4⟩ := bp_ok (k := k) n 0 g1 (by omega) hn.2.2 fl (fun q hq => B1.2.2.2.2.2.2 q (by omega)) (fun q hq => absurd hq (by omega))
  rw [Nat.zero_add] at k1
  generalize bp k n 0 g1 = g2 at *
  have F2 : Fb g1 g2 := ⟨k2, k3, fun ix hx => k4 ix (by rcases hx with z | z | ⟨b, w2, z, -⟩ <;> omega)⟩
  have B2 : BI g2 n k := B1.fb F2
  have r : ∀ a v, rm g2 a v = rm g1 a v := fun a v => k4 _ (by omega)
  refine ⟨⟨B2.1, fun S hS ⟨p, hp, hSp⟩ => Or.inl ⟨p, hp, hSp, (k1 p hp).1⟩, B2.2.1, fun a ha => ⟨B2.2.2.2.2.1 a ha, ?_, ?_⟩, ⟨B2.2.2.2.1, fun a ha => ?_, B2.2.2.2.2.2.1, B2.2.2.2.2.2.2⟩, fun p hp => ?_, B2.2.2.1⟩, F1.tr F2⟩
  · rw [r, r]
    rcases E1 a ha with ⟨z1, z2⟩ | ⟨z1, z2⟩
    · exact fun _ => z2
    · rw [z1]
      exact fun q => absurd q (by decide)
  · rw [r, r, r]
    rcases E1 a ha with ⟨z1, z2⟩ | ⟨z1, z2⟩
    · rw [z1]
      exact fun q => absurd q (by decide)
    · exact fun _ => z2
  · rw [r, r]
    obtain ⟨bd, hbd, eb⟩ := vi_nI (B1.2.2.2.2.1 a ha)
    rcases E1 a ha with ⟨-, z2⟩ | ⟨-, z2⟩
    · exact ⟨0, bd, by omega, hbd, z2, eb⟩
    · exact ⟨bd, bd, by omega, hbd, z2.trans eb, eb⟩
  · obtain ⟨v, hv, e⟩ := (k1 p hp).2
    exact ⟨v, by omega, e⟩
/-- begun again: one more is counted -/
theorem sp_bga (B : BI g n k) (w : Int32) : tf_Sp (d + 3) 52 [.ref 270, .int w] g (fun _ g2 => GI g2 n k M ∧ (∀ e, e ≠ 271 → g2.1 e = g.1 e) ∧ g2.2 = g.2 ∧ ∀ ix, BX ix → ix ≠ 5 → g2.1 271 ix = g.1 271 ix) := by
  intro Q q
  obtain ⟨G, F⟩ := bgn_ok (M := M) (w := w) B
  refine en_X9_beginsAgain (by decide) (go_X9_beginsAgain_0 (by decide) (sx_bgn (d := d) B.1 w _ (go_X9_beginsAgain_5 (by decide) (q _ _ ?_))))
  generalize bgn g n k w = g1 at *
  refine ⟨?_, fun e he => (w1_ne he).trans (F.1 e he), F.2.1, fun ix h1 h2 => (w1_at h2).trans (F.2.2 ix h1)⟩
  obtain ⟨R, C, S, FB1, ⟨A1, A2, A3, A4⟩, D, N⟩ := G
  have hn := R.1
  have e : ∀ i, i ≠ 5 → (w1 g1 271 5 (g1.1 271 5 + 1)).1 271 i = g1.1 271 i := fun i hi => w1_at hi
  show GI (w1 g1 271 5 (g1.1 271 5 + 1)) n k M
  generalize w1 g1 271 5 (g1.1 271 5 + 1) = g2 at *
  have er : ∀ a w, rm g2 a w = rm g1 a w := fun a w => e _ (by omega)
  refine ⟨⟨R.1, by rw [e 0 (by omega)]; exact R.2.1, by rw [e 1 (by omega)]; exact R.2.2.1, fun a ha => by rw [er, er]; exact R.2.2.2 a ha⟩, C.hang (fun b _ => ⟨er b 0, er b 1⟩) (fun b _ hh => by unfold rf_hangs at hh ⊢; rw [er]; exact hh) (fun p _ hl => by rw [e _ (by omega)]; exact hl), by unfold RS; rw [e 6 (by omega)]; exact S, fun a ha => by rw [er, er, er]; exact FB1 a ha, ⟨fun a ha => by rw [er, er]; exact A1 a ha, fun a ha => by rw [er, er]; exact A2 a ha, fun a ha => by rw [er]; exact A3 a ha, fun p hp => by rw [e _ (by omega)]; exact A4 p hp⟩, fun p hp => by rw [e (65 + p) (by omega), e (58 + p) (by omega)]; exact D p hp, by unfold GN; rw [e 7 (by omega)]; exact N⟩
end R82
