/-! ===== what each point gives is what it has: at a begin, after a pivot ===== -/
section VCC
variable {h g g1 T r : LH} {n k M d : Nat}
def CONS (g : LH) (n k : Nat) : Prop := ∀ p, p < n → g.1 271 (44 + p) = cq g k p
theorem cq_c {p : Nat} (e : ∀ a w, (w = 0 ∨ w = 1 ∨ w = 4) → rm g1 a w = rm g a w) (e1 : g1.1 271 (58 + p) = g.1 271 (58 + p)) (e2 : g1.1 271 (65 + p) = g.1 271 (65 + p)) : cq g1 k p = cq g k p := by
  have t1 : tlv g1 = tlv g := funext fun a => by unfold tlv; rw [e a 0 (Or.inl rfl)]
  have t2 : hdv g1 = hdv g := funext fun a => by unfold hdv; rw [e a 1 (Or.inr (Or.inl rfl))]
  have t3 : (fun a => rm g1 a 4) = (fun a => rm g a 4) := funext fun a => e a 4 (Or.inr (Or.inr rfl))
  unfold cq
  rw [t1, t2, t3, e1, e2]
theorem lf_dw (H : RM g n k) (A : ∀ a, a < k → rm g a 0 ≠ rm g a 1) {p : Nat} (hp : p < n) {s : Int32} : ∀ (f a : Nat), a + f = k → lf g p f a (s - dw (tlv g) (hdv g) (fun a => rm g a 4) a p) = s - dw (tlv g) (hdv g) (fun a => rm g a 4) (a + f) p
  | 0, a, _ => rfl
  | f + 1, a, ha => by
    have hn := H.1
    have ih := lf_dw H A hp (s := s) f (a + 1) (by omega)
    rw [lf, show a + (f + 1) = a + 1 + f by omega, ← ih]
    congr 1
    obtain ⟨u, v, hu, hv, eu, ev⟩ := H.ends (a := a) (by omega)
    have ne := A a (by omega)
    have d1 : dw (tlv g) (hdv g) (fun a => rm g a 4) (a + 1) p = dw (tlv g) (hdv g) (fun a => rm g a 4) a p + ((if tlv g a = p then rm g a 4 else 0) - (if hdv g a = p then rm g a 4 else 0)) := rfl
    have tu : tlv g a = u := by unfold tlv; rw [eu]; exact nI_clamp (by omega)
    have tv : hdv g a = v := by unfold hdv; rw [ev]; exact nI_clamp (by omega)
    rw [d1, tu, tv]
    unfold lf1
    rw [eu, ev]
    rw [eu, ev] at ne
    have q1 : (nI v = nI p) ↔ v = p := nI_eq (by omega) (by omega)
    have q2 : (nI u = nI p) ↔ u = p := nI_eq (by omega) (by omega)
    have q3 : ¬ u = v := fun z => ne (by rw [z])
    by_cases z1 : v = p
    · rw [if_pos (q1.mpr z1), if_pos z1, if_neg (by omega)]
      grind
    · rw [if_neg (fun z => z1 (q1.mp z)), if_neg z1]
      by_cases z2 : u = p
      · rw [if_pos (q2.mpr z2), if_pos z2]
        grind
      · rw [if_neg (fun z => z2 (q2.mp z)), if_neg z2]
        grind
theorem bp_cons (hk : k ≤ 14) (A : ∀ a, a < k → rm g a 0 ≠ rm g a 1) : ∀ (f p : Nat) (h : LH), p + f = n → RM h n k → (∀ a w, rm h a w = rm g a w) → (∀ q, q < p → h.1 271 (44 + q) = cq h k q) → ∀ q, q < n → (bp k f p h).1 271 (44 + q) = cq (bp k f p h) k q
  | 0, p, h, hp, H, e, ih => fun q hq => ih q (by omega)
  | f + 1, p, h, hp, H, e, ih => by
    have hn := H.1
    rw [bp]
    obtain ⟨-, -, s⟩ := bp1_lo (g := h) (k := k) (p := p)
    have H1 := H.bp1 (p := p) (by omega)
    have r1 : ∀ a w, rm (bp1 h k p) a w = rm h a w := fun a w => by unfold rm; exact s _ (by omega) (by omega) (by omega)
    have e58 : (bp1 h k p).1 271 (58 + p) = (if lf h p k 0 (h.1 271 (44 + p)) < 0 then -1 else 1) := by unfold bp1; rw [w1_at (by omega), w1_eq]
    have e65 : (bp1 h k p).1 271 (65 + p) = (if lf h p k 0 (h.1 271 (44 + p)) < 0 then -lf h p k 0 (h.1 271 (44 + p)) else lf h p k 0 (h.1 271 (44 + p))) := by unfold bp1; rw [w1_eq]
    generalize bp1 h k p = h2 at *
    refine bp_cons hk A f (p + 1) h2 (by omega) H1 (fun a w => (r1 a w).trans (e a w)) (fun q hq => ?_)
    by_cases c : q = p
    · subst c
      have t1 : tlv h2 = tlv h := funext fun a => by unfold tlv; rw [r1]
      have t2 : hdv h2 = hdv h := funext fun a => by unfold hdv; rw [r1]
      have t3 : (fun a => rm h2 a 4) = (fun a => rm h a 4) := funext fun a => r1 a 4
      have L := lf_dw H (fun a ha => by rw [e, e]; exact A a ha) (p := q) (by omega) (s := h.1 271 (44 + q)) k 0 (by omega)
      have z0 : dw (tlv h) (hdv h) (fun a => rm h a 4) 0 q = 0 := rfl
      rw [z0, Int32.sub_zero, Nat.zero_add] at L
      unfold cq
      rw [t1, t2, t3, e58, e65, s (44 + q) (by omega) (by omega) (by omega), L]
      split
      · grind
      · grind
    · have hq2 : q < p := by omega
      rw [s (44 + q) (by omega) (by omega) (by omega), ih q hq2]
      exact (cq_c (fun a w _ => r1 a w) (s _ (by omega) (by omega) (by omega)) (s _ (by omega) (by omega) (by omega))).symm
theorem cons_beg (B : BI g n k) (w : Int32) : CONS (bgn g n k w) n k := by
  have hn := B.1.1
  have F := ba_fb (w := w) k 0 g (by omega)
  have B2 := B.fb F
  exact bp_cons hn.2.2 B2.2.2.2.1 n 0 (ba w k 0 g) (by omega) B2.1 (fun _ _ => rfl) (fun q hq => absurd hq (by omega))
theorem cons_piv (L : LT T n k) (GT : GI T n k M) (K : CONS T n k) {a x y mm : Nat} (ha : a < k) (hx : x < n) (hy : y < n) (ex : (if rm T a 5 = 0 then rm T a 0 else rm T a 1) = nI x) (ey : (if rm T a 5 = 0 then rm T a 1 else rm T a 0) = nI y) (hm : mm < lc_n T x y) : CONS (tn5 T a x y mm) n k := by
  intro p hp
  have n7 := L.1.1.2.1
  have k14 := L.1.1.2.2
  have W : ∀ p, p < n → T.1 271 (58 + p) = 1 ∨ T.1 271 (58 + p) = -1 := fun p hp => by
    obtain ⟨v, -, -, w⟩ := GT.2.2.2.2.2.1 p hp
    exact w
  have c3 := cq_tn3 L GT.2.2.2.2.1.1 W ha hx hy ex ey hp
  have ed := lc_ed L ha (Nat.le_of_lt hx) (Nat.le_of_lt hy) hm
  have t4 := (tn4_lo (g := tn3 T a x y) ed n7 k14 ha).2.2.1
  have fp := (ip_fp (g := tn4 (tn3 T a x y) a ((lc T a x y).1 285 mm)) (x := nI a) (y := (lc T a x y).1 285 mm) (z := rlr (lc T a x y) (lc_n T x y) 0 1000000)).2.2
  have lcs := lc_271 L ha (Nat.le_of_lt hx) (Nat.le_of_lt hy) (a := a) (x := x) (y := y)
  have s44 : (tn3 T a x y).1 271 (44 + p) = T.1 271 (44 + p) := by
    unfold tn3
    rw [fls_out _ _ _ (fun m _ hm2 => ?_), lcs]
    rcases lc_ed L ha (Nat.le_of_lt hx) (Nat.le_of_lt hy) (m := m) (by omega) with ⟨b, hb, e⟩ | ⟨q, hq, e⟩
    · rw [e, fx_a (by omega)]
      omega
    · rw [e, fx_p (by omega)]
      omega
  have same : ∀ ix, (44 ≤ ix ∧ ix < 51) ∨ (58 ≤ ix ∧ ix < 72) ∨ (∃ b w, ix = 72 + 7 * b + w ∧ (w = 0 ∨ w = 1 ∨ w = 4)) → (tn5 T a x y mm).1 271 ix = (tn3 T a x y).1 271 ix := fun ix hx => by
    unfold tn5
    rw [fp ix (Or.inr (by rcases hx with z | z | ⟨b, w, z, -⟩ <;> omega)), t4 ix (by rcases hx with z | z | ⟨b, w, z, -⟩ <;> omega) (fun b hb => by rcases hx with z | z | ⟨b2, w, z, zw⟩ <;> omega)]
  rw [same (44 + p) (by omega), s44, cq_c (g := tn3 T a x y) (fun b w hw => same _ (Or.inr (Or.inr ⟨b, w, rfl, hw⟩))) (same _ (by omega)) (same _ (by omega)), c3, K p hp]
end VCC
