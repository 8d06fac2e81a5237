/-! ===== what the class tells, on ===== -/
section PQ2
variable {h : LH} {M d : Nat}
/-- from cell 244 on nothing changed but the row of what gets through -/
def Fq (h g : LH) : Prop := (∀ e, 244 ≤ e → e ≠ 265 → g.1 e = h.1 e) ∧ g.2 = h.2
theorem Fr.q {g : LH} (F : Fr h g) : Fq h g := ⟨fun e he _ => F.1 e he, F.2⟩
theorem Fq.rf : Fq h h := ⟨fun _ _ _ => rfl, rfl⟩
theorem Fq.tr {g k : LH} (a : Fq h g) (b : Fq g k) : Fq h k := ⟨fun e he h2 => (b.1 e he h2).trans (a.1 e he h2), b.2.trans a.2⟩
def jmax (x y : Int32) : Int32 := if x < y then y else x
def jmin (x y : Int32) : Int32 := if y < x then y else x
def sp_a (g : LH) (t f : Nat) (v : Int32) : LH := w1 g 265 f (jmax (g.1 265 f) (jmin (g.1 265 t) v))
def sp_1 (g : LH) (b a : Nat) : LH := if g.1 (b + 7) a = 3 then g else
  let t := (g.1 (b + 2) a).toNatClampNeg
  let f := (g.1 (b + 3) a).toNatClampNeg
  let g1 := sp_a g t f (g.1 (b + 4) a - g.1 (b + 6) a)
  sp_a g1 f t (g1.1 (b + 6) a)
def sp_L (b : Nat) : Nat → Nat → LH → LH
  | 0, _, g => g
  | f + 1, a, g => sp_L b f (a + 1) (sp_1 g b a)
theorem sp_1_lo {b a : Nat} {g : LH} : (∀ e, e ≠ 265 → (sp_1 g b a).1 e = g.1 e) ∧ (sp_1 g b a).2 = g.2 := by
  unfold sp_1
  split
  · exact ⟨fun _ _ => rfl, rfl⟩
  · exact ⟨fun e he => by unfold sp_a; rw [w1_ne he, w1_ne he], rfl⟩
theorem sp_L_lo {b : Nat} : ∀ (f a : Nat) (g : LH), (∀ e, e ≠ 265 → (sp_L b f a g).1 e = g.1 e) ∧ (sp_L b f a g).2 = g.2
  | 0, _, _ => ⟨fun _ _ => rfl, rfl⟩
  | f + 1, a, g => by
    have k1 := sp_L_lo (b := b) f (a + 1) (sp_1 g b a)
    have k2 := sp_1_lo (b := b) (a := a) (g := g)
    exact ⟨fun e he => by rw [sp_L, k1.1 e he, k2.1 e he], by rw [sp_L, k1.2, k2.2]⟩
theorem NO.n265 {b n k : Nat} {g : LH} (H : NO h b n k) (L : ∀ e, e ≠ 265 → g.1 e = h.1 e) : NO g b n k := by
  have hb := nt_b225 H.1
  exact H.keep (L b (by omega)) (fun a _ => by rw [L (b + 2) (by omega)]) (fun a _ => by rw [L (b + 3) (by omega)]) (L (b + 8) (by omega)) (L (b + 9) (by omega))
theorem sx_spL {b n k : Nat} {Q : tf_Q} : ∀ (f a : Nat) (g : LH) (x3 x4 : Value), NO g b n k → a + f = k → Q tf_z (sp_L b f a g) → lx_X1_spread 298 (tf_Cd 298 d) Q 2 [.ref b, .ref 265, .int (nI a), x3, x4] [] g
  | 0, a, g, x3, x4, H, ha, q => by
    have hk := H.arcs
    refine go_X1_spread_2 (by decide) H.1 (by decide +kernel) (nx1 := 7) (by decide +kernel) (by decide) ⟨fun _ => go_X1_spread_93 (by decide) H.1 (by decide +kernel) (nx1 := 7) (by decide +kernel) (by decide) q, fun z => absurd ?_ z⟩
    rw [hk.1]
    exact nI_le (by omega) (by omega)
  | f + 1, a, g, x3, x4, H, ha, q => by
    have hk := H.arcs
    have hb := nt_b225 H.1
    have K8 : tf_K 265 = 8 := by decide +kernel
    have N8 : tf_N 265 = 7 := by decide +kernel
    have v21 : vp_in (nI a) 21 := vi_of (by omega) (by omega)
    have v14 : vp_in (nI a) 14 := vi_of (by omega) (by omega)
    have hcl : (nI a).toNatClampNeg = a := nI_clamp (by omega)
    have ht := H.tl v14
    rw [hcl] at ht
    have HN : NO (sp_1 g b a) b n k := H.n265 sp_1_lo.1
    rw [sp_L] at q
    have e87 : ∀ (x3 x4 : Value), lx_X1_spread 298 (tf_Cd 298 d) Q 87 [.ref b, .ref 265, .int (nI a), x3, x4] [] (sp_1 g b a) := fun x3 x4 => by
      refine go_X1_spread_87 (by decide) H.1 K8 (nx1 := 7) N8 (by decide) ?_
      rw [nI_1]
      exact sx_spL f (a + 1) _ x3 x4 HN (by omega) q
    refine go_X1_spread_2 (by decide) H.1 K8 (nx1 := 7) N8 (by decide) ⟨fun z => ?_, fun _ => ⟨v21, ?_⟩⟩
    · rw [hk.1] at z
      exact absurd z (nI_ge (by omega) (by omega))
    · rw [hcl]
      unfold sp_1 at e87
      refine ⟨fun c => by have := e87 x3 x4; rw [if_pos c] at this; exact this, fun c => ⟨v21, v21, ht.2, ht.1, v21, v21, ?_⟩⟩
      rw [if_neg c] at e87
      rw [tf_Cd_ext (by decide)]
      refine ⟨rfl, go_X1_spread_61 (by decide) H.1 K8 (nx1 := 7) N8 (by decide) K8 (ny0 := 7) N8 (by decide) ?_⟩
      rw [tf_Cd_ext (by decide)]
      refine ⟨rfl, go_X1_spread_64 (by decide) H.1 K8 (nx1 := 7) N8 (by decide) K8 (ny0 := 7) N8 (by decide) ⟨ht.2, ht.1, ht.2, v21, ?_⟩⟩
      rw [tf_Cd_ext (by decide)]
      refine ⟨rfl, go_X1_spread_83 (by decide) H.1 K8 (nx1 := 7) N8 (by decide) K8 (ny0 := 7) N8 (by decide) ?_⟩
      rw [tf_Cd_ext (by decide)]
      refine ⟨rfl, go_X1_spread_86 (by decide) H.1 K8 (nx1 := 7) N8 (by decide) K8 (ny0 := 7) N8 (by decide) ⟨ht.1, ?_⟩⟩
      rw [hcl]
      exact e87 _ _
theorem sx_spread {b n k : Nat} {g : LH} (H : NO g b n k) : tf_Rt (d + 1) 149 [.ref b, .ref 265] g tf_z (sp_L b k 0 g) := fun _ q =>
  en_X1_spread (by decide) H.1 (by decide +kernel) (nx1 := 7) (by decide +kernel) (by decide) (go_X1_spread_0 (by decide) H.1 (by decide +kernel) (nx1 := 7) (by decide +kernel) (by decide) (sx_spL k 0 g _ _ H (by omega) q))
/-- rounds of spreading -/
def wi_r (k : Nat) : Nat → LH → LH
  | 0, g => g
  | f + 1, g => wi_r k f (sp_L 0 k 0 g)
def wi_z : Nat → Nat → LH → LH
  | 0, _, g => g
  | f + 1, p, g => wi_z f (p + 1) (w1 g 265 p 0)
theorem wi_r_lo {k : Nat} : ∀ (f : Nat) (g : LH), (∀ e, e ≠ 265 → (wi_r k f g).1 e = g.1 e) ∧ (wi_r k f g).2 = g.2
  | 0, _ => ⟨fun _ _ => rfl, rfl⟩
  | f + 1, g => by
    have k1 := wi_r_lo (k := k) f (sp_L 0 k 0 g)
    have k2 := sp_L_lo (b := 0) k 0 g
    exact ⟨fun e he => by rw [wi_r, k1.1 e he, k2.1 e he], by rw [wi_r, k1.2, k2.2]⟩
theorem wi_z_lo : ∀ (f p : Nat) (g : LH), (∀ e, e ≠ 265 → (wi_z f p g).1 e = g.1 e) ∧ (wi_z f p g).2 = g.2
  | 0, _, _ => ⟨fun _ _ => rfl, rfl⟩
  | f + 1, p, g => by
    have k1 := wi_z_lo f (p + 1) (w1 g 265 p 0)
    exact ⟨fun e he => by rw [wi_z, k1.1 e he, w1_ne he], by rw [wi_z, k1.2]⟩
theorem pq_wiR {n k : Nat} {x y : Int32} (hy : vp_in y 7) {Q : tf_Q} : ∀ (f i : Nat) (g : LH), NO g 0 n k → (i + f = n ∨ (f = 0 ∧ n ≤ i)) → i ≤ 100 → Q (.int ((wi_r k f g).1 265 y.toNatClampNeg)) (wi_r k f g) → lx_X8_wide 298 (tf_Cd 298 10) Q 51 [.ref 240, .int x, .int y, .int (nI i)] [] g
  | 0, i, g, H, hi, hi2, q => by
    have hn := H.pts
    refine go_X8_wide_51 (by decide) ⟨fun _ => go_X8_wide_79 (by decide) ⟨hy, q⟩, fun z => absurd ?_ z⟩
    rw [hn.1]
    exact nI_le (by omega) (by omega)
  | f + 1, i, g, H, hi, hi2, q => by
    have hn := H.pts
    have HN : NO (sp_L 0 k 0 g) 0 n k := H.n265 (sp_L_lo k 0 g).1
    refine go_X8_wide_51 (by decide) ⟨fun z => ?_, fun _ => sx_spread (d := 9) H _ (go_X8_wide_73 (by decide) ?_)⟩
    · rw [hn.1] at z
      exact absurd z (nI_ge (by omega) (by omega))
    · rw [nI_1]
      exact pq_wiR hy f (i + 1) _ HN (by omega) (by omega) q
theorem pq_wiZ {n k : Nat} {x y : Int32} {Q : tf_Q} : ∀ (f p : Nat) (g : LH), NO g 0 n k → p + f = n → (∀ x3 : Int32, lx_X8_wide 298 (tf_Cd 298 10) Q 40 [.ref 240, .int x, .int y, .int x3] [] (wi_z f p g)) → lx_X8_wide 298 (tf_Cd 298 10) Q 16 [.ref 240, .int x, .int y, .int (nI p)] [] g
  | 0, p, g, H, hp, q => by
    have hn := H.pts
    refine go_X8_wide_16 (by decide) ⟨fun _ => q _, fun z => absurd ?_ z⟩
    rw [hn.1]
    exact nI_le (by omega) (by omega)
  | f + 1, p, g, H, hp, q => by
    have hn := H.pts
    have hcl : (nI p).toNatClampNeg = p := nI_clamp (by omega)
    refine go_X8_wide_16 (by decide) ⟨fun z => ?_, fun _ => ⟨vi_of (by omega) (by omega), ?_⟩⟩
    · rw [hn.1] at z
      exact absurd z (nI_ge (by omega) (by omega))
    · rw [hcl, nI_1]
      exact pq_wiZ f (p + 1) (w1 g 265 p 0) (H.hi (by decide)) (by omega) q
def wi_g (h : LH) (n k : Nat) (x : Int32) : LH := wi_r k (n - 1) (w1 (wi_z n 0 h) 265 x.toNatClampNeg 1000000)
theorem wi_g_lo {n k : Nat} {x : Int32} : (∀ e, e ≠ 265 → (wi_g h n k x).1 e = h.1 e) ∧ (wi_g h n k x).2 = h.2 := by
  have k1 := wi_r_lo (k := k) (n - 1) (w1 (wi_z n 0 h) 265 x.toNatClampNeg 1000000)
  have k2 := wi_z_lo n 0 h
  exact ⟨fun e he => by unfold wi_g; rw [k1.1 e he, w1_ne he, k2.1 e he], by unfold wi_g; rw [k1.2]; exact k2.2⟩
theorem XA.n265 {g : LH} (X : XA h M) (L : ∀ e, e ≠ 265 → g.1 e = h.1 e) : XA g M := by
  obtain ⟨c, R⟩ := X.2.1
  exact X.look (fun e he => L e (by omega)) (L 240 (by decide)) (R.same (L 241 (by decide)) (L 242 (by decide)))
theorem pq_wide (X : XA h M) (x y : Int32) : ∃ (v : Int32) (g : LH), tf_Rt 11 201 [.ref 240, .int x, .int y] h (.int v) g ∧ XA g M ∧ Fq h g := by
  obtain ⟨n, k, m, hm, H⟩ := X.net
  have s1 := sx_two (h := h) (d := 8) H.1.1 x y
  by_cases e : nt_two h 0 x y = true
  · obtain ⟨hx, hy⟩ := two_in H.1 e
    have L := wi_g_lo (h := h) (n := n) (k := k) (x := x)
    refine ⟨(wi_g h n k x).1 265 y.toNatClampNeg, wi_g h n k x, fun Q q => ?_, X.n265 L.1, fun e he h2 => L.1 e h2, L.2⟩
    unfold wi_g at q
    have HZ : NO (w1 (wi_z n 0 h) 265 x.toNatClampNeg 1000000) 0 n k := H.1.n265 (fun e he => by rw [w1_ne he, (wi_z_lo n 0 h).1 e he])
    have hn := H.1.pts.2
    refine en_X8_wide (by decide) (go_X8_wide_0 (by decide) (s1 _ (go_X8_wide_9 (by decide) ⟨fun z => ?_, fun _ => go_X8_wide_14 (by decide) (pq_wiZ n 0 h H.1 (by omega) (fun x3 => go_X8_wide_40 (by decide) ⟨hx, pq_wiR hy (n - 1) 1 _ HZ (by omega) (by omega) q⟩))⟩)))
    rw [bI_0, e] at z
    exact absurd z (by decide)
  · exact ⟨_, _, fun Q q => en_X8_wide (by decide) (go_X8_wide_0 (by decide) (s1 _ (go_X8_wide_9 (by decide) ⟨fun _ => q, fun z => absurd (by rw [bI_0]; exact Bool.eq_false_iff.mpr e) z⟩))), X, Fq.rf⟩
/-- is there an image k -/
def qv_img (h : LH) (x : Int32) : Bool := !decide (x < 0) && (!decide ((3 : Int32) ≤ x) && !decide (h.1 269 x.toNatClampNeg = 0))
theorem vi_3 {x : Int32} (c1 : ¬ x < 0) (c2 : ¬ (3 : Int32) ≤ x) : vp_in x 3 := by
  obtain ⟨j, hj, e⟩ := nI_of c1
  subst e
  have : j < 3 := by
    rcases Nat.lt_or_ge j 3 with z | z
    · exact z
    · exact absurd (nI_le (a := 3) z hj) c2
  exact vi_of this (by omega)
theorem sx_hasImg (x : Int32) : tf_Rt (d + 1) 213 [.ref 240, .int x] h (.int (bI (qv_img h x))) h := by
  intro Q q
  refine en_X8_hasImage (by decide) (go_X8_hasImage_0 (by decide) ⟨fun c => go_X8_hasImage_22 (by decide) (go_X8_hasImage_23 (by decide) ⟨rfl, ?_⟩), fun c => ⟨fun c2 => go_X8_hasImage_22 (by decide) (go_X8_hasImage_23 (by decide) ⟨rfl, ?_⟩), fun c2 => ⟨vi_3 c c2, fun c3 => go_X8_hasImage_22 (by decide) (go_X8_hasImage_23 (by decide) ⟨rfl, ?_⟩), fun c3 => go_X8_hasImage_23 (by decide) ⟨rfl, ?_⟩⟩⟩⟩)
  · simpa [qv_img, c, bI] using q
  · simpa [qv_img, c, c2, bI] using q
  · simpa [qv_img, c, c2, c3, bI] using q
  · simpa [qv_img, c, c2, c3, bI] using q
theorem img_in {x : Int32} (e : qv_img h x = true) : vp_in x 3 := by
  simp only [qv_img, Bool.and_eq_true, Bool.not_eq_true', decide_eq_false_iff_not] at e
  exact vi_3 e.1 e.2.1
def qv_apart (h : LH) (x : Int32) : Int32 := if qv_img h x = true then nt_apt h 0 (15 * (x.toNatClampNeg + 13)) 14 0 0 else -1
theorem pq_apart (x : Int32) : tf_Rt 11 203 [.ref 240, .int x] h (.int (qv_apart h x)) h := by
  intro Q q
  unfold qv_apart at q
  refine en_X8_apart (by decide) (go_X8_apart_0 (by decide) (sx_hasImg (d := 9) x _ (go_X8_apart_5 (by decide) ⟨fun c => go_X8_apart_24 (by decide) (go_X8_apart_25 (by decide) ?_), fun c => ?_⟩)))
  · rw [bI_0] at c
    rw [c] at q
    exact q
  · rw [bI_0, Bool.not_eq_false] at c
    have hx := img_in c
    obtain ⟨j, hj, e⟩ := vi_nI hx
    have hcl : x.toNatClampNeg = j := by rw [e]; exact nI_clamp (by omega)
    refine ⟨hx, ?_⟩
    rw [if_pos c] at q
    rw [hcl] at q ⊢
    rw [tf_R267 j hj]
    exact sx_apt (d := 9) (by decide +kernel) (tf_K15 (r := j + 13) (by omega)) _ (go_X8_apart_21 (by decide) (go_X8_apart_25 (by decide) q))
def qv_span (h : LH) (n k : Nat) (x y : Int32) : Int32 := if nt_hasArc h 0 x = true then (if nt_cnt h 0 k 0 0 ≤ 0 then (if y = 0 then nt_low h 0 n x k 0 (-99) else nt_high h 0 n x k 0 99) else -1000) else -1000
theorem pq_span {n k : Nat} (H : NO h 0 n k) (x y : Int32) : tf_Rt 11 204 [.ref 240, .int x, .int y] h (.int (qv_span h n k x y)) h := by
  intro Q q
  unfold qv_span at q
  refine en_X8_span (by decide) (go_X8_span_0 (by decide) (sx_hasArc (d := 9) H.1 x _ (go_X8_span_8 (by decide) ⟨fun c => go_X8_span_21 (by decide) ?_, fun c => ?_⟩)))
  · rw [bI_0] at c
    rw [c] at q
    exact q
  · rw [bI_0, Bool.not_eq_false] at c
    rw [if_pos c] at q
    have hx : vp_in x 14 := vi_mono (ha_vi H.arcs.1 H.arcs.2 c) H.arcs.2
    refine sx_cntN (d := 7) H _ (go_X8_span_18 (by decide) ⟨fun c2 => go_X8_span_25 (by decide) ⟨fun c3 => go_X8_span_40 (by decide) (sx_low (d := 7) H hx _ (go_X8_span_48 (by decide) ?_)), fun c3 => sx_high (d := 7) H hx _ (go_X8_span_37 (by decide) (go_X8_span_48 (by decide) ?_))⟩, fun c2 => go_X8_span_21 (by decide) ?_⟩)
    · rw [if_pos c2, if_pos c3] at q
      exact q
    · rw [if_pos c2, if_neg c3] at q
      exact q
    · rw [if_neg c2] at q
      exact q
theorem pq_cut {n k : Nat} (H : NO h 0 n k) : tf_Rt 11 207 [.ref 240] h (.int (nt_ws h 0 n k (2 ^ n - 1) 1 0 0)) h := fun _ q => en_X8_cut (by decide) (go_X8_cut_0 (by decide) (sx_ws (d := 8) H _ (go_X8_cut_7 (by decide) q)))
theorem pq_lack {n k : Nat} (H : NO h 0 n k) : tf_Rt 11 206 [.ref 240] h (.int (2 * nt_short h 0 n k (nt_ws h 0 n k (2 ^ n - 1) 1 0 0))) h := fun _ q => en_X8_lack (by decide) (go_X8_lack_0 (by decide) (sx_ws (d := 8) H _ (go_X8_lack_12 (by decide) H.1 (sx_short (d := 9) H _ _ (go_X8_lack_15 (by decide) q)))))
end PQ2
