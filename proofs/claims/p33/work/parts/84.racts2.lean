/-! ===== the reference: shift, block, widen, charge ===== -/
section R84
variable {h g : LH} {n k M d : Nat}
def rf_cs (h : LH) (x y m : Int32) : Bool := rf_two h x y && (rf_in m 1 99 && (!decide ((99 : Int32) < h.1 271 (44 + x : Int32).toNatClampNeg + m) && !decide (h.1 271 (44 + y : Int32).toNatClampNeg - m < -99)))
theorem rf_two_t (H : RM h n k) {x y : Int32} (c : rf_two h x y = true) : ∃ p q, p < n ∧ q < n ∧ p ≠ q ∧ x = nI p ∧ y = nI q := by
  have hn := H.1
  have pt : ∀ z, rf_isPt h z = true → ∃ p, p < n ∧ z = nI p := by
    intro z hz
    unfold rf_isPt at hz
    have e : h.1 271 0 - 1 = nI (n - 1) := by
      rw [H.2.1, show n = n - 1 + 1 by omega]
      exact nI_pred _
    rw [e] at hz
    obtain ⟨j, -, h2, h3⟩ := rf_in_t (l := 0) (u := n - 1) (by omega) hz (by omega)
    exact ⟨j, by omega, h3⟩
  unfold rf_two at c
  simp only [Bool.and_eq_true, Bool.not_eq_true', decide_eq_false_iff_not] at c
  obtain ⟨p, hp, ep⟩ := pt x c.1
  obtain ⟨q, hq, eq⟩ := pt y c.2.1
  exact ⟨p, q, hp, hq, fun z => c.2.2 (by rw [ep, eq, z]), ep, eq⟩
theorem rf_arc_t (H : RM h n k) {x : Int32} (c : rf_isArc h x = true) : ∃ a, a < k ∧ x = nI a := by
  have hn := H.1
  unfold rf_isArc at c
  rcases Nat.eq_zero_or_pos k with z | z
  · rw [H.2.2.1, z] at c
    unfold rf_in at c
    simp only [Bool.and_eq_true, Bool.not_eq_true', decide_eq_false_iff_not] at c
    exfalso
    have h1 := Int32.not_lt.mp c.1
    have h2 := Int32.not_lt.mp c.2
    exact absurd (Int32.le_trans h1 h2) (by decide)
  · have e : h.1 271 1 - 1 = nI (k - 1) := by
      rw [H.2.2.1, show k = k - 1 + 1 by omega]
      exact nI_pred _
    rw [e] at c
    obtain ⟨j, -, h2, h3⟩ := rf_in_t (l := 0) (u := k - 1) (by omega) c (by omega)
    exact ⟨j, by omega, h3⟩
theorem i44 {p : Nat} : (44 : Int32) + nI p = nI (44 + p) := nI_add 44 p
theorem sx_rcs (H : RM h n k) (x y m : Int32) : tf_Rt (d + 4) 57 [.ref 270, .int x, .int y, .int m] h (.int (bI (rf_cs h x y m))) h := by
  intro Q q
  have hn := H.1
  have e55 : rf_cs h x y m = false → lx_X9_canShift 298 (tf_Cd 298 (d + 3)) Q 55 [.ref 270, .int x, .int y, .int m] [] h := fun e => go_X9_canShift_55 (by decide) (go_X9_canShift_56 (by decide) ⟨rfl, by rw [e] at q; exact q⟩)
  have e56 : rf_cs h x y m = true → lx_X9_canShift 298 (tf_Cd 298 (d + 3)) Q 56 [.ref 270, .int x, .int y, .int m] [.int 1] h := fun e => go_X9_canShift_56 (by decide) ⟨rfl, by rw [e] at q; exact q⟩
  refine en_X9_canShift (by decide) (go_X9_canShift_0 (by decide) (sx_rtwo (d := d) x y _ (go_X9_canShift_6 (by decide) ⟨fun c => e55 ?_, fun c => sx_in (d := d + 2) _ _ _ _ (go_X9_canShift_16 (by decide) ⟨fun c2 => e55 ?_, fun c2 => ?_⟩)⟩)))
  · rw [bI_0] at c
    simp [rf_cs, c]
  · rw [bI_0] at c2
    simp [rf_cs, c2]
  · rw [bI_0, Bool.not_eq_false] at c c2
    obtain ⟨p, o, hp, ho, -, ep, eo⟩ := rf_two_t H c
    have v1 : vp_in (44 + x) 865 := by rw [ep, i44]; exact vi_of (by omega) (by omega)
    have v2 : vp_in (44 + y) 865 := by rw [eo, i44]; exact vi_of (by omega) (by omega)
    refine ⟨v1, fun c3 => e55 ?_, fun c3 => ⟨v2, fun c4 => e55 ?_, fun c4 => e56 ?_⟩⟩
    · simp only [rf_cs, c, c2, decide_eq_true c3]
      rfl
    · simp only [rf_cs, c, c2, decide_eq_false c3, decide_eq_true c4]
      rfl
    · simp only [rf_cs, c, c2, decide_eq_false c3, decide_eq_false c4]
      rfl
/-- supplies after a shift are in their range -/
theorem sh_hi {x : Int32} {s m : Nat} (hs : s ≤ 198) (hm : m ≤ 99) (e : x + 99 = nI s) (c : ¬ (99 : Int32) < x + nI m) : s + m ≤ 198 ∧ x + nI m + 99 = nI (s + m) := by
  have ex : x = nI s - nI 99 := by rw [← e]; exact (Int32.add_sub_cancel x 99).symm
  have e2 : x + nI m + 99 = nI (s + m) := by rw [Int32.add_assoc, Int32.add_comm (nI m), ← Int32.add_assoc, e, nI_add]
  have e3 : x + nI m = nI (s + m) - nI 99 := by rw [← e2]; exact (Int32.add_sub_cancel _ 99).symm
  refine ⟨?_, e2⟩
  rcases Nat.lt_or_ge 198 (s + m) with z | z
  · exfalso
    apply c
    rw [Int32.lt_iff_toInt_lt, e3, pk_sub_toInt (by omega) (by omega)]
    have : (99 : Int32).toInt = 99 := rfl
    omega
  · exact z
theorem sh_lo {x : Int32} {s m : Nat} (hs : s ≤ 198) (hm : m ≤ 99) (e : x + 99 = nI s) (c : ¬ x - nI m < -99) : m ≤ s ∧ x - nI m + 99 = nI (s - m) := by
  have ex : x = nI s - nI 99 := by rw [← e]; exact (Int32.add_sub_cancel x 99).symm
  have e2 : x - nI m + 99 = nI s - nI m := by rw [← e, Int32.sub_eq_add_neg, Int32.sub_eq_add_neg, Int32.add_assoc, Int32.add_assoc, Int32.add_comm (-nI m)]
  have e3 : x - nI m = nI s - nI (m + 99) := by
    rw [ex, ← nI_add, Int32.sub_eq_add_neg, Int32.sub_eq_add_neg, Int32.sub_eq_add_neg, Int32.neg_add, Int32.add_assoc, Int32.add_comm (-nI 99), ← Int32.sub_eq_add_neg (-nI m)]
  have hle : m ≤ s := by
    rcases Nat.lt_or_ge s m with z | z
    · exfalso
      apply c
      rw [Int32.lt_iff_toInt_lt, e3, pk_sub_toInt (by omega) (by omega)]
      have : (-99 : Int32).toInt = -99 := rfl
      omega
    · exact z
  exact ⟨hle, by rw [e2, nI_sub hle]⟩
theorem BI.sup {p : Nat} {v : Int32} {s : Nat} (B : BI h n k) (hp : p < 7) (hs : s ≤ 198) (e : v + 99 = nI s) : BI (w1 h 271 (44 + p) v) n k := by
  obtain ⟨R, S, N, A1, A2, A3, A4⟩ := B
  have hn := R.1
  have ev : (w1 h 271 (44 + p) v).1 271 (44 + p) = v := w1_eq
  have en : ∀ i, i ≠ 44 + p → (w1 h 271 (44 + p) v).1 271 i = h.1 271 i := fun i hi => w1_at hi
  generalize w1 h 271 (44 + p) v = g2 at *
  have er : ∀ a w, rm g2 a w = rm h a w := fun a w => en _ (by omega)
  refine ⟨⟨R.1, by rw [en 0 (by omega)]; exact R.2.1, by rw [en 1 (by omega)]; exact R.2.2.1, fun a ha => by rw [er, er]; exact R.2.2.2 a ha⟩, by unfold RS; rw [en 6 (by omega)]; exact S, by unfold GN; rw [en 7 (by omega)]; exact N, fun a ha => by rw [er, er]; exact A1 a ha, fun a ha => by rw [er]; exact A2 a ha, fun a ha => by rw [er]; exact A3 a ha, fun q hq => ?_⟩
  by_cases z : q = p
  · rw [z, ev]
    exact ⟨s, hs, e⟩
  · rw [en _ (by omega)]
    exact A4 q hq
theorem sp_shifts (G : GI h n k M) {x y m : Int32} (c : rf_cs h x y m = true) : tf_Sp (d + 4) 58 [.ref 270, .int x, .int y, .int m] h (fun _ g => GI g n k M ∧ (∀ e, e ≠ 271 → g.1 e = h.1 e) ∧ ∀ ix, 170 ≤ ix → g.1 271 ix = h.1 271 ix) := by
  intro Q q
  have hn := G.1.1
  unfold rf_cs at c
  simp only [Bool.and_eq_true, Bool.not_eq_true', decide_eq_false_iff_not] at c
  obtain ⟨c1, c2, c3, c4⟩ := c
  obtain ⟨p, o, hp, ho, hpo, ep, eo⟩ := rf_two_t G.1 c1
  obtain ⟨mm, hm1, hm2, em⟩ := rf_in_t (l := 1) (u := 99) (by omega) c2 (by omega)
  subst ep eo em
  rw [i44, nI_clamp (by omega)] at c3 c4
  have B := G.bi
  obtain ⟨s1, hs1, es1⟩ := B.2.2.2.2.2.2 p hp
  obtain ⟨s2, hs2, es2⟩ := B.2.2.2.2.2.2 o ho
  obtain ⟨h3, e3⟩ := sh_hi hs1 hm2 es1 c3
  obtain ⟨h4, e4⟩ := sh_lo hs2 hm2 es2 c4
  have B1 := B.sup (p := p) (by omega) h3 e3
  have r2 : (w1 h 271 (44 + p) (h.1 271 (44 + p) + nI mm)).1 271 (44 + o) = h.1 271 (44 + o) := w1_at (by omega)
  have B2 := B1.sup (p := o) (v := h.1 271 (44 + o) - nI mm) (by omega) (show s2 - mm ≤ 198 by omega) e4
  have v1 : vp_in (nI (44 + p)) 865 := vi_of (by omega) (by omega)
  have v2 : vp_in (nI (44 + o)) 865 := vi_of (by omega) (by omega)
  refine en_X9_shifts (by decide) (go_X9_shifts_0 (by decide) ?_)
  rw [i44, i44, nI_clamp (by omega), nI_clamp (by omega)]
  refine ⟨v1, v1, v2, v2, ?_⟩
  show tf_Cd 298 (d + 3) _ _ (w1 (w1 h 271 (44 + p) (h.1 271 (44 + p) + nI mm)) 271 (44 + o) ((w1 h 271 (44 + p) (h.1 271 (44 + p) + nI mm)).1 271 (44 + o) - nI mm)) _
  rw [r2]
  refine sp_bga (d := d) (M := M) B2 1 _ (fun v g p4 => go_X9_shifts_31 (by decide) (q _ _ ⟨p4.1, fun e he => ?_, fun ix hx => ?_⟩))
  · rw [p4.2.1 e he, w1_ne he, w1_ne he]
  · rw [p4.2.2.2 ix (Or.inr (Or.inl hx)) (by omega), w1_at (by omega), w1_at (by omega)]
theorem OF.hi (F1 : ∀ e, e ≠ 271 → g.1 e = h.1 e) (F2 : ∀ ix, 170 ≤ ix → g.1 271 ix = h.1 271 ix) : OF h g := ⟨fun e he => F1 e (by omega), fun ix h1 _ => F2 ix h1, F1 272 (by decide), F1 273 (by decide), F1 275 (by decide)⟩
theorem RU.hi (U : RU h M) (F1 : ∀ e, e ≠ 271 → g.1 e = h.1 e) : RU g M := U.same (by rw [F1 270 (by decide)]) (F1 274 (by decide))
theorem rf_cs_same {x y m : Int32} (e : g.1 271 = h.1 271) : rf_cs g x y m = rf_cs h x y m := by
  unfold rf_cs rf_two rf_isPt
  rw [e]
theorem rq_shift (R : RI h M) (x y m : Int32) : RQ 59 [.int x, .int y, .int m] h M := by
  intro Q q
  have R1 := R.w0 (i := 0) (v := 0) (by decide)
  have F0 := OF.w0 (h := h) (i := 0) (v := 0)
  refine en_X9_shift (by decide) (go_X9_shift_0 (by decide) ?_)
  show tf_Cd 298 10 _ _ (w1 h 270 0 0) _
  generalize w1 h 270 0 0 = h1 at *
  obtain ⟨n, k, G⟩ := R1.1
  refine sx_rcs (d := 6) G.1 x y m _ (go_X9_shift_12 (by decide) ⟨fun _ => q _ _ ⟨⟨_, rfl⟩, R1, F0⟩, fun c => go_X9_shift_17 (by decide) ?_⟩)
  rw [bI_0, Bool.not_eq_false] at c
  refine sp_kp0 (d := 9) G R1.2.1 _ (fun v g3 p => go_X9_shift_22 (by decide) (sp_shifts (d := 6) p.1 (by rw [rf_cs_same (p.2.2.1 271 (by decide) (by decide))]; exact c) _ (fun v4 g4 p4 => go_X9_shift_29 (by decide) (q _ _ ⟨⟨_, rfl⟩, ?_, (F0.tr p.2.2.of).tr (OF.hi p4.2.1 p4.2.2)⟩))))
  have R3 : RI g3 M := R1.of (Nat.le_refl _) p.2.2.of ⟨n, k, p.1⟩ p.2.1
  exact R3.of (Nat.le_refl _) (OF.hi p4.2.1 p4.2.2) ⟨n, k, p4.1⟩ (p.2.1.hi p4.2.1)
/-- whether an arc's number can be another -/
def rf_cb (h : LH) (x : Int32) (w : Nat) (v low : Int32) : Bool := rf_isArc h x && (rf_in v low (if w = 6 then 1 else 99) && !decide (rm h x.toNatClampNeg w = v))
theorem sx_cb (H : RM h n k) (x : Int32) {w : Nat} (hw : w < 7) (v low : Int32) : tf_Rt (d + 3) 60 [.ref 270, .int x, .int (nI w), .int v, .int low] h (.int (bI (rf_cb h x w v low))) h := by
  intro Q q
  have hn := H.1
  have e43 : rf_cb h x w v low = false → lx_X9_canBe 298 (tf_Cd 298 (d + 2)) Q 43 [.ref 270, .int x, .int (nI w), .int v, .int low] [] h := fun e => go_X9_canBe_43 (by decide) (go_X9_canBe_44 (by decide) ⟨rfl, by rw [e] at q; exact q⟩)
  have e44 : rf_cb h x w v low = true → lx_X9_canBe 298 (tf_Cd 298 (d + 2)) Q 44 [.ref 270, .int x, .int (nI w), .int v, .int low] [.int 1] h := fun e => go_X9_canBe_44 (by decide) ⟨rfl, by rw [e] at q; exact q⟩
  have e26 : rf_isArc h x = true → lx_X9_canBe 298 (tf_Cd 298 (d + 2)) Q 26 [.ref 270, .int x, .int (nI w), .int v, .int low] [.int (bI (rf_in v low (if w = 6 then 1 else 99)))] h := by
    intro c
    obtain ⟨a, ha, ea⟩ := rf_arc_t H c
    have ca : x.toNatClampNeg = a := by rw [ea]; exact nI_clamp (by omega)
    refine go_X9_canBe_26 (by decide) ⟨fun c2 => e43 ?_, fun c2 => sx_of (d := d + 1) a w ea rfl (by omega) hw _ (go_X9_canBe_35 (by decide) ⟨fun c3 => e43 ?_, fun c3 => e44 ?_⟩)⟩
    · rw [bI_0] at c2
      simp [rf_cb, c2]
    · simp [rf_cb, ca, c3]
    · rw [bI_0, Bool.not_eq_false] at c2
      simp [rf_cb, c, c2, ca, c3]
  refine en_X9_canBe (by decide) (go_X9_canBe_0 (by decide) (sx_risArc (d := d) x _ (go_X9_canBe_5 (by decide) ⟨fun c => e43 ?_, fun c => ?_⟩)))
  · rw [bI_0] at c
    simp [rf_cb, c]
  · rw [bI_0, Bool.not_eq_false] at c
    refine ⟨fun c2 => go_X9_canBe_23 (by decide) (sx_in (d := d + 1) _ _ _ _ ?_), fun c2 => go_X9_canBe_21 (by decide) (go_X9_canBe_23 (by decide) (sx_in (d := d + 1) _ _ _ _ ?_))⟩
    · have hw6 : w = 6 := (nI_eq (b := 6) (by omega) (by omega)).mp c2
      have := e26 c
      rw [if_pos hw6] at this
      exact this
    · have hw6 : ¬ w = 6 := fun z => c2 (by rw [z]; rfl)
      have := e26 c
      rw [if_neg hw6] at this
      exact this
theorem BI.arc {a w : Nat} {v : Int32} (B : BI h n k) (ha : a < 14) (hw : (w = 2 ∧ vp_in v 100) ∨ w = 6) : BI (rp h a w v) n k := by
  obtain ⟨R, S, N, A1, A2, A3, A4⟩ := B
  have hn := R.1
  have ev : rm (rp h a w v) a w = v := rp_at
  have en : ∀ i, i ≠ 72 + 7 * a + w → (rp h a w v).1 271 i = h.1 271 i := fun i hi => rp_ne hi
  generalize rp h a w v = g2 at *
  have er : ∀ b c, c < 7 → c ≠ w → rm g2 b c = rm h b c := fun b c h1 h2 => en _ (by omega)
  refine ⟨⟨R.1, by rw [en 0 (by omega)]; exact R.2.1, by rw [en 1 (by omega)]; exact R.2.2.1, fun b hb => by rw [er b 0 (by omega) (by omega), er b 1 (by omega) (by omega)]; exact R.2.2.2 b hb⟩, by unfold RS; rw [en 6 (by omega)]; exact S, by unfold GN; rw [en 7 (by omega)]; exact N, fun b hb => by rw [er b 0 (by omega) (by omega), er b 1 (by omega) (by omega)]; exact A1 b hb, fun b hb => ?_, fun b hb => by rw [er b 3 (by omega) (by omega)]; exact A3 b hb, fun q hq => by rw [en _ (by omega)]; exact A4 q hq⟩
  rcases hw with ⟨hw, hv⟩ | hw
  · by_cases z : b = a
    · subst z
      subst hw
      rw [ev]
      exact hv
    · have : rm g2 b 2 = rm h b 2 := en _ (by omega)
      rw [this]
      exact A2 b hb
  · rw [er b 2 (by omega) (by omega)]
    exact A2 b hb
theorem GI.cost {a : Nat} {v : Int32} {c : Nat} (G : GI h n k M) (hc : c ≤ 198) (e : v + 99 = nI c) : GI (rp h a 3 v) n k M := by
  obtain ⟨R, C, S, FB1, ⟨A1, A2, A3, A4⟩, D, N⟩ := G
  have hn := R.1
  have ev : rm (rp h a 3 v) a 3 = v := rp_at
  have en : ∀ i, i ≠ 72 + 7 * a + 3 → (rp h a 3 v).1 271 i = h.1 271 i := fun i hi => rp_ne hi
  generalize rp h a 3 v = g2 at *
  have er : ∀ b c, c < 7 → c ≠ 3 → rm g2 b c = rm h b c := fun b c h1 h2 => en _ (by omega)
  refine ⟨⟨R.1, by rw [en 0 (by omega)]; exact R.2.1, by rw [en 1 (by omega)]; exact R.2.2.1, fun b hb => by rw [er b 0 (by omega) (by omega), er b 1 (by omega) (by omega)]; exact R.2.2.2 b hb⟩, C.hang (fun b _ => ⟨er b 0 (by omega) (by omega), er b 1 (by omega) (by omega)⟩) (fun b _ hh => by unfold rf_hangs at hh ⊢; rw [er b 5 (by omega) (by omega)]; exact hh) (fun p _ hl => by rw [en _ (by omega)]; exact hl), by unfold RS; rw [en 6 (by omega)]; exact S, fun b hb => by rw [er b 2 (by omega) (by omega), er b 5 (by omega) (by omega), er b 4 (by omega) (by omega)]; exact FB1 b hb, ⟨fun b hb => by rw [er b 0 (by omega) (by omega), er b 1 (by omega) (by omega)]; exact A1 b hb, fun b hb => by rw [er b 4 (by omega) (by omega), er b 2 (by omega) (by omega)]; exact A2 b hb, fun b hb => ?_, fun p hp => by rw [en _ (by omega)]; exact A4 p hp⟩, fun p hp => by rw [en (65 + p) (by omega), en (58 + p) (by omega)]; exact D p hp, by unfold GN; rw [en 7 (by omega)]; exact N⟩
  by_cases z : b = a
  · rw [z, ev]
    exact ⟨c, hc, e⟩
  · have : rm g2 b 3 = rm h b 3 := en _ (by omega)
    rw [this]
    exact A3 b hb
theorem sp_becomes (G : GI h n k M) {x v low : Int32} {w : Nat} (hw : (w = 2 ∧ low = 0) ∨ (w = 6 ∧ low = 0) ∨ (w = 3 ∧ low = -99)) (c : rf_cb h x w v low = true) : tf_Sp (d + 4) 61 [.ref 270, .int x, .int (nI w), .int v] h (fun _ g => GI g n k M ∧ (∀ e, e ≠ 271 → g.1 e = h.1 e) ∧ ∀ ix, 170 ≤ ix → g.1 271 ix = h.1 271 ix) := by
  intro Q q
  have hn := G.1.1
  unfold rf_cb at c
  simp only [Bool.and_eq_true, Bool.not_eq_true', decide_eq_false_iff_not] at c
  obtain ⟨c1, c2, -⟩ := c
  obtain ⟨a, ha, ea⟩ := rf_arc_t G.1 c1
  refine en_X9_becomes (by decide) (go_X9_becomes_0 (by decide) (sx_puts (d := d + 2) a w v ea rfl (by omega) (by omega) _ (go_X9_becomes_7 (by decide) ⟨fun z => go_X9_becomes_17 (by decide) (q _ _ ⟨?_, fun e he => w1_ne he, fun ix hx => rp_ne (by omega)⟩), fun z => ?_⟩)))
  · have hw3 : w = 3 := (nI_eq (b := 3) (by omega) (by omega)).mp z
    rcases hw with ⟨y, -⟩ | ⟨y, -⟩ | ⟨y, hl⟩
    · omega
    · omega
    · subst y
      subst hl
      rw [if_neg (by decide)] at c2
      unfold rf_in at c2
      simp only [Bool.and_eq_true, Bool.not_eq_true', decide_eq_false_iff_not] at c2
      have t1 := Int32.not_lt.mp c2.1
      have t2 := Int32.not_lt.mp c2.2
      rw [Int32.le_iff_toInt_le] at t1 t2
      have y1 : (-99 : Int32).toInt = -99 := rfl
      have y2 : (99 : Int32).toInt = 99 := rfl
      have e99 : (v + 99).toInt = v.toInt + 99 := by
        rw [Int32.toInt_add, y2, Int.bmod_eq_of_le (by omega) (by omega)]
      have hpos : ¬ v + 99 < 0 := by
        rw [Int32.lt_iff_toInt_lt, e99]
        have : (0 : Int32).toInt = 0 := rfl
        omega
      obtain ⟨j, hj, ej⟩ := nI_of hpos
      refine G.cost (c := j) ?_ ej
      have := congrArg Int32.toInt ej
      rw [e99, nI_toInt hj] at this
      omega
  · have hw3 : ¬ w = 3 := fun y => z (by rw [y]; rfl)
    have B : BI (rp h a w v) n k := by
      refine G.bi.arc (by omega) ?_
      rcases hw with ⟨y, hl⟩ | ⟨y, -⟩ | ⟨y, -⟩
      · subst y
        subst hl
        rw [if_neg (by decide)] at c2
        obtain ⟨j, -, h2, h3⟩ := rf_in_t (l := 0) (u := 99) (by omega) c2 (by omega)
        exact Or.inl ⟨rfl, by rw [h3]; exact vi_of (by omega) (by omega)⟩
      · exact Or.inr y
      · exact absurd y hw3
    refine sp_bga (d := d) (M := M) B 1 _ (fun v2 g p4 => go_X9_becomes_17 (by decide) (q _ _ ⟨p4.1, fun e he => ?_, fun ix hx => ?_⟩))
    · rw [p4.2.1 e he]
      exact w1_ne he
    · rw [p4.2.2.2 ix (Or.inr (Or.inl hx)) (by omega)]
      exact rp_ne (by omega)
theorem rf_cb_same {x v low : Int32} {w : Nat} (e : g.1 271 = h.1 271) : rf_cb g x w v low = rf_cb h x w v low := by
  unfold rf_cb rf_isArc rm
  rw [e]
theorem sp_tells (R : RI h M) {x v low : Int32} {w : Nat} (hw : (w = 2 ∧ low = 0) ∨ (w = 6 ∧ low = 0) ∨ (w = 3 ∧ low = -99)) : tf_Sp (d + 10) 62 [.ref 270, .int x, .int (nI w), .int v, .int low] h (fun v g => (∃ b, v = .int (bI b)) ∧ RI g M ∧ OF h g) := by
  intro Q q
  have R1 := R.w0 (i := 0) (v := 0) (by decide)
  have F0 := OF.w0 (h := h) (i := 0) (v := 0)
  refine en_X9_tells (by decide) (go_X9_tells_0 (by decide) ?_)
  show tf_Cd 298 (d + 9) _ _ (w1 h 270 0 0) _
  generalize w1 h 270 0 0 = h1 at *
  obtain ⟨n, k, G⟩ := R1.1
  refine sx_cb (d := d + 6) G.1 x (by omega) v low _ (go_X9_tells_14 (by decide) ⟨fun _ => q _ _ ⟨⟨false, rfl⟩, R1, F0⟩, fun c => go_X9_tells_19 (by decide) ?_⟩)
  rw [bI_0, Bool.not_eq_false] at c
  refine sp_kp0 (d := d + 8) G R1.2.1 _ (fun v g3 p => go_X9_tells_24 (by decide) (sp_becomes (d := d + 5) p.1 hw (by rw [rf_cb_same (p.2.2.1 271 (by decide) (by decide))]; exact c) _ (fun v4 g4 p4 => go_X9_tells_31 (by decide) (q _ _ ⟨⟨true, rfl⟩, ?_, (F0.tr p.2.2.of).tr (OF.hi p4.2.1 p4.2.2)⟩))))
  have R3 : RI g3 M := R1.of (Nat.le_refl _) p.2.2.of ⟨n, k, p.1⟩ p.2.1
  exact R3.of (Nat.le_refl _) (OF.hi p4.2.1 p4.2.2) ⟨n, k, p4.1⟩ (p.2.1.hi p4.2.1)
theorem rq_block (R : RI h M) (x y : Int32) : RQ 63 [.int x, .int y] h M := by
  intro Q q
  have s : ∀ v : Int32, lx_X9_block 298 (tf_Cd 298 10) Q 13 [.ref 270, .int x, .int y] [.int v, .int 6, .int x, .ref 270] h := fun v => go_X9_block_13 (by decide) (sp_tells (d := 0) R (w := 6) (Or.inr (Or.inl ⟨rfl, rfl⟩)) _ (fun v4 g4 p4 => by
    obtain ⟨⟨b, e⟩, p5⟩ := p4
    subst e
    exact go_X9_block_17 (by decide) ⟨bI_nar b, q _ _ ⟨⟨_, rfl⟩, p5⟩⟩))
  exact en_X9_block (by decide) (go_X9_block_0 (by decide) ⟨fun _ => go_X9_block_12 (by decide) (s _), fun _ => s _⟩)
theorem rq_widen (R : RI h M) (x y : Int32) : RQ 64 [.int x, .int y] h M := by
  intro Q q
  exact en_X9_widen (by decide) (go_X9_widen_0 (by decide) (sp_tells (d := 0) R (w := 2) (Or.inl ⟨rfl, rfl⟩) _ (fun v4 g4 p4 => by
    obtain ⟨⟨b, e⟩, p5⟩ := p4
    subst e
    exact go_X9_widen_8 (by decide) ⟨bI_nar b, q _ _ ⟨⟨_, rfl⟩, p5⟩⟩)))
theorem rq_charge (R : RI h M) (x y : Int32) : RQ 65 [.int x, .int y] h M := by
  intro Q q
  exact en_X9_charge (by decide) (go_X9_charge_0 (by decide) (sp_tells (d := 0) R (w := 3) (Or.inr (Or.inr ⟨rfl, rfl⟩)) _ (fun v4 g4 p4 => by
    obtain ⟨⟨b, e⟩, p5⟩ := p4
    subst e
    exact go_X9_charge_9 (by decide) ⟨bI_nar b, q _ _ ⟨⟨_, rfl⟩, p5⟩⟩)))
end R84
