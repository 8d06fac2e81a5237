/-! ===== the reference's least is the least cost of a plan ===== -/
section UEL
variable {h g g1 : LH} {n k M d : Nat} {P : Nat → Int}
/-- the least cost of a plan for bounds, costs and needs as they lie in cells 291, 292, 294 -/
def LVr (h : LH) (n k : Nat) (x : Int) : Prop := LVs (tlv h) (hdv h) (fun a => (h.1 291 a).toInt) (fun a => (h.1 292 a).toInt) (fun p => (h.1 294 p).toInt) n k x
theorem PT.w {P : Nat → Int} (Pt : PT g k P) (B : CB g n k) {a : Nat} (ha : a < k) : ((g.1 293 a).toInt < (g.1 291 a).toInt → 0 ≤ (g.1 292 a).toInt + P (tlv g a) - P (hdv g a)) ∧ (0 < (g.1 293 a).toInt → (g.1 292 a).toInt + P (tlv g a) - P (hdv g a) ≤ 0) := by
  have b1 := B.2.1 a ha
  have b2 := B.2.2.1 a ha
  have d0 : 2 * a / 2 = a := by omega
  have d1 : (2 * a + 1) / 2 = a := by omega
  have m0 : 2 * a % 2 = 0 := by omega
  have m1 : ¬ (2 * a + 1) % 2 = 0 := by omega
  constructor
  · intro z
    have := Pt (2 * a) (by omega) (fun e => by
      unfold eR at e
      rw [if_pos m0, d0] at e
      have e2 := congrArg Int32.toInt e
      rw [tis (by omega) (by omega), z_ti] at e2
      omega)
    unfold eC eF eT at this
    rw [if_pos m0, if_pos m0, if_pos m0, d0] at this
    exact this
  · intro z
    have := Pt (2 * a + 1) (by omega) (fun e => by
      unfold eR at e
      rw [if_neg m1, d1] at e
      rw [e, z_ti] at z
      omega)
    unfold eC eF eT at this
    rw [if_neg m1, if_neg m1, if_neg m1, d1, tin (by omega) (by omega)] at this
    unfold tlv hdv
    omega
theorem CSk.ends (C : CSk h g n k) : tlv g = tlv h ∧ hdv g = hdv h := by
  have e : g.1 271 = h.1 271 := C.2.2.1.1 271 (by decide) (by decide)
  constructor <;> funext a
  · unfold tlv rm
    rw [e]
  · unfold hdv rm
    rw [e]
theorem cs_opt (D : RM h n k) (C : CSk h g n k) (all : ∀ p, p < n → g.1 294 p = 0) : LVr h n k (fs (fun a => (h.1 292 a).toInt * (g.1 293 a).toInt) k) := by
  obtain ⟨et, eu⟩ := C.ends
  obtain ⟨B, ⟨P, Pt⟩, F, e1, e2, CQ⟩ := C
  unfold LVr
  refine lv_opt (P := P) (f := fun a => (g.1 293 a).toInt) (fun a ha => D.tu ha) ⟨fun a ha => ?_, fun p hp => ?_⟩ (fun a ha => ?_)
  · have := B.2.1 a ha
    rw [e1] at this
    exact ⟨this.1, this.2.1⟩
  · have := CQ p hp
    rw [all p hp, z_ti] at this
    unfold dvg at this
    rw [← et, ← eu]
    have t2 : dv (tlv g) (hdv g) (fun a => (g.1 293 a).toInt) k p = dv (fun a => (rm g a 0).toNatClampNeg) (fun a => (rm g a 1).toNatClampNeg) (fun a => (g.1 293 a).toInt) k p := rfl
    rw [t2]
    show _ = (h.1 294 p).toInt
    omega
  · have := Pt.w B ha
    rw [e1, e2, et, eu] at this
    exact this
theorem cs_no (D : RM h n k) (C : CSk h g n k) (W : NOW g n k) (ex : ∃ p, p < n ∧ g.1 294 p ≠ 0) : LVr h n k (-1000000) := by
  have hn := D.1
  obtain ⟨et, eu⟩ := C.ends
  obtain ⟨B, -, F, e1, e2, CQ⟩ := C
  obtain ⟨fx, src, wnt⟩ := W
  have dve : ∀ p, dv (tlv h) (hdv h) (fun a => (g.1 293 a).toInt) k p = dvg g k p := fun p => by
    rw [← et, ← eu]
    rfl
  have bnd : ∀ a, a < k → 0 ≤ (g.1 293 a).toInt ∧ (g.1 293 a).toInt ≤ (h.1 291 a).toInt := fun a ha => by
    have := B.2.1 a ha
    rw [e1] at this
    exact ⟨this.1, this.2.1⟩
  have neg : ∀ p, ¬ 0 ≤ g.1 294 p ↔ (g.1 294 p).toInt < 0 := fun p => by
    rw [Int32.not_le, Int32.lt_iff_toInt_lt, z_ti]
  have pos : ∀ p, ¬ g.1 294 p ≤ 0 ↔ 0 < (g.1 294 p).toInt := fun p => by
    rw [Int32.not_le, Int32.lt_iff_toInt_lt, z_ti]
  unfold LVr
  by_cases more : ∃ p, p < n ∧ 0 < (g.1 294 p).toInt
  · -- those reached have too much, all in all, and no way leads out
    obtain ⟨b, hb, b1⟩ := more
    refine lv_no (P := fun p => if g.1 295 p = 1000000 then 0 else -1) (f := fun a => (g.1 293 a).toInt) (fun a ha => D.tu ha) bnd (fun a ha => ?_) ?_
    · have tu := D.tu ha
      rw [← et, ← eu, ← e1]
      have d0 : 2 * a / 2 = a := by omega
      have d1 : (2 * a + 1) / 2 = a := by omega
      have m0 : 2 * a % 2 = 0 := by omega
      have m1 : ¬ (2 * a + 1) % 2 = 0 := by omega
      have bb := B.2.1 a ha
      constructor
      · intro z
        have := fx (2 * a) (by omega) (fun e => by
          unfold eR at e
          rw [if_pos m0, d0] at e
          have e2 := congrArg Int32.toInt e
          rw [tis (by omega) (by omega), z_ti] at e2
          omega)
        unfold eF eT at this
        rw [if_pos m0, if_pos m0, d0] at this
        show 0 ≤ (if g.1 295 (tlv g a) = 1000000 then (0 : Int) else -1) - (if g.1 295 (hdv g a) = 1000000 then (0 : Int) else -1)
        by_cases c1 : g.1 295 (tlv g a) = 1000000
        · rw [if_pos c1]
          split <;> omega
        · rw [if_neg c1, if_neg (show ¬ g.1 295 (hdv g a) = 1000000 from (this c1).1)]
          omega
      · intro z
        have := fx (2 * a + 1) (by omega) (fun e => by
          unfold eR at e
          rw [if_neg m1, d1] at e
          rw [e, z_ti] at z
          omega)
        unfold eF eT at this
        rw [if_neg m1, if_neg m1, d1] at this
        show (if g.1 295 (tlv g a) = 1000000 then (0 : Int) else -1) - (if g.1 295 (hdv g a) = 1000000 then (0 : Int) else -1) ≤ 0
        by_cases c1 : g.1 295 (hdv g a) = 1000000
        · rw [if_pos c1]
          split <;> omega
        · rw [if_neg c1, if_neg (show ¬ g.1 295 (tlv g a) = 1000000 from (this c1).1)]
          omega
    · have := fs_lt (b := b) (f := fun p => (if g.1 295 p = 1000000 then (0 : Int) else -1) * (h.1 294 p).toInt) (g := fun p => (if g.1 295 p = 1000000 then (0 : Int) else -1) * dv (tlv h) (hdv h) (fun a => (g.1 293 a).toInt) k p) n (fun p hp => ?_) hb ?_
      · omega
      · show (if g.1 295 p = 1000000 then (0 : Int) else -1) * (h.1 294 p).toInt ≤ (if g.1 295 p = 1000000 then (0 : Int) else -1) * dv (tlv h) (hdv h) (fun a => (g.1 293 a).toInt) k p
        have cq := CQ p hp
        rw [dve]
        by_cases c1 : g.1 295 p = 1000000
        · rw [if_pos c1]
          omega
        · have : ¬ (g.1 294 p).toInt < 0 := fun z => c1 (wnt p hp ((neg p).mpr z))
          rw [if_neg c1]
          omega
      · show (if g.1 295 b = 1000000 then (0 : Int) else -1) * (h.1 294 b).toInt + 1 ≤ (if g.1 295 b = 1000000 then (0 : Int) else -1) * dv (tlv h) (hdv h) (fun a => (g.1 293 a).toInt) k b
        have cq := CQ b hb
        have c1 := src b hb ((pos b).mpr b1)
        rw [dve, if_neg c1]
        omega
  · -- none has too much, but one too little
    obtain ⟨b, hb, b1⟩ := ex
    have le0 : ∀ p, p < n → (g.1 294 p).toInt ≤ 0 := fun p hp => by
      rcases Int.lt_or_le 0 (g.1 294 p).toInt with z | z
      · exact absurd ⟨p, hp, z⟩ more
      · exact z
    have lt0 : (g.1 294 b).toInt < 0 := by
      have := le0 b hb
      have : (g.1 294 b).toInt ≠ 0 := fun z => b1 (ti_0 z)
      omega
    refine lv_no (P := fun _ => 1) (f := fun a => (g.1 293 a).toInt) (fun a ha => D.tu ha) bnd (fun a ha => ⟨fun _ => by omega, fun _ => by omega⟩) ?_
    have := fs_lt (b := b) (f := fun p => (1 : Int) * (h.1 294 p).toInt) (g := fun p => (1 : Int) * dv (tlv h) (hdv h) (fun a => (g.1 293 a).toInt) k p) n (fun p hp => ?_) hb ?_
    · omega
    · show (1 : Int) * (h.1 294 p).toInt ≤ 1 * dv (tlv h) (hdv h) (fun a => (g.1 293 a).toInt) k p
      have cq := CQ p hp
      have := le0 p hp
      rw [dve]
      omega
    · show (1 : Int) * (h.1 294 b).toInt + 1 ≤ 1 * dv (tlv h) (hdv h) (fun a => (g.1 293 a).toInt) k b
      have cq := CQ b hb
      rw [dve]
      omega
theorem xcc_L (H : RM g n k) (B : CB g n k) {Q : tf_Q} (q : ∀ x : Int32, x.toInt = fs (fun a => (g.1 292 a).toInt * (g.1 293 a).toInt) k → Q (.int x) g) : ∀ (f a : Nat) (s : Int32), a + f = k → s.toInt = fs (fun a => (g.1 292 a).toInt * (g.1 293 a).toInt) a → -(10000 * (a : Int)) ≤ s.toInt → s.toInt ≤ 10000 * (a : Int) → lx_X9_cheapestCost 298 (tf_Cd 298 d) Q 15 [.ref 270, .int s, .int (nI a)] [] g
  | 0, a, s, ha, es, _, _ => by
    have hn := H.1
    have e : a = k := by omega
    subst e
    exact go_X9_cheapestCost_15 (by decide) ⟨fun _ => go_X9_cheapestCost_47 (by decide) (q _ es), fun z => absurd (H.k2 (by omega) (by omega)) z⟩
  | f + 1, a, s, ha, es, l1, l2 => by
    have hn := H.1
    have b1 := B.2.1 a (by omega)
    have b2 := B.2.2.1 a (by omega)
    have ca : (nI a).toNatClampNeg = a := nI_clamp (by omega)
    have bd : -10000 ≤ (g.1 292 a).toInt * (g.1 293 a).toInt ∧ (g.1 292 a).toInt * (g.1 293 a).toInt ≤ 10000 := by
      generalize (g.1 292 a).toInt = x at *
      generalize (g.1 293 a).toInt = y at *
      have h1 : x * y ≤ 100 * y := Int.mul_le_mul_of_nonneg_right (by omega) (by omega)
      have h2 : (-100) * y ≤ x * y := Int.mul_le_mul_of_nonneg_right (by omega) (by omega)
      omega
    have em : (g.1 293 a * g.1 292 a).toInt = (g.1 292 a).toInt * (g.1 293 a).toInt := by
      rw [Int32.toInt_mul, Int.mul_comm]
      apply Int.bmod_eq_of_le <;> omega
    have e2 : (s + g.1 293 a * g.1 292 a).toInt = s.toInt + (g.1 292 a).toInt * (g.1 293 a).toInt := by
      rw [tia (by rw [em]; omega) (by rw [em]; omega), em]
    refine go_X9_cheapestCost_15 (by decide) ⟨fun z => absurd z (H.k1 (by omega)), fun _ => ⟨vi_of (by omega) (by omega), vi_of (by omega) (by omega), ?_⟩⟩
    rw [nI_1, ca]
    exact xcc_L H B q f (a + 1) _ (by omega) (by rw [fs, e2, es]) (by rw [e2]; omega) (by rw [e2]; omega)
/-- the reference's least, worth, toll: the least cost of a plan -/
theorem xp_cco (D : DN h n k 100) : tf_Sp (d + 5) 102 [.ref 270] h (fun v g => ∃ x : Int32, v = .int x ∧ LVr h n k x.toInt ∧ ScF h g) := by
  intro Q q
  refine en_X9_cheapestCost (by decide) (go_X9_cheapestCost_0 (by decide) (en_X9_carries (by decide) (go_X9_carries_0 (by decide) (xca_1 (d := d + 2) D (fun x1 g F s1 s2 s5 => go_X9_carries_83 (by decide) ?_) k 0 h (by omega) (fun _ _ _ => rfl) (fun b hb => absurd hb (by omega)) (fun p hp => by have := D.2.2.2 p hp; omega) (fun p hp => ?_)))))
  · have cost := D.2.2.1
    have bd := D.2.1
    have c91 : g.1 291 = h.1 291 := F 291 (by decide) (by decide)
    have c92 : g.1 292 = h.1 292 := F 292 (by decide) (by decide)
    have b3 : ∀ a, a < k → 0 ≤ (g.1 293 a).toInt ∧ (g.1 293 a).toInt ≤ (h.1 291 a).toInt := fun a ha => by
      rw [s1 a ha]
      have := bd a ha
      split
      · rw [z_ti]; omega
      · omega
    have B : CB g n k := by
      refine ⟨D.1.fl (F 271 (by decide) (by decide)), fun a ha => ?_, fun a ha => ?_, s2⟩
      · rw [c91]
        have := bd a ha
        have := b3 a ha
        omega
      · rw [c92]
        have := cost a ha
        omega
    have ps := psv_b (g := g) (S := fun p => (h.1 294 p).toInt) D.1.1.2.1 D.1.1.2.2 (fun a ha => by have := bd a ha; have := b3 a ha; omega) (fun p hp => (D.2.2.2 p hp).2) s5
    refine xca_2 (d := d) (h := h) (n := n) (k := k) (fun g C all => ?_) (fun g C W ex => ?_) 10000 0 0 g (by omega) ⟨B, ⟨fun _ => 0, fun r hr ho => ?_⟩, F.sc, c91, c92, s5⟩ (Or.inr ⟨by decide, by omega⟩)
    · refine go_X9_cheapestCost_4 (by decide) ⟨fun z => absurd z (by decide), fun _ => go_X9_cheapestCost_11 (by decide) (xcc_L C.1.1 C.1 (fun x ex => q _ _ ⟨x, rfl, ?_, C.2.2.1⟩) k 0 0 (by omega) rfl (by rw [z_ti]; omega) (by rw [z_ti]; omega))⟩
      have := cs_opt D.1 C all
      rw [ex, C.2.2.2.2.1]
      exact this
    · exact go_X9_cheapestCost_4 (by decide) ⟨fun _ => q _ _ ⟨-1000000, rfl, cs_no D.1 C W ex, C.2.2.1⟩, fun z => absurd rfl z⟩
    · have ha : r / 2 < k := by omega
      have ka := cost _ ha
      unfold eR at ho
      show 0 ≤ (eC g r).toInt + (0 : Int) - 0
      unfold eC
      rw [c92]
      rw [s1 _ ha, c91] at ho
      by_cases m0 : r % 2 = 0
      · rw [if_pos m0] at ho ⊢
        by_cases c : 0 ≤ h.1 292 (r / 2)
        · rw [Int32.le_iff_toInt_le, z_ti] at c
          omega
        · rw [if_neg c, Int32.sub_self] at ho
          exact absurd rfl ho
      · rw [if_neg m0] at ho ⊢
        by_cases c : 0 ≤ h.1 292 (r / 2)
        · rw [if_pos c] at ho
          exact absurd rfl ho
        · rw [Int32.not_le, Int32.lt_iff_toInt_lt, z_ti] at c
          rw [tin (by omega) (by omega)]
          omega
  · have : dvg h 0 p = 0 := rfl
    rw [this]
    omega
end UEL
