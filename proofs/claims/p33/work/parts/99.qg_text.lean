/-! ===== texts on both sides: signs and bytes ===== -/
theorem by_and {x : Int32} : ∃ m, m < 256 ∧ x &&& 255 = nI m := by
  have h : (x &&& 255).toBitVec = x.toBitVec &&& 255#32 := rfl
  have hlt : (x &&& 255).toBitVec.toNat < 256 := by
    rw [h, BitVec.toNat_and]
    exact Nat.lt_of_le_of_lt Nat.and_le_right (by decide)
  refine ⟨(x &&& 255).toBitVec.toNat, hlt, ?_⟩
  generalize x &&& 255 = y at hlt
  apply Int32.toBitVec_inj.mp
  apply BitVec.eq_of_toNat_eq
  have : ∀ m, m < 256 → (nI m).toBitVec.toNat = m := by decide +kernel
  exact (this _ hlt).symm
theorem by_char : ∀ m, m < 256 → vp_nar .char (((nI m).toUInt32 % 65536).toInt32) = nI m := by decide +kernel
theorem by_nar (x : Int32) : vp_nar .byte x = x.toInt8.toInt32 := rfl
theorem by_bit {x y : Int32} (h : ∀ i, i < 8 → x.toBitVec.getLsbD i = y.toBitVec.getLsbD i) : x &&& 255 = y &&& 255 := by
  apply Int32.toBitVec_inj.mp
  apply BitVec.eq_of_getLsbD_eq
  intro i hi
  rw [Int32.toBitVec_and, Int32.toBitVec_and, BitVec.getLsbD_and, BitVec.getLsbD_and, sy_255 i hi]
  by_cases z : i < 8
  · rw [h i z]
  · simp [z]
theorem by_8 (x : Int32) : x.toInt8.toInt32 &&& 255 = x &&& 255 := by
  refine by_bit (fun i hi => ?_)
  show ((x.toBitVec.signExtend 8).signExtend 32).getLsbD i = _
  rw [BitVec.getLsbD_signExtend, BitVec.getLsbD_signExtend]
  simp [hi, show i < 32 by omega]
theorem by_k (x : Int32) : vp_nar .byte x &&& 255 = x &&& 255 := by rw [by_nar, by_8]
theorem by_sy (x : Int64) {k : Nat} (hk : k < 8) : vp_nar .byte (((x >>> ((56 - (8 * nI k) : Int32).toInt64 &&& 63) : Int64).toInt32 : Int32).toInt8.toInt32) &&& 255 = sy_c x k := by
  rw [by_k, by_8]
  unfold sy_c
  have hs := sy_s1 k hk
  have hs2 := sy_s2 k hk
  generalize ((56 - (8 * nI k) : Int32).toInt64.toUInt64 &&& Int64.toUInt64 63) = s at hs
  have e : (x.toUInt64 >>> s).toInt64.toBitVec = x.toBitVec >>> (56 - 8 * k) := by
    apply BitVec.eq_of_toNat_eq
    show (x.toUInt64 >>> s).toNat = _
    rw [UInt64.toNat_shiftRight, hs, Nat.mod_eq_of_lt (by omega), BitVec.toNat_ushiftRight]
    rfl
  refine by_bit (fun i hi => ?_)
  show ((x >>> ((56 - (8 * nI k) : Int32).toInt64 &&& 63)).toBitVec.signExtend 32).getLsbD i = ((x.toUInt64 >>> s).toInt64.toBitVec.signExtend 32).getLsbD i
  rw [BitVec.getLsbD_signExtend, BitVec.getLsbD_signExtend, e, BitVec.getLsbD_ushiftRight, Int64.toBitVec_shiftRight]
  show (decide (i < 32) && if i < 64 then (x.toBitVec.sshiftRight (((56 - (8 * nI k) : Int32).toInt64 &&& 63).toBitVec.smod 64).toNat).getLsbD i else _) = _
  rw [hs2, BitVec.getLsbD_sshiftRight]
  simp [hi, show i < 32 by omega, show i < 64 by omega, show ¬ 64 ≤ i by omega, show 56 - 8 * k + i < 64 by omega]
/-- the texts are alike -/
def Tx (h k : LH) : Prop := ∀ m, m < 400 → h.1 252 m = k.1 272 m &&& 255
theorem tx_put {x : Int64} {i n : Nat} {h k : LH} (hi : i < 8) (T : Tx h k) (e1 : h.1 251 1 = nI n) (e2 : k.1 271 (170 : Int32).toNatClampNeg = nI n) (hn : n < 400) : Tx (sy_put x i h) (sy_mput x i k) := by
  intro m hm
  have a : ∃ (q : Nat) (u : Int32), q = n ∧ sy_put x i h = w1 (w1 h 252 q (vp_nar .char (((sy_c x i : Int32).toUInt32 % 65536).toInt32))) 251 1 u := ⟨(h.1 251 1).toNatClampNeg, _, by rw [e1, nI_clamp (by omega)], rfl⟩
  have b : ∃ (q : Nat) (u : Int32), q = n ∧ sy_mput x i k = w1 (w1 k 272 q (vp_nar .byte (((x >>> ((56 - (8 * nI i) : Int32).toInt64 &&& 63) : Int64).toInt32 : Int32).toInt8.toInt32))) 271 (170 : Int32).toNatClampNeg u := ⟨(k.1 271 (170 : Int32).toNatClampNeg).toNatClampNeg, _, by rw [e2, nI_clamp (by omega)], rfl⟩
  obtain ⟨q1, u, eq1, a⟩ := a
  obtain ⟨q2, w, eq2, b⟩ := b
  subst eq1
  subst eq2
  rw [a, b, w1_ne (show (252 : Nat) ≠ 251 by decide), w1_ne (show (272 : Nat) ≠ 271 by decide)]
  by_cases mn : m = q2
  · subst mn
    rw [w1_eq, w1_eq, by_sy x hi]
    unfold sy_c
    obtain ⟨q, hq, eq⟩ := by_and (x := ((((x : Int64).toUInt64 >>> ((56 - (8 * nI i) : Int32).toInt64.toUInt64 &&& Int64.toUInt64 63)).toInt64 : Int64).toInt32))
    rw [eq]
    exact by_char q hq
  · rw [w1_at mn, w1_at mn]
    exact T m hm
theorem tx_puts {x : Int64} : ∀ (f i n : Nat) (h k : LH), i + f ≤ 8 → Tx h k → h.1 251 1 = nI n → k.1 271 (170 : Int32).toNatClampNeg = nI n → n + f ≤ 400 → Tx (sy_puts x i f h) (sy_mputs x i f k)
  | 0, _, _, _, _, _, T, _, _, _ => T
  | f + 1, i, n, h, k, hi, T, e1, e2, hn => tx_puts f (i + 1) (n + 1) _ _ (by omega) (tx_put (by omega) T e1 e2 (by omega)) (sy_put_len e1) (sy_mput_len e2) (by omega)
theorem sy_puts_f {x : Int64} {c : Nat} (hc : c ≠ 1) : ∀ (f i : Nat) (h : LH), (sy_puts x i f h).1 251 c = h.1 251 c
  | 0, _, _ => rfl
  | f + 1, i, h => by
    have a : ∃ (n : Nat) (v u : Int32), sy_put x i h = w1 (w1 h 252 n v) 251 1 u := ⟨_, _, _, rfl⟩
    obtain ⟨n, v, u, a⟩ := a
    rw [sy_puts, sy_puts_f hc f (i + 1) _, a, w1_at hc, w1_ne (by decide)]
theorem sy_mputs_t {x : Int64} : ∀ (f i n : Nat) (h : LH) (m : Nat), h.1 271 (170 : Int32).toNatClampNeg = nI n → n + f ≤ 400 → 400 ≤ m → (sy_mputs x i f h).1 272 m = h.1 272 m
  | 0, _, _, _, _, _, _, _ => rfl
  | f + 1, i, n, h, m, e, hn, hm => by
    have b : ∃ (q : Nat) (v u : Int32), q = n ∧ sy_mput x i h = w1 (w1 h 272 q v) 271 (170 : Int32).toNatClampNeg u := ⟨(h.1 271 (170 : Int32).toNatClampNeg).toNatClampNeg, _, _, by rw [e, nI_clamp (by omega)], rfl⟩
    rw [sy_mputs, sy_mputs_t f (i + 1) (n + 1) _ m (sy_mput_len e) (by omega) hm]
    obtain ⟨q, v, u, eq, b⟩ := b
    rw [b, w1_ne (by decide), w1_at (by omega)]
section ICP
variable {h g : LH} {d M : Nat}
/-- the reference copies a text -/
def Ft4 (h g : LH) (a b : Nat) : Prop := (∀ i, i < 400 → g.1 272 (400 * b + i) &&& 255 = h.1 272 (400 * a + i) &&& 255) ∧ ∀ ix, ¬ (400 * b ≤ ix ∧ ix < 400 * b + 400) → g.1 272 ix = h.1 272 ix
theorem sx_ctL {a b : Nat} (ha : a ≤ 3) (hb : b ≤ 3) (hab : a ≠ b) {Q : tf_Q} : ∀ (f x : Nat) (g : LH), x + f = 400 → (∀ i, i < x → g.1 272 (400 * b + i) &&& 255 = h.1 272 (400 * a + i) &&& 255) → (∀ ix, ¬ (400 * b ≤ ix ∧ ix < 400 * b + 400) → g.1 272 ix = h.1 272 ix) → (∀ v g, Ft4 h g a b → Q v g) → lx_X9_copiesText 298 (tf_Cd 298 d) Q 8 [.ref 270, .int (nI a), .int (nI b), .int (nI x)] [] g
  | 0, x, g, hx, e1, e2, q => by
    have : x = 400 := by omega
    subst this
    exact go_X9_copiesText_8 (by decide) ⟨fun _ => go_X9_copiesText_45 (by decide) (q _ g ⟨e1, e2⟩), fun z => absurd (nI_le (a := 400) (b := 400) (by omega) (by omega)) z⟩
  | f + 1, x, g, hx, e1, e2, q => by
    refine go_X9_copiesText_8 (by decide) ⟨fun z => absurd z (nI_ge (a := x) (b := 400) (by omega) (by omega)), fun _ => ?_⟩
    have i1 : ∀ s, (400 : Int32) * nI s + nI x = nI (400 * s + x) := fun s => by rw [show (400 : Int32) = nI 400 from rfl, nI_mul, nI_add]
    rw [i1, i1, nI_clamp (by omega), nI_clamp (by omega), nI_1]
    refine ⟨vi_of (by omega) (by omega), vi_of (by omega) (by omega), sx_ctL ha hb hab f (x + 1) (w1 g 272 (400 * b + x) (vp_nar .byte (g.1 272 (400 * a + x)))) (by omega) (fun i hi => ?_) (fun ix hx => ?_) q⟩
    · by_cases ix : i = x
      · rw [ix, w1_eq, by_k, e2 _ (by omega)]
      · rw [w1_at (by omega)]
        exact e1 i (by omega)
    · rw [w1_at (by omega)]
      exact e2 ix hx
theorem sx_ct {a b : Nat} (ha : a ≤ 3) (hb : b ≤ 3) (hab : a ≠ b) : tf_Sp (d + 2) 113 [.ref 270, .int (nI a), .int (nI b)] h (fun _ g => Ft4 h g a b) := fun Q q => en_X9_copiesText (by decide) (go_X9_copiesText_0 (by decide) (sp_cp (d := d) (by omega) (by omega) hab _ (fun _ g p => go_X9_copiesText_6 (by decide) (sx_ctL ha hb hab 400 0 g (by omega) (fun i hi => absurd hi (by omega)) (fun ix _ => by rw [p.1 272 (by decide)]) (fun v g2 p2 => q v g2 ⟨fun i hi => by rw [p2.1 i hi, p.1 272 (by decide)], fun ix hx => by rw [p2.2 ix hx, p.1 272 (by decide)]⟩)))))
/-- image and again of the reference: rows and texts are copied -/
theorem rx_image (x : Int32) : tf_Sp 11 114 [.ref 270, .int x] h (fun _ g => (rf_in x 0 2 = false → g.1 271 = h.1 271 ∧ g.1 272 = h.1 272) ∧ ∀ j, j < 3 → x = nI j → (∀ y, y < 173 → g.1 271 (173 * (j + 1) + y) = h.1 271 y) ∧ (∀ ix, ¬ (173 * (j + 1) ≤ ix ∧ ix < 173 * (j + 1) + 173) → g.1 271 ix = h.1 271 ix) ∧ Ft4 h g 0 (j + 1)) := by
  intro Q q
  refine en_X9_image (by decide) (go_X9_image_0 (by decide) ?_)
  show tf_Cd 298 10 _ _ (w1 h 270 0 0) _
  have e0 : ∀ e, e ≠ 270 → (w1 h 270 0 0).1 e = h.1 e := fun e he => w1_ne he
  generalize w1 h 270 0 0 = h1 at *
  refine sx_in (d := 9) _ _ _ _ (go_X9_image_11 (by decide) ⟨fun c => ?_, fun c => go_X9_image_16 (by decide) ?_⟩)
  · rw [bI_0] at c
    refine q _ _ ⟨fun _ => ⟨e0 271 (by decide), e0 272 (by decide)⟩, fun j hj ej => ?_⟩
    exfalso
    unfold rf_in at c
    rw [ej] at c
    have c1 : ¬ nI j < 0 := nI_pos (by omega)
    have c2 : ¬ (2 : Int32) < nI j := nI_nlt (a := 2) (by omega) (by omega)
    simp [c1, c2] at c
  · rw [bI_0, Bool.not_eq_false] at c
    obtain ⟨j, -, hj, ej⟩ := rf_in_t (l := 0) (u := 2) (by omega) c (by omega)
    subst ej
    rw [nI_1]
    refine (sp_ct (d := 8) (a := 0) (b := j + 1) (by omega) (by omega) (by omega)).cj (sx_ct (d := 8) (a := 0) (b := j + 1) (by omega) (by omega) (by omega)) _ (fun v g p => go_X9_image_24 (by decide) ⟨vi_of (by omega) (by omega), ?_⟩)
    rw [nI_clamp (by omega)]
    obtain ⟨⟨p1, p2, p3, p4⟩, t1, t2⟩ := p
    refine q _ (w1 g 273 j (vp_nar .boolean 1)) ⟨fun z => absurd (c.symm.trans z) (by decide), fun i hi ei => ?_⟩
    have : j = i := (nI_eq (by omega) (by omega)).mp ei
    subst this
    refine ⟨fun y hy => ?_, fun ix hx => ?_, fun i hi => ?_, fun ix hx => ?_⟩
    · rw [w1_ne (by decide), p3 y hy, Nat.mul_zero, Nat.zero_add, e0 271 (by decide)]
    · rw [w1_ne (by decide), p4 ix hx, e0 271 (by decide)]
    · rw [w1_ne (by decide), t1 i hi, e0 272 (by decide)]
    · rw [w1_ne (by decide), t2 ix hx, e0 272 (by decide)]
theorem rx_again (x : Int32) : tf_Sp 11 115 [.ref 270, .int x] h (fun _ g => ((rf_in x 0 2 && !decide (h.1 273 x.toNatClampNeg = 0)) = false → g.1 271 = h.1 271 ∧ g.1 272 = h.1 272) ∧ ∀ j, j < 3 → x = nI j → h.1 273 j ≠ 0 → (∀ y, y < 173 → g.1 271 y = h.1 271 (173 * (j + 1) + y)) ∧ (∀ ix, 173 ≤ ix → g.1 271 ix = h.1 271 ix) ∧ Ft4 h g (j + 1) 0) := by
  intro Q q
  refine en_X9_again (by decide) (go_X9_again_0 (by decide) ?_)
  show tf_Cd 298 10 _ _ (w1 h 270 0 0) _
  have e0 : ∀ e, e ≠ 270 → (w1 h 270 0 0).1 e = h.1 e := fun e he => w1_ne he
  generalize w1 h 270 0 0 = h1 at *
  have e3 := e0 273 (by decide)
  have e23 : (rf_in x 0 2 && !decide (h.1 273 x.toNatClampNeg = 0)) = false → lx_X9_again 298 (tf_Cd 298 10) Q 23 [.ref 270, .int x] [] h1 := by
    intro e
    refine go_X9_again_23 (by decide) (q _ _ ⟨fun _ => ⟨e0 271 (by decide), e0 272 (by decide)⟩, fun j hj ej hs => ?_⟩)
    exfalso
    have c1 : ¬ nI j < 0 := nI_pos (by omega)
    have c2 : ¬ (2 : Int32) < nI j := nI_nlt (a := 2) (by omega) (by omega)
    rw [ej, nI_clamp (by omega)] at e
    simp [rf_in, c1, c2, hs] at e
  refine sx_in (d := 9) _ _ _ _ (go_X9_again_11 (by decide) ⟨fun c => e23 ?_, fun c => ?_⟩)
  · rw [bI_0] at c
    simp [c]
  · rw [bI_0, Bool.not_eq_false] at c
    obtain ⟨j, -, hj, ej⟩ := rf_in_t (l := 0) (u := 2) (by omega) c (by omega)
    subst ej
    have cj : (nI j).toNatClampNeg = j := nI_clamp (by omega)
    rw [cj] at e23 q ⊢
    refine ⟨vi_of (by omega) (by omega), fun c2 => e23 ?_, fun c2 => go_X9_again_25 (by decide) ?_⟩
    · rw [e3] at c2
      simp [c2]
    rw [nI_1]
    refine (sp_ct (d := 8) (a := j + 1) (b := 0) (by omega) (by omega) (by omega)).cj (sx_ct (d := 8) (a := j + 1) (b := 0) (by omega) (by omega) (by omega)) _ (fun v g p => go_X9_again_33 (by decide) ?_)
    obtain ⟨⟨p1, p2, p3, p4⟩, t1, t2⟩ := p
    refine q _ (w1 g 270 5 0) ⟨fun z => ?_, fun i hi ei _ => ?_⟩
    · exfalso
      rw [e3] at c2
      rw [c] at z
      simp [c2] at z
    · have : j = i := (nI_eq (by omega) (by omega)).mp ei
      subst this
      refine ⟨fun y hy => ?_, fun ix hx => ?_, fun i hi => ?_, fun ix hx => ?_⟩
      · have := p3 y hy
        rw [Nat.mul_zero, Nat.zero_add] at this
        rw [w1_ne (by decide), this, e0 271 (by decide)]
      · rw [w1_ne (by decide), p4 ix (by omega), e0 271 (by decide)]
      · rw [w1_ne (by decide), t1 i hi, e0 272 (by decide)]
      · rw [w1_ne (by decide), t2 ix hx, e0 272 (by decide)]
end ICP
