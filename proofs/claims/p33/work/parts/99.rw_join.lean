/-! ===== questions, and all that stays alike between the law's rounds ===== -/
section RWJ
variable {h g : LH} {t : Nat}
/-- a question on both sides -/
theorem zq {kx km N2 : Nat} {As Bs : List Value} (I : IZ h t) (c : ∃ (v : Int32) (g : LH), tf_Rt 11 kx (.ref 240 :: As) h (.int v) g ∧ (∀ e, e < 241 → ¬ (15 ≤ e ∧ e < 30) → g.1 e = h.1 e) ∧ ∀ e, 270 ≤ e → g.1 e = h.1 e) (r : ∀ g, RI g (8000 * t) → RQS km Bs g N2) : lk_sp h kx (.ref 240 :: As) km (.ref 270 :: Bs) (fun g => NZ g (t + 1)) := by
  obtain ⟨v, g, s, F1, F2⟩ := c
  refine s.sp ⟨⟨v, rfl⟩, tf_Sp.mp (r g (I.2.1.1.2.hi (fun c h1 _ => F2 c h1))) (fun _ k p => ⟨p.1, ?_⟩)⟩
  obtain ⟨-, -, O, o1, o4, o5⟩ := p
  refine I.1.fr (fun e h1 h2 => by rw [O.1 e (by omega), F1 e h1 h2]) (fun ix h1 h2 => ?_) (by rw [o5, F2 270 (by omega)]) (by rw [o4, F2 274 (by omega)]) (by rw [O.2.2.2.1, F2 273 (by omega)])
  rcases Nat.lt_or_ge ix 170 with z | z
  · rw [o1 ix z, F2 271 (by omega)]
  · rw [O.2.1 ix z h1, F2 271 (by omega)]
theorem zc_0 {kx : Nat} {As : List Value} {v : Int32} (s : tf_Rt 11 kx (.ref 240 :: As) h (.int v) h) : ∃ (v : Int32) (g : LH), tf_Rt 11 kx (.ref 240 :: As) h (.int v) g ∧ (∀ e, e < 241 → ¬ (15 ≤ e ∧ e < 30) → g.1 e = h.1 e) ∧ ∀ e, 270 ≤ e → g.1 e = h.1 e := ⟨v, h, s, fun _ _ _ => rfl, fun _ _ => rfl⟩
theorem zc_n {kx N : Nat} {As : List Value} (s : ∃ (v : Int32) (g : LH), tf_Rt 11 kx (.ref 240 :: As) h (.int v) g ∧ XA g N ∧ FN h g) : ∃ (v : Int32) (g : LH), tf_Rt 11 kx (.ref 240 :: As) h (.int v) g ∧ (∀ e, e < 241 → ¬ (15 ≤ e ∧ e < 30) → g.1 e = h.1 e) ∧ ∀ e, 270 ≤ e → g.1 e = h.1 e := by
  obtain ⟨v, g, a, -, b⟩ := s
  exact ⟨v, g, a, b.2, fun e he => b.1.1 e (by omega)⟩
theorem lk_vo.cj {kx km : Nat} {As Bs : List Value} {P1 P2 : LH → Prop} (a : lk_vo h kx As km Bs P1) (b : lk_vo h kx As km Bs P2) : lk_vo h kx As km Bs (fun g => P1 g ∧ P2 g) := (tf_Sp.cj a b).mp (fun _ _ p => (tf_Sp.cj p.1 p.2).mp (fun _ _ q => q))
theorem iz_ap {km N2 : Nat} {Bs : List Value} (I : IZ h t) (r : RQS km Bs h N2) (hN : N2 ≤ 8000 * (t + 1)) : tf_Sp 11 km (.ref 270 :: Bs) h (fun v g => (∃ x, v = .int x) ∧ IZ g (t + 1)) := by
  refine (tf_Sp.cj r (ix_ap I.2 (r.mp (fun _ _ p => ⟨p.1, p.2.1, p.2.2.1⟩)) hN)).mp (fun _ k p => ⟨p.1.1, ?_, p.2.2⟩)
  obtain ⟨⟨-, -, O, o1, o4, o5⟩, -⟩ := p
  refine I.1.fr (fun e h1 h2 => O.1 e (by omega)) (fun ix h1 h2 => ?_) o5 o4 O.2.2.2.1
  rcases Nat.lt_or_ge ix 170 with z | z
  · exact o1 ix z
  · exact O.2.1 ix z h1
theorem iz_0 (I : IZ h t) (x : Int64) : lk_sp h 181 [.ref 240, .long x] 8 [.ref 270, .long x] (fun g => IZ g (t + 1)) := (zz_0 I x).cj (ix_0 I.2 x)
theorem iz_2 (I : IZ h t) (x : Int32) : lk_sp h 183 [.ref 240, .int x] 25 [.ref 270, .int x] (fun g => IZ g (t + 1)) := by
  obtain ⟨v, r⟩ := pu_fault (h := h) x
  exact (zq I (zc_0 r) (fun _ R => rs_fault R x)).cj (ix_2 I.2 x)
theorem ze_3 (I : IZ h t) (ht : t ≤ 511) : lk_eq h 184 [.ref 240] 54 [.ref 270] (fun g => IZ g (t + 1)) := (zz_3 I ht).cj (ix_3 I.2 ht)
theorem ze_4 (I : IZ h t) (ht : t ≤ 511) (x : Int32) : lk_eq h 185 [.ref 240, .int x] 55 [.ref 270, .int x] (fun g => IZ g (t + 1)) := (zz_4 I ht x).cj (ix_4 I.2 ht x)
theorem ze_5 (I : IZ h t) (ht : t ≤ 511) (x : Int32) : lk_eq h 186 [.ref 240, .int x] 56 [.ref 270, .int x] (fun g => IZ g (t + 1)) := (zz_5 I ht x).cj (ix_5 I.2 x)
theorem ze_6 (I : IZ h t) (ht : t ≤ 511) (x y z : Int32) : lk_eq h 187 [.ref 240, .int x, .int y, .int z] 59 [.ref 270, .int x, .int y, .int z] (fun g => IZ g (t + 1)) := (zz_6 I ht x y z).cj (ix_6 I.2 x y z)
theorem ze_7 (I : IZ h t) (ht : t ≤ 511) (x y : Int32) (hy : y = 0 ∨ y = 1) : lk_eq h 188 [.ref 240, .int x, .int y] 63 [.ref 270, .int x, .int y] (fun g => IZ g (t + 1)) := (zz_7 I ht x y hy).cj (ix_7 I.2 x y)
theorem ze_8 (I : IZ h t) (ht : t ≤ 511) (x y : Int32) : lk_eq h 189 [.ref 240, .int x, .int y] 64 [.ref 270, .int x, .int y] (fun g => IZ g (t + 1)) := (zz_8 I ht x y).cj (ix_8 I.2 x y)
theorem ze_9 (I : IZ h t) (ht : t ≤ 511) (x y : Int32) : lk_eq h 190 [.ref 240, .int x, .int y] 65 [.ref 270, .int x, .int y] (fun g => IZ g (t + 1)) := (zz_9 I ht x y).cj (ix_9 I.2 x y)
theorem iz_10 (I : IZ h t) (ht : t ≤ 511) : lk_vo h 191 [.ref 240] 66 [.ref 270] (fun g => IZ g (t + 1)) := (zz_10 I ht).cj (ix_10 I.2)
theorem ze_12 (I : IZ h t) : lk_eq h 193 [.ref 240] 70 [.ref 270] (fun g => IZ g (t + 1)) := (zz_12 I).cj (ix_12 I.2)
theorem iz_13 (I : IZ h t) (x : Int32) : lk_sp h 194 [.ref 240, .int x] 72 [.ref 270, .int x] (fun g => IZ g (t + 1)) := by
  obtain ⟨n, k, m, hm, H⟩ := I.2.1.1.1.1.net
  exact (zq I (zc_0 (pq_grid H.1 x)) (fun _ R => rs_grid R x)).cj (ix_13 I.2 x)
theorem iz_16 (I : IZ h t) (x : Int32) : lk_sp h 195 [.ref 240, .int x] 77 [.ref 270, .int x] (fun g => IZ g (t + 1)) := by
  obtain ⟨n, k, m, hm, H⟩ := I.2.1.1.1.1.net
  exact (zq I (zc_0 (pq_thread H.1 x)) (fun _ R => rs_thread R x)).cj (ix_16 I.2 x)
theorem iz_17 (I : IZ h t) (x y z : Int32) : lk_sp h 196 [.ref 240, .int x, .int y, .int z] 79 [.ref 270, .int x, .int y, .int z] (fun g => IZ g (t + 1)) := (zq I (zc_n (ps_path I.2.1.1.1.1 x y z)) (fun _ R => rs_path R x y z)).cj (ix_17 I.2 x y z)
theorem iz_18 (I : IZ h t) (x : Int32) : lk_sp h 197 [.ref 240, .int x] 80 [.ref 270, .int x] (fun g => IZ g (t + 1)) := (zq I (zc_n (ps_next I.2.1.1.1.1 x)) (fun _ R => rs_next R x)).cj (ix_18 I.2 x)
theorem iz_19 (I : IZ h t) (ht : t ≤ 511) (x y : Int32) : lk_sp h 198 [.ref 240, .int x, .int y] 81 [.ref 270, .int x, .int y] (fun g => IZ g (t + 1)) := by
  obtain ⟨n, k, m, hm, H⟩ := I.2.1.1.1.1.net
  exact (zq I (zc_0 (pq_past H (by omega) x y)) (fun _ R => rs_past R x y)).cj (ix_19 I.2 ht x y)
theorem iz_20 (I : IZ h t) (x : Int32) : lk_sp h 199 [.ref 240, .int x] 83 [.ref 270, .int x] (fun g => IZ g (t + 1)) := by
  obtain ⟨n, k, m, hm, H⟩ := I.2.1.1.1.1.net
  exact (zq I (zc_0 (pq_bill H.1 x)) (fun _ R => rs_bill R x)).cj (ix_20 I.2 x)
theorem iz_21 (I : IZ h t) (x y : Int32) : lk_sp h 200 [.ref 240, .int x, .int y] 85 [.ref 270, .int x, .int y] (fun g => IZ g (t + 1)) := by
  obtain ⟨n, k, m, hm, H⟩ := I.2.1.1.1.1.net
  exact (zq I (zc_0 (pq_ledger H.1 x y)) (fun _ R => rs_ledger R x y)).cj (ix_21 I.2 x y)
theorem iz_22 (I : IZ h t) (x y : Int32) : lk_sp h 201 [.ref 240, .int x, .int y] 86 [.ref 270, .int x, .int y] (fun g => IZ g (t + 1)) := by
  have c : ∃ (v : Int32) (g : LH), tf_Rt 11 201 [.ref 240, .int x, .int y] h (.int v) g ∧ (∀ e, e < 241 → ¬ (15 ≤ e ∧ e < 30) → g.1 e = h.1 e) ∧ ∀ e, 270 ≤ e → g.1 e = h.1 e := by
    obtain ⟨n, k, m, hm, H⟩ := I.2.1.1.1.1.net
    have s1 := sx_two (h := h) (d := 8) H.1.1 x y
    by_cases e : nt_two h 0 x y = true
    · obtain ⟨hx, hy⟩ := two_in H.1 e
      have L := wi_g_lo (h := h) (n := n) (k := k) (x := x)
      refine ⟨(wi_g h n k x).1 265 y.toNatClampNeg, wi_g h n k x, fun Q q => ?_, fun e he _ => L.1 e (by omega), fun e he => L.1 e (by omega)⟩
      unfold wi_g at q
      have HZ : NO (w1 (wi_z n 0 h) 265 x.toNatClampNeg 1000000) 0 n k := H.1.n265 (fun e he => by rw [w1_ne he, (wi_z_lo n 0 h).1 e he])
      have hn := H.1.pts.2
      refine en_X8_wide (by decide) (go_X8_wide_0 (by decide) (s1 _ (go_X8_wide_9 (by decide) ⟨fun z => ?_, fun _ => go_X8_wide_14 (by decide) (pq_wiZ n 0 h H.1 (by omega) (fun x3 => go_X8_wide_40 (by decide) ⟨hx, pq_wiR hy (n - 1) 1 _ HZ (by omega) (by omega) q⟩))⟩)))
      rw [bI_0, e] at z
      exact absurd z (by decide)
    · exact ⟨_, _, fun Q q => en_X8_wide (by decide) (go_X8_wide_0 (by decide) (s1 _ (go_X8_wide_9 (by decide) ⟨fun _ => q, fun z => absurd (by rw [bI_0]; exact Bool.eq_false_iff.mpr e) z⟩))), fun _ _ _ => rfl, fun _ _ => rfl⟩
  exact (zq I c (fun _ R => rs_wide R x y)).cj (ix_22 I.2 x y)
theorem iz_23 (I : IZ h t) (x y : Int32) : lk_sp h 202 [.ref 240, .int x, .int y] 91 [.ref 270, .int x, .int y] (fun g => IZ g (t + 1)) := by
  obtain ⟨v, g, r, X, F⟩ := pq_trip I.2.1.1.1.1 x y
  exact (zq I ⟨v, g, r, fun e h1 _ => F.1 e (by omega), fun e he => F.1 e (by omega)⟩ (fun _ R => rs_trip R x y)).cj (ix_23 I.2 x y)
theorem iz_24 (I : IZ h t) (x : Int32) : lk_sp h 203 [.ref 240, .int x] 93 [.ref 270, .int x] (fun g => IZ g (t + 1)) := (zq I (zc_0 (pq_apart x)) (fun _ R => rs_apart R x)).cj (ix_24 I.2 x)
theorem iz_25 (I : IZ h t) (x y : Int32) : lk_sp h 204 [.ref 240, .int x, .int y] 94 [.ref 270, .int x, .int y] (fun g => IZ g (t + 1)) := by
  obtain ⟨n, k, m, hm, H⟩ := I.2.1.1.1.1.net
  exact (zq I (zc_0 (pq_span H.1 x y)) (fun _ R => rs_span R x y)).cj (ix_25 I.2 x y)
theorem iz_26 (I : IZ h t) (ht : t ≤ 511) : lk_sp h 205 [.ref 240] 103 [.ref 270] (fun g => IZ g (t + 1)) := (zq I (zc_n (ps_least I.2.1.1.1.1 (by omega))) (fun _ R => rs_least R)).cj (ix_26 I.2 ht)
theorem iz_27 (I : IZ h t) : lk_sp h 206 [.ref 240] 110 [.ref 270] (fun g => IZ g (t + 1)) := by
  obtain ⟨n, k, m, hm, H⟩ := I.2.1.1.1.1.net
  exact (zq I (zc_0 (pq_lack H.1)) (fun _ R => rs_lack R)).cj (ix_27 I.2)
theorem iz_28 (I : IZ h t) : lk_sp h 207 [.ref 240] 109 [.ref 270] (fun g => IZ g (t + 1)) := by
  obtain ⟨n, k, m, hm, H⟩ := I.2.1.1.1.1.net
  exact (zq I (zc_0 (pq_cut H.1)) (fun _ R => rs_cut R)).cj (ix_28 I.2)
theorem iz_29 (I : IZ h t) (ht : t ≤ 511) (x : Int32) : lk_sp h 208 [.ref 240, .int x] 111 [.ref 270, .int x] (fun g => IZ g (t + 1)) := (zq I (zc_n (ps_steps I.2.1.1.1.1 (by omega) x)) (fun _ R => rs_steps R (by omega) x)).cj (ix_29 I.2 ht x)
theorem iz_30 (I : IZ h t) (ht : t ≤ 511) (x y : Int32) : lk_sp h 209 [.ref 240, .int x, .int y] 105 [.ref 270, .int x, .int y] (fun g => IZ g (t + 1)) := (zq I (zc_n (ps_worth I.2.1.1.1.1 (by omega) x y)) (fun _ R => rs_worth R x y)).cj (ix_30 I.2 ht x y)
theorem iz_31 (I : IZ h t) (ht : t ≤ 511) (x y : Int32) : lk_sp h 210 [.ref 240, .int x, .int y] 106 [.ref 270, .int x, .int y] (fun g => IZ g (t + 1)) := (zq I (zc_n (ps_toll I.2.1.1.1.1 (by omega) x y)) (fun _ R => rs_toll R x y)).cj (ix_31 I.2 ht x y)
theorem iz_32 (I : IZ h t) (x : Int32) : lk_sp h 211 [.ref 240, .int x] 114 [.ref 270, .int x] (fun g => IZ g (t + 1)) := (zz_32 I x).cj (ix_32 I.2 x)
theorem iz_33 (I : IZ h t) (x : Int32) : lk_sp h 212 [.ref 240, .int x] 115 [.ref 270, .int x] (fun g => IZ g (t + 1)) := (zz_33 I x).cj (ix_33 I.2 x)
end RWJ
