/-! ===== the reference goes up and down ===== -/
section RW
variable {g : LH} {n k d : Nat}
def gu : Nat → Nat → Nat → LH → LH
  | _, 0, _, g => g
  | c, j + 1, y, g => gu (c + 1) j (uf g y) (as1 g c (g.1 282 y) (nI y))
/-- only the cycle has changed -/
def Fy (h g : LH) : Prop := (∀ e, e ≠ 285 → e ≠ 286 → e ≠ 270 → g.1 e = h.1 e) ∧ g.2 = h.2 ∧ (∀ i, i ≠ 30 → g.1 270 i = h.1 270 i)
theorem Fy.rf : Fy g g := ⟨fun _ _ _ _ => rfl, rfl, fun _ _ => rfl⟩
theorem Fy.tr {a b c : LH} (x : Fy a b) (y : Fy b c) : Fy a c := ⟨fun e h1 h2 h3 => (y.1 e h1 h2 h3).trans (x.1 e h1 h2 h3), y.2.1.trans x.2.1, fun i hi => (y.2.2 i hi).trans (x.2.2 i hi)⟩
theorem Fy.as1 {c : Nat} {id fr : Int32} : Fy g (as1 g c id fr) := as1_lo
theorem Fy.lt {h : LH} (F : Fy h g) (T : LT h n k) : LT g n k := T.same (F.1 271 (by decide) (by decide) (by decide)) (F.1 281 (by decide) (by decide) (by decide)) (F.1 282 (by decide) (by decide) (by decide)) (F.1 283 (by decide) (by decide) (by decide))
theorem Fy.uf {h : LH} (F : Fy h g) (p : Nat) : _root_.id (_root_.Eq (g.1 281 p) (h.1 281 p)) := by
  show g.1 281 p = h.1 281 p
  rw [F.1 281 (by decide) (by decide) (by decide)]
theorem tw_same {h : LH} (e : g.1 281 = h.1 281) : ∀ (j x : Nat), tw g j x = tw h j x
  | 0, _ => rfl
  | j + 1, x => by
    show tw g j (_root_.id ((g.1 281 x).toNatClampNeg)) = tw h j ((h.1 281 x).toNatClampNeg)
    rw [e]
    exact tw_same e j _
theorem df_same {h : LH} (e : g.1 283 = h.1 283) (x : Nat) : df g x = df h x := by
  unfold df
  rw [e]
theorem as_281 {c : Nat} {id fr : Int32} : (as1 g c id fr).1 281 = g.1 281 := as1_lo.1 281 (by decide) (by decide) (by decide)
theorem as_283 {c : Nat} {id fr : Int32} : (as1 g c id fr).1 283 = g.1 283 := as1_lo.1 283 (by decide) (by decide) (by decide)
theorem LT.vi (T : LT g n k) {p : Nat} (hp : p < n) : VI (g.1 282 p) := (T.at hp).2.2.2.2.2.vi T.1.1.2.1 T.1.1.2.2 hp
theorem gu_ok : ∀ (j c y : Nat) (g : LH), LT g n k → CY g c → y ≤ n → j ≤ df g y → c + j ≤ 16 → CY (gu c j y g) (c + j) ∧ Fy g (gu c j y g)
  | 0, c, y, g, T, Y, hy, hj, hc => ⟨Y, Fy.rf⟩
  | j + 1, c, y, g, T, Y, hy, hj, hc => by
    have hl := T.lt hy (by omega)
    obtain ⟨a1, a2, a3, -⟩ := T.at hl
    have T1 : LT (as1 g c (g.1 282 y) (nI y)) n k := T.as1
    have Y1 := Y.as1 (fr := nI y) (by omega) (T.vi hl)
    obtain ⟨k1, k2⟩ := gu_ok j (c + 1) (uf g y) (as1 g c (g.1 282 y) (nI y)) T1 Y1 a2 (by rw [df_same as_283]; omega) (by omega)
    rw [gu]
    refine ⟨?_, Fy.as1.tr k2⟩
    rw [show c + (j + 1) = c + 1 + j by omega]
    exact k1
theorem sx_guL {to : Nat} {x1 : Int32} {Q : tf_Q} : ∀ (j c y : Nat) (g : LH), LT g n k → CY g c → y ≤ n → j ≤ df g y → c + j ≤ 16 → tw g j y = to → Q tf_z (gu c j y g) → lx_X9_goesUp 298 (tf_Cd 298 (d + 3)) Q 2 [.ref 270, .int x1, .int (nI to), .int (nI y)] [] g
  | 0, c, y, g, T, Y, hy, hj, hc, ht, q => by
    have e : y = to := ht
    subst e
    exact go_X9_goesUp_2 (by decide) ⟨fun _ => go_X9_goesUp_28 (by decide) q, fun z => absurd rfl z⟩
  | j + 1, c, y, g, T, Y, hy, hj, hc, ht, q => by
    have hn := T.1.1
    have hl := T.lt hy (by omega)
    obtain ⟨a1, a2, a3, -⟩ := T.at hl
    obtain ⟨b1, b2⟩ := T.tu (j + 1) y hy hj
    rw [ht] at b1 b2
    have cy : (nI y).toNatClampNeg = y := nI_clamp (by omega)
    have vy : vp_in (nI y) 8 := vi_of (by omega) (by omega)
    have T1 : LT (as1 g c (g.1 282 y) (nI y)) n k := T.as1
    have Y1 := Y.as1 (fr := nI y) (by omega) (T.vi hl)
    refine go_X9_goesUp_2 (by decide) ⟨fun z => ?_, fun _ => ⟨vy, ?_⟩⟩
    · have : y = to := (nI_eq (by omega) (by omega)).mp z
      rw [this] at b2
      omega
    · rw [cy]
      refine sx_as (d := d) Y (by omega) (T.vi hl) _ _ (go_X9_goesUp_18 (by decide) ⟨vy, ?_⟩)
      rw [cy, as_281, a1]
      exact sx_guL j (c + 1) (uf g y) _ T1 Y1 a2 (by rw [df_same as_283]; omega) (by omega) (by rw [tw_same as_281]; exact ht) q
theorem sx_gu (T : LT g n k) {c j y to : Nat} (Y : CY g c) (hy : y ≤ n) (hj : j ≤ df g y) (hc : c + j ≤ 16) (ht : tw g j y = to) : tf_Rt (d + 4) 41 [.ref 270, .int (nI y), .int (nI to)] g tf_z (gu c j y g) := fun _ q => en_X9_goesUp (by decide) (go_X9_goesUp_0 (by decide) (sx_guL j c y g T Y hy hj hc ht q))
def gd : Nat → Nat → Nat → LH → LH
  | _, 0, _, g => g
  | c, i + 1, x, g => gd (c + 1) i x (as1 g c (g.1 282 (tw g i x)) (g.1 281 (tw g i x)))
theorem gd_ok : ∀ (i c x : Nat) (g : LH), LT g n k → CY g c → x ≤ n → i ≤ df g x → c + i ≤ 16 → CY (gd c i x g) (c + i) ∧ Fy g (gd c i x g)
  | 0, c, x, g, T, Y, hx, hi, hc => ⟨Y, Fy.rf⟩
  | i + 1, c, x, g, T, Y, hx, hi, hc => by
    obtain ⟨b1, b2⟩ := T.tu i x hx (by omega)
    have hl := T.lt b1 (by omega)
    have T1 : LT (as1 g c (g.1 282 (tw g i x)) (g.1 281 (tw g i x))) n k := T.as1
    have Y1 := Y.as1 (fr := g.1 281 (tw g i x)) (by omega) (T.vi hl)
    obtain ⟨k1, k2⟩ := gd_ok i (c + 1) x _ T1 Y1 hx (by rw [df_same as_283]; omega) (by omega)
    rw [gd]
    refine ⟨?_, Fy.as1.tr k2⟩
    rw [show c + (i + 1) = c + 1 + i by omega]
    exact k1
theorem sx_inL (T : LT g n k) {i : Nat} {x1 x2 x3 : Int32} {Q : tf_Q} (hi7 : i ≤ 7) : ∀ (m r y : Nat), r + m = i → y ≤ n → m ≤ df g y → lx_X9_goesDown 298 (tf_Cd 298 d) Q 50 [.ref 270, .int x1, .int x2, .int x3, .int (nI (i + 1)), .int (nI (tw g m y)), .int (nI (i + 1))] [] g → lx_X9_goesDown 298 (tf_Cd 298 d) Q 28 [.ref 270, .int x1, .int x2, .int x3, .int (nI (i + 1)), .int (nI y), .int (nI (r + 1))] [] g
  | 0, r, y, hr, hy, hm, q => by
    have e : r = i := by omega
    subst e
    exact go_X9_goesDown_28 (by decide) ⟨fun _ => q, fun z => absurd (nI_le (Nat.le_refl _) (by omega)) z⟩
  | m + 1, r, y, hr, hy, hm, q => by
    have hn := T.1.1
    have hl := T.lt hy (by omega)
    obtain ⟨a1, a2, a3, -⟩ := T.at hl
    have cy : (nI y).toNatClampNeg = y := nI_clamp (by omega)
    refine go_X9_goesDown_28 (by decide) ⟨fun z => absurd z (nI_ge (by omega) (by omega)), fun _ => ⟨vi_of (by omega) (by omega), ?_⟩⟩
    rw [cy, a1, nI_1]
    exact sx_inL T hi7 m (r + 1) (uf g y) (by omega) a2 (by omega) q
theorem sx_gdL {x : Nat} {x1 x3 : Int32} {Q : tf_Q} : ∀ (i c : Nat) (g : LH) (x5 x6 : Value), LT g n k → CY g c → x ≤ n → i ≤ df g x → c + i ≤ 16 → Q tf_z (gd c i x g) → lx_X9_goesDown 298 (tf_Cd 298 (d + 3)) Q 17 [.ref 270, .int x1, .int (nI x), .int x3, .int (nI i), x5, x6] [] g
  | 0, c, g, x5, x6, T, Y, hx, hi, hc, q => go_X9_goesDown_17 (by decide) ⟨fun _ => go_X9_goesDown_74 (by decide) q, fun z => absurd (by decide) z⟩
  | i + 1, c, g, x5, x6, T, Y, hx, hi, hc, q => by
    have hn := T.1.1
    have hd7 := (T.dp hx).2
    obtain ⟨b1, b2⟩ := T.tu i x hx (by omega)
    have hl := T.lt b1 (by omega)
    have T1 : LT (as1 g c (g.1 282 (tw g i x)) (g.1 281 (tw g i x))) n k := T.as1
    have Y1 := Y.as1 (fr := g.1 281 (tw g i x)) (by omega) (T.vi hl)
    have ct : (nI (tw g i x)).toNatClampNeg = tw g i x := nI_clamp (by omega)
    have vt : vp_in (nI (tw g i x)) 8 := vi_of (by omega) (by omega)
    refine go_X9_goesDown_17 (by decide) ⟨fun z => absurd z (nI_nle (by omega) (by omega)), fun _ => sx_inL T (by omega) i 0 x (by omega) hx (by omega) (go_X9_goesDown_50 (by decide) ⟨vt, vt, ?_⟩)⟩
    rw [ct]
    refine sx_as (d := d) Y (by omega) (T.vi hl) _ _ (go_X9_goesDown_68 (by decide) ?_)
    have ei : nI (i + 1) + (-1) = nI i := by rw [← Int32.sub_eq_add_neg]; exact nI_pred i
    rw [ei]
    exact sx_gdL i (c + 1) _ _ _ T1 Y1 hx (by rw [df_same as_283]; omega) (by omega) q
theorem sx_gd (T : LT g n k) {c i x z : Nat} (Y : CY g c) (hx : x ≤ n) (hi : i ≤ df g x) (hc : c + i ≤ 16) (hz : tw g i x = z) : tf_Rt (d + 4) 40 [.ref 270, .int (nI z), .int (nI x)] g tf_z (gd c i x g) := by
  intro Q q
  have hn := T.1.1
  obtain ⟨b1, b2⟩ := T.tu i x hx hi
  rw [hz] at b1 b2
  have cx : (nI x).toNatClampNeg = x := nI_clamp (by omega)
  have cz : (nI z).toNatClampNeg = z := nI_clamp (by omega)
  refine en_X9_goesDown (by decide) (go_X9_goesDown_0 (by decide) ⟨vi_of (by omega) (by omega), vi_of (by omega) (by omega), ?_⟩)
  rw [cx, cz, (T.dp hx).1, (T.dp b1).1, nI_sub (by omega), show df g x - df g z = i by omega]
  exact sx_gdL i c g _ _ T Y hx hi hc q
end RW
