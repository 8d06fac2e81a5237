/-! ===== the cycle of a pivot, whole ===== -/
theorem pig : ∀ (n m : Nat) (f : Nat → Nat), (∀ i, i < m → f i < n) → (∀ i j, i < m → j < m → f i = f j → i = j) → m ≤ n
  | 0, m, f, hf, _ => by
    rcases Nat.eq_zero_or_pos m with z | z
    · omega
    · exact absurd (hf 0 z) (by omega)
  | n + 1, m, f, hf, hi => by
    by_cases hh : ∃ i, i < m ∧ f i = n
    · obtain ⟨i0, h0, e0⟩ := hh
      have := pig n (m - 1) (fun i => f (if i < i0 then i else i + 1)) (fun i h1 => by
        show f (if i < i0 then i else i + 1) < n
        split
        · rename_i z
          have a := hf i (by omega)
          have b : f i ≠ n := fun y => absurd (hi i i0 (by omega) h0 (y.trans e0.symm)) (by omega)
          omega
        · rename_i z
          have a := hf (i + 1) (by omega)
          have b : f (i + 1) ≠ n := fun y => absurd (hi (i + 1) i0 (by omega) h0 (y.trans e0.symm)) (by omega)
          omega) (fun i j h1 h2 e => by
        have e : f (if i < i0 then i else i + 1) = f (if j < i0 then j else j + 1) := e
        split at e
        · split at e
          · exact hi i j (by omega) (by omega) e
          · have := hi i (j + 1) (by omega) (by omega) e
            omega
        · split at e
          · have := hi (i + 1) j (by omega) (by omega) e
            omega
          · have := hi (i + 1) (j + 1) (by omega) (by omega) e
            omega)
      omega
    · have := pig n m f (fun i h1 => by
        have a := hf i h1
        have b : f i ≠ n := fun y => hh ⟨i, h1, y⟩
        omega) hi
      omega
section RCC
variable {h g T : LH} {b n k : Nat}
theorem tw_lt (L : LT T n k) {x i : Nat} (hx : x ≤ n) (hi : i < df T x) : tw T i x < n := by
  have t := L.tu i x hx (by omega)
  have := L.d0 t.1
  omega
theorem tw_in (L : LT T n k) {x i1 i2 : Nat} (hx : x ≤ n) (h1 : i1 ≤ df T x) (h2 : i2 ≤ df T x) (e : tw T i1 x = tw T i2 x) : i1 = i2 := by
  have a := L.tu i1 x hx h1
  have c := L.tu i2 x hx h2
  rw [e] at a
  omega
/-- two branches hold no more points than there are -/
theorem br_le (L : LT T n k) {x y i j : Nat} (hx : x ≤ n) (hy : y ≤ n) (hi : i ≤ df T x) (hj : j ≤ df T y) (ds : ∀ i2 j2, i2 < i → j2 < j → tw T i2 x ≠ tw T j2 y) : i + j ≤ n := by
  refine pig n (i + j) (fun m => if m < i then tw T m x else tw T (m - i) y) (fun m hm => ?_) (fun m1 m2 h1 h2 e => ?_)
  · show (if m < i then tw T m x else tw T (m - i) y) < n
    split
    · exact tw_lt L hx (by omega)
    · exact tw_lt L hy (by omega)
  · have e : (if m1 < i then tw T m1 x else tw T (m1 - i) y) = (if m2 < i then tw T m2 x else tw T (m2 - i) y) := e
    split at e
    · split at e
      · exact tw_in L hx (by omega) (by omega) e
      · exact absurd e (ds m1 (m2 - i) (by omega) (by omega))
    · split at e
      · exact absurd e.symm (ds m2 (m1 - i) (by omega) (by omega))
      · have := tw_in L hy (by omega) (by omega) e
        omega
theorem lc_z_tw (L : LT T n k) {x y : Nat} (hx : x ≤ n) (hy : y ≤ n) : ∃ i j, df T x - df T (lc_z T x y) = i ∧ df T y - df T (lc_z T x y) = j ∧ i ≤ df T x ∧ j ≤ df T y ∧ lc_z T x y = tw T i x ∧ tw T i x = tw T j y ∧ (∀ i2 j2, i2 < i → j2 < j → tw T i2 x ≠ tw T j2 y) ∧ i + j ≤ n := by
  obtain ⟨i, j, hi, hj, e1, e2, ds⟩ := mt_ok L (df T x + df T y) x y hx hy (Nat.le_refl _)
  have ti := L.tu i x hx hi
  have tj := L.tu j y hy hj
  have z1 : lc_z T x y = tw T i x := e1
  have z2 : lc_z T x y = tw T j y := e2
  have d1 : df T x - df T (lc_z T x y) = i := by rw [z1]; omega
  have d2 : df T y - df T (lc_z T x y) = j := by rw [z2]; omega
  exact ⟨i, j, d1, d2, hi, hj, z1, z1.symm.trans z2, ds, br_le L hx hy hi hj ds⟩
theorem lc_286 (L : LT T n k) {a x y m : Nat} (ha : a < k) (hx : x ≤ n) (hy : y ≤ n) (hm : m < lc_n T x y) : (m < df T x - df T (lc_z T x y) → (lc T a x y).1 286 m = bI (rf_al T (T.1 282 (tw T (df T x - df T (lc_z T x y) - 1 - m) x)) (T.1 281 (tw T (df T x - df T (lc_z T x y) - 1 - m) x)))) ∧ (∀ j0, m = df T x - df T (lc_z T x y) + 1 + j0 → (lc T a x y).1 286 m = bI (rf_al T (T.1 282 (tw T j0 y)) (nI (tw T j0 y)))) := by
  have k14 := L.1.1.2.2
  obtain ⟨u1, u2, u3⟩ := lc2_lo (g := T) (x := x) (y := y)
  obtain ⟨v1, v2⟩ := lc3_lo (g := T) (a := a) (x := x) (y := y)
  have v3 : (lc_3 T a x y).1 271 = T.1 271 := (as1_lo.1 271 (by decide) (by decide) (by decide)).trans u3
  have w1' : (lc_1 T x y).1 281 = T.1 281 := by unfold lc_1; rw [w1_ne (by decide), w1_ne (by decide)]
  have w2' : (lc_1 T x y).1 282 = T.1 282 := by unfold lc_1; rw [w1_ne (by decide), w1_ne (by decide)]
  have w3' : (lc_1 T x y).1 271 = T.1 271 := by unfold lc_1; rw [w1_ne (by decide), w1_ne (by decide)]
  refine ⟨fun h1 => ?_, fun j0 h1 => ?_⟩
  · unfold lc
    rw [gu_286 _ _ _ _ m (by omega)]
    unfold lc_3
    rw [as_286, if_neg (by omega)]
    unfold lc_2
    have := (gd_al (df T x - df T (lc_z T x y)) 0 x m (lc_1 T x y) h1).1
    rw [Nat.zero_add] at this
    rw [this, tw_same w1', w1', w2']
    unfold rf_al rm
    rw [w3']
  · have hj : j0 < df T y - df T (lc_z T x y) := by
      unfold lc_n at hm
      omega
    unfold lc
    rw [h1, gu_al _ _ _ j0 _ hj, tw_same v1, v2]
    unfold rf_al rm
    rw [v3]
/-- the class's cycle is the reference's -/
theorem cyc_eq (L : LT T n k) (hb : b ≤ 225) (C : CT h b T n) (E : TLe h b T n k) (F : FLe h b T n k) (A : ∀ a, a < k → rm T a 0 ≠ rm T a 1) {a x y : Nat} (ha : a < k) (hx : x < n) (hy : y < n) (st : h.1 (b + 7) a = rm T a 5) (w5 : rm T a 5 = 0 ∨ rm T a 5 = 1) (ex : (if rm T a 5 = 0 then rm T a 0 else rm T a 1) = nI x) (ey : (if rm T a 5 = 0 then rm T a 1 else rm T a 0) = nI y) (le : ∃ j, j < lc_n T x y ∧ rr (lc T a x y) j = rlr (lc T a x y) (lc_n T x y) 0 1000000) : (rt_cyc h b n (nI a)).1 241 2 = nI (lc_n T x y) ∧ lc_n T x y ≤ 8 ∧ (∀ m, m < lc_n T x y → (rt_cyc h b n (nI a)).1 242 m = eK ((lc T a x y).1 285 m) ∧ (rt_cyc h b n (nI a)).1 243 m = (lc T a x y).1 286 m) ∧ (rt_cyc h b n (nI a)).1 241 5 = nI (df T x - df T (lc_z T x y)) ∧ (rt_cyc h b n (nI a)).1 241 4 = rlr (lc T a x y) (lc_n T x y) 0 1000000 ∧ (rt_cyc h b n (nI a)).1 241 6 = lvx (lc T a x y) (rlr (lc T a x y) (lc_n T x y) 0 1000000) (lc_n T x y) 0 (-1) ∧ ∀ e, e < 240 → (rt_cyc h b n (nI a)).1 e = h.1 e := by
  have n7 := L.1.1.2.1
  have k14 := L.1.1.2.2
  have ca : (nI a).toNatClampNeg = a := nI_clamp (by omega)
  have efr : cy_fr h b (nI a) = cI n x := by
    unfold cy_fr
    rw [ca, st, (E.1 a ha).1, (E.1 a ha).2, cI_lt hx]
    exact ex
  have eto : cy_to h b (nI a) = cI n y := by
    unfold cy_to
    rw [ca, st, (E.1 a ha).1, (E.1 a ha).2, cI_lt hy]
    exact ey
  obtain ⟨i, j, di, dj, hi, hj, ez, ej, ds, hij⟩ := lc_z_tw L (Nat.le_of_lt hx) (Nat.le_of_lt hy)
  have N : lc_n T x y = i + 1 + j := by unfold lc_n; rw [di, dj]
  have ti := L.tu i x (Nat.le_of_lt hx) hi
  have zl : lc_z T x y ≤ n := by rw [ez]; exact ti.1
  -- where they meet
  have C1 : CT (w1 h 241 2 0) b T n := C.same (w1_ne (by omega)) (w1_ne (by omega))
  have mt := ct_meet L C1 (Nat.le_of_lt hx) (Nat.le_of_lt hy) hi hj ej ds 8 0 (Nat.zero_le _) (by omega)
  have mt : rt_meet (w1 h 241 2 0) b n (cI n y) 8 (cI n x) = cI n (lc_z T x y) := by rw [ez]; exact mt
  have e2 : cy_2 h b n (cI n x) (cI n y) = w1 (w1 h 241 2 0) 241 3 (cI n (lc_z T x y)) := by unfold cy_2; rw [mt]
  have C2 : CT (w1 (w1 h 241 2 0) 241 3 (cI n (lc_z T x y))) b T n := C1.same (w1_ne (by omega)) (w1_ne (by omega))
  have o2 : ∀ e, e ≠ 241 → (w1 (w1 h 241 2 0) 241 3 (cI n (lc_z T x y))).1 e = h.1 e := fun e he => by rw [w1_ne he, w1_ne he]
  have j2 : (w1 (w1 h 241 2 0) 241 3 (cI n (lc_z T x y))).1 241 3 = cI n (lc_z T x y) := w1_eq
  generalize w1 (w1 h 241 2 0) 241 3 (cI n (lc_z T x y)) = h2 at e2 C2 o2 j2
  -- down
  have dm : rt_dm h2 b n 0 (cI n x) = i := by
    unfold rt_dm
    rw [j2, ct_dep L C2 n x (Nat.le_of_lt hx) (L.dn (Nat.le_of_lt hx)), ct_dep L C2 n _ zl (L.dn zl), if_neg (by rw [ez]; omega)]
    exact di
  have ed : rt_desc h2 b n 0 (cI n x) = w1 (rt_ds b 0 i (cI n x) h2) 241 2 (nI i) := by
    unfold rt_desc
    rw [dm, if_pos (by omega), Nat.zero_add]
  obtain ⟨s1, s2, s3⟩ := ct_ds (c := 0) L hb (Nat.le_of_lt hx) i 0 h2 C2 (by omega)
  have s1 : ∀ m, m < i → (rt_ds b 0 i (cI n x) h2).1 242 m = eK (T.1 282 (tw T (i - 1 - m) x)) ∧ (rt_ds b 0 i (cI n x) h2).1 243 m = (if h2.1 (b + 2) (eK (T.1 282 (tw T (i - 1 - m) x))).toNatClampNeg = cI n (tw T (i - 1 - m) x) then 0 else 1) := by
    intro m hm
    have := s1 m hm
    rw [Nat.zero_add, Nat.zero_add] at this
    exact this
  have s3 : ∀ e, e ≠ 242 → e ≠ 243 → (rt_ds b 0 i (cI n x) h2).1 e = h2.1 e := s3
  generalize rt_ds b 0 i (cI n x) h2 = h3 at ed s1 s3
  -- the arc itself
  have e5 : cy_5 h b n (nI a) (cI n x) (cI n y) (if h.1 (b + 7) a = 0 then 1 else 0) = w1 (w1 (w1 (w1 (w1 h3 241 2 (nI i)) 241 5 (nI i)) 242 i (nI a)) 243 i (if rm T a 5 = 0 then 1 else 0)) 241 2 (nI (i + 1)) := by
    unfold cy_5
    rw [e2, ed]
    have q1 : (w1 h3 241 2 (nI i)).1 241 2 = nI i := w1_eq
    rw [q1]
    have q2 : (w1 (w1 h3 241 2 (nI i)) 241 5 (nI i)).1 241 2 = nI i := by rw [w1_at (by decide), w1_eq]
    unfold rt_add
    rw [q2, if_neg (show ¬ (8 : Int32) ≤ nI i from nI_ge (a := i) (b := 8) (by omega) (by omega)), nI_clamp (by omega), nI_1, st]
    have nr : vp_nar .boolean (if rm T a 5 = 0 then (1 : Int32) else 0) = (if rm T a 5 = 0 then 1 else 0) := by split <;> rfl
    rw [nr]
  have p5 : ∀ m, m < i → (w1 (w1 (w1 (w1 (w1 h3 241 2 (nI i)) 241 5 (nI i)) 242 i (nI a)) 243 i (if rm T a 5 = 0 then 1 else 0)) 241 2 (nI (i + 1))).1 242 m = h3.1 242 m ∧ (w1 (w1 (w1 (w1 (w1 h3 241 2 (nI i)) 241 5 (nI i)) 242 i (nI a)) 243 i (if rm T a 5 = 0 then 1 else 0)) 241 2 (nI (i + 1))).1 243 m = h3.1 243 m := fun m hm => ⟨by rw [w1_ne (by decide), w1_ne (by decide), w1_at (by omega), w1_ne (by decide), w1_ne (by decide)], by rw [w1_ne (by decide), w1_at (by omega), w1_ne (by decide), w1_ne (by decide), w1_ne (by decide)]⟩
  have p6 : (w1 (w1 (w1 (w1 (w1 h3 241 2 (nI i)) 241 5 (nI i)) 242 i (nI a)) 243 i (if rm T a 5 = 0 then 1 else 0)) 241 2 (nI (i + 1))).1 242 i = nI a ∧ (w1 (w1 (w1 (w1 (w1 h3 241 2 (nI i)) 241 5 (nI i)) 242 i (nI a)) 243 i (if rm T a 5 = 0 then 1 else 0)) 241 2 (nI (i + 1))).1 243 i = (if rm T a 5 = 0 then 1 else 0) := ⟨by rw [w1_ne (by decide), w1_ne (by decide), w1_eq], by rw [w1_ne (by decide), w1_eq]⟩
  have p7 : (w1 (w1 (w1 (w1 (w1 h3 241 2 (nI i)) 241 5 (nI i)) 242 i (nI a)) 243 i (if rm T a 5 = 0 then 1 else 0)) 241 2 (nI (i + 1))).1 241 2 = nI (i + 1) := w1_eq
  have p8 : (w1 (w1 (w1 (w1 (w1 h3 241 2 (nI i)) 241 5 (nI i)) 242 i (nI a)) 243 i (if rm T a 5 = 0 then 1 else 0)) 241 2 (nI (i + 1))).1 241 3 = cI n (lc_z T x y) := by rw [w1_at (by decide), w1_ne (by decide), w1_ne (by decide), w1_at (by decide), w1_at (by decide), s3 241 (by decide) (by decide)]; exact j2
  have p9 : (w1 (w1 (w1 (w1 (w1 h3 241 2 (nI i)) 241 5 (nI i)) 242 i (nI a)) 243 i (if rm T a 5 = 0 then 1 else 0)) 241 2 (nI (i + 1))).1 241 5 = nI i := by rw [w1_at (by decide), w1_ne (by decide), w1_ne (by decide), w1_eq]
  have p0 : ∀ e, e < 240 → (w1 (w1 (w1 (w1 (w1 h3 241 2 (nI i)) 241 5 (nI i)) 242 i (nI a)) 243 i (if rm T a 5 = 0 then 1 else 0)) 241 2 (nI (i + 1))).1 e = h.1 e := fun e he => by rw [w1_ne (by omega), w1_ne (by omega), w1_ne (by omega), w1_ne (by omega), w1_ne (by omega), s3 e (by omega) (by omega), o2 e (by omega)]
  generalize w1 (w1 (w1 (w1 (w1 h3 241 2 (nI i)) 241 5 (nI i)) 242 i (nI a)) 243 i (if rm T a 5 = 0 then 1 else 0)) 241 2 (nI (i + 1)) = h5 at e5 p5 p6 p7 p8 p9 p0
  -- up
  have C5 : CT h5 b T n := C.same (p0 _ (by omega)) (p0 _ (by omega))
  obtain ⟨r1, r2, r3, r4, r5⟩ := ct_clb L hb (Nat.le_of_lt hy) zl 8 0 j (i + 1) h5 C5 p8 p7 (by omega) (by omega) (by omega) (by rw [Nat.zero_add, ← ej, ez])
  have r1 : ∀ m, m < j → (rt_clb b 8 (cI n y) h5).1 242 (i + 1 + m) = eK (T.1 282 (tw T m y)) ∧ (rt_clb b 8 (cI n y) h5).1 243 (i + 1 + m) = (if h5.1 (b + 2) (eK (T.1 282 (tw T m y))).toNatClampNeg = cI n (tw T m y) then 1 else 0) := by
    intro m hm
    have := r1 m hm
    rw [Nat.zero_add] at this
    exact this
  have r2 : ∀ m, m < i + 1 → (rt_clb b 8 (cI n y) h5).1 242 m = h5.1 242 m ∧ (rt_clb b 8 (cI n y) h5).1 243 m = h5.1 243 m := r2
  have r3 : (rt_clb b 8 (cI n y) h5).1 241 2 = nI (i + 1 + j) := r3
  have r4 : ∀ q, q ≠ 2 → (rt_clb b 8 (cI n y) h5).1 241 q = h5.1 241 q := r4
  have r5 : ∀ e, e ≠ 241 → e ≠ 242 → e ≠ 243 → (rt_clb b 8 (cI n y) h5).1 e = h5.1 e := r5
  have e6 : cy_6 h b n (nI a) (cI n x) (cI n y) (if h.1 (b + 7) a = 0 then 1 else 0) = rt_clb b 8 (cI n y) h5 := by unfold cy_6; rw [e5]
  generalize rt_clb b 8 (cI n y) h5 = h6 at e6 r1 r2 r3 r4 r5
  have t6 : ∀ e, e < 240 → h6.1 e = h.1 e := fun e he => (r5 e (by omega) (by omega) (by omega)).trans (p0 e he)
  -- the rows are alike
  have row : ∀ m, m < lc_n T x y → h6.1 242 m = eK ((lc T a x y).1 285 m) ∧ h6.1 243 m = (lc T a x y).1 286 m := by
    intro m hm
    have P := lc_pos (g := T) (a := a) hm
    have Q := lc_286 L ha (Nat.le_of_lt hx) (Nat.le_of_lt hy) hm
    rw [di] at P Q
    rcases Nat.lt_trichotomy m i with z | z | z
    · obtain ⟨k1, k2⟩ := r2 m (by omega)
      obtain ⟨k3, k4⟩ := p5 m z
      obtain ⟨k5, k6⟩ := s1 m z
      have hp : tw T (i - 1 - m) x < n := tw_lt L (Nat.le_of_lt hx) (by omega)
      refine ⟨?_, ?_⟩
      · rw [k1, k3, k5]
        rcases P with ⟨-, P⟩ | ⟨P, -⟩ | ⟨j0, P, -, -⟩
        · rw [P]
        · omega
        · omega
      · rw [k2, k4, k6, Q.1 z, al_dn L A E hp, o2 (b + 2) (by omega)]
    · subst z
      obtain ⟨k1, k2⟩ := r2 m (by omega)
      refine ⟨?_, ?_⟩
      · rw [k1, p6.1]
        rcases P with ⟨P, -⟩ | ⟨-, P⟩ | ⟨j0, P, -, -⟩
        · omega
        · rw [P, eK_a (by omega)]
        · omega
      · rw [k2, p6.2]
        have q := lc_al (g := T) (a := a) (x := x) (y := y) (by omega)
        rw [di] at q
        rw [q]
        have ne := A a ha
        unfold bI
        rcases w5 with w | w
        · rw [if_pos w] at ex
          rw [if_pos w, ex]
          simp
        · have w' : ¬ rm T a 5 = 0 := by rw [w]; decide
          rw [if_neg w'] at ex
          rw [if_neg w', ← ex]
          simp [ne]
    · obtain ⟨m', rfl⟩ : ∃ m', m = i + 1 + m' := ⟨m - i - 1, by omega⟩
      obtain ⟨k1, k2⟩ := r1 m' (by omega)
      have hp : tw T m' y < n := tw_lt L (Nat.le_of_lt hy) (by omega)
      refine ⟨?_, ?_⟩
      · rw [k1]
        rcases P with ⟨P, -⟩ | ⟨P, -⟩ | ⟨j0, P, -, P2⟩
        · omega
        · omega
        · have : j0 = m' := by omega
          rw [P2, this]
      · rw [k2, Q.2 m' rfl, al_up L E hp, p0 (b + 2) (by omega)]
  have roomE : ∀ m, m < lc_n T x y → nt_room h6 b (h6.1 242 m) (h6.1 243 m) = rr (lc T a x y) m := by
    intro m hm
    rw [(row m hm).1, (row m hm).2]
    have F6 : FLe h6 b T n k := ⟨fun a ha => by rw [t6 _ (by omega), t6 _ (by omega)]; exact F.1 a ha, fun p hp => by rw [t6 _ (by omega)]; exact F.2 p hp⟩
    exact room_eq n7 k14 F6 (lc_271 L ha (Nat.le_of_lt hx) (Nat.le_of_lt hy)) (lc_ed L ha (Nat.le_of_lt hx) (Nat.le_of_lt hy) hm)
  have c6 : rt_cnt h6 = lc_n T x y := by
    unfold rt_cnt
    rw [r3, nI_clamp (by omega), N]
  have lr := lr_eq roomE (lc_n T x y) 0 1000000 (by omega)
  have er : rt_cyc h b n (nI a) = cy_lv b (lc_n T x y) 0 (w1 (w1 h6 241 4 (rlr (lc T a x y) (lc_n T x y) 0 1000000)) 241 6 (nI i)) := by
    unfold rt_cyc
    rw [ca, efr, eto, e6, c6]
    unfold cy_7
    rw [c6, lr, r4 5 (by decide), p9]
  have o7 : ∀ e, e ≠ 241 → (w1 (w1 h6 241 4 (rlr (lc T a x y) (lc_n T x y) 0 1000000)) 241 6 (nI i)).1 e = h6.1 e := fun e he => by rw [w1_ne he, w1_ne he]
  obtain ⟨q1, q2, q3⟩ := lv_eq (R := lc T a x y) (c := lc_n T x y) (dl := rlr (lc T a x y) (lc_n T x y) 0 1000000) hb (lc_n T x y) 0 (w1 (w1 h6 241 4 (rlr (lc T a x y) (lc_n T x y) 0 1000000)) 241 6 (nI i)) (by omega) (by rw [w1_at (by decide), w1_eq]) (fun m hm => by
    rw [o7 242 (by decide), o7 243 (by decide)]
    have := roomE m hm
    unfold nt_room at this ⊢
    rw [o7 (b + 6) (by omega), o7 (b + 4) (by omega)]
    exact this)
  rw [er]
  refine ⟨?_, by omega, fun m hm => ?_, ?_, ?_, ?_, fun e he => ?_⟩
  · rw [q2 2 (by decide), w1_at (by decide), w1_at (by decide), r3, N]
  · rw [q3 242 (by decide), q3 243 (by decide), o7 242 (by decide), o7 243 (by decide)]
    exact row m hm
  · rw [q2 5 (by decide), w1_at (by decide), w1_at (by decide), r4 5 (by decide), p9, di]
  · rw [q2 4 (by decide), w1_at (by decide), w1_eq]
  · rw [q1, w1_eq]
    obtain ⟨jj, h1, h2⟩ := le
    exact lvx_st _ 0 _ _ (Or.inr ⟨jj, Nat.zero_le _, by omega, h2⟩)
  · rw [q3 e (by omega), o7 e (by omega), t6 e he]
end RCC
