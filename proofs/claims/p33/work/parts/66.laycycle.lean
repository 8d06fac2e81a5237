/-! ===== the reference lays the cycle of an arc ===== -/
section RL
variable {g : LH} {n k d : Nat}
def lc_z (g : LH) (x y : Nat) : Nat := mt g (df g x + df g y) x y
def lc_1 (g : LH) (x y : Nat) : LH := w1 (w1 g 270 31 (nI (lc_z g x y))) 270 30 0
def lc_2 (g : LH) (x y : Nat) : LH := gd 0 (df g x - df g (lc_z g x y)) x (lc_1 g x y)
def lc_3 (g : LH) (a x y : Nat) : LH := as1 (lc_2 g x y) (df g x - df g (lc_z g x y)) (nI a) (nI x)
def lc (g : LH) (a x y : Nat) : LH := gu (df g x - df g (lc_z g x y) + 1) (df g y - df g (lc_z g x y)) y (lc_3 g a x y)
/-- how many steps it has -/
def lc_n (g : LH) (x y : Nat) : Nat := df g x - df g (lc_z g x y) + 1 + (df g y - df g (lc_z g x y))
/-- only the cycle and its joint have changed -/
def Fj (h g : LH) : Prop := (∀ e, e ≠ 285 → e ≠ 286 → e ≠ 270 → g.1 e = h.1 e) ∧ g.2 = h.2 ∧ (∀ i, i ≠ 30 → i ≠ 31 → g.1 270 i = h.1 270 i)
theorem Fj.lt {h : LH} (F : Fj h g) (T : LT h n k) : LT g n k := T.same (F.1 271 (by decide) (by decide) (by decide)) (F.1 281 (by decide) (by decide) (by decide)) (F.1 282 (by decide) (by decide) (by decide)) (F.1 283 (by decide) (by decide) (by decide))
theorem lc_ok (T : LT g n k) {a x y : Nat} (ha : a < k) (hx : x ≤ n) (hy : y ≤ n) : CY (lc g a x y) (lc_n g x y) ∧ Fj g (lc g a x y) ∧ (∀ {d : Nat}, tf_Rt (d + 4) 40 [.ref 270, .int (nI (lc_z g x y)), .int (nI x)] (lc_1 g x y) tf_z (lc_2 g x y)) ∧ (∀ {d : Nat}, tf_Rt (d + 3) 38 [.ref 270, .int (nI a), .int (nI x)] (lc_2 g x y) tf_z (lc_3 g a x y)) ∧ (∀ {d : Nat}, tf_Rt (d + 4) 41 [.ref 270, .int (nI y), .int (nI (lc_z g x y))] (lc_3 g a x y) tf_z (lc g a x y)) ∧ (lc_3 g a x y).1 270 31 = nI (lc_z g x y) := by
  have hn := T.1.1
  obtain ⟨i, j, hi, hj, ei, ej, -⟩ := mt_ok T _ x y hx hy (Nat.le_refl _)
  have ti := T.tu i x hx hi
  have tj := T.tu j y hy hj
  have ez : lc_z g x y = tw g i x := ei
  have ez2 : lc_z g x y = tw g j y := ej
  rw [← ez] at ti
  rw [← ez2] at tj
  have dx := (T.dp hx).2
  have dy := (T.dp hy).2
  have e1 : df g x - df g (lc_z g x y) = i := by omega
  have e2 : df g y - df g (lc_z g x y) = j := by omega
  unfold lc lc_n lc_3 lc_2
  rw [e1, e2]
  generalize hz : lc_z g x y = z at *
  have F1 : Fj g (lc_1 g x y) := ⟨fun e _ _ h3 => by unfold lc_1; rw [w1_ne h3, w1_ne h3], rfl, fun i h1 h2 => by unfold lc_1; rw [w1_at h1, w1_at h2]⟩
  have T1 : LT (lc_1 g x y) n k := F1.lt T
  have Y1 : CY (lc_1 g x y) 0 := ⟨by unfold lc_1; rw [w1_eq]; rfl, by omega, fun i hi => absurd hi (by omega)⟩
  have J1 : (lc_1 g x y).1 270 31 = nI z := by unfold lc_1; rw [w1_at (by decide), w1_eq, hz]
  have q1 : (lc_1 g x y).1 281 = g.1 281 := F1.1 281 (by decide) (by decide) (by decide)
  have q3 : (lc_1 g x y).1 283 = g.1 283 := F1.1 283 (by decide) (by decide) (by decide)
  generalize lc_1 g x y = g1 at F1 T1 Y1 J1 q1 q3 ⊢
  have i1 : i ≤ df g1 x := by rw [df_same q3]; exact hi
  have z1 : tw g1 i x = z := by rw [tw_same q1]; exact ez.symm
  obtain ⟨Y2, F2⟩ := gd_ok i 0 x g1 T1 Y1 hx i1 (by omega)
  have s2 : ∀ {d : Nat}, tf_Rt (d + 4) 40 [.ref 270, .int (nI z), .int (nI x)] g1 tf_z (gd 0 i x g1) := fun {d} => sx_gd (d := d) T1 Y1 hx i1 (by omega) z1
  rw [Nat.zero_add] at Y2
  generalize gd 0 i x g1 = g2 at Y2 F2 s2 ⊢
  have T2 : LT g2 n k := F2.lt T1
  have Va : VI (nI a) := Or.inl ⟨a, by omega, rfl⟩
  have s3 : ∀ {d : Nat}, tf_Rt (d + 3) 38 [.ref 270, .int (nI a), .int (nI x)] g2 tf_z (as1 g2 i (nI a) (nI x)) := fun {d} => sx_as (d := d) Y2 (by omega) Va (nI x)
  have Y3 := Y2.as1 (fr := nI x) (by omega) Va
  have F3 : Fy g2 (as1 g2 i (nI a) (nI x)) := as1_lo
  generalize as1 g2 i (nI a) (nI x) = g3 at Y3 F3 s3 ⊢
  have T3 : LT g3 n k := F3.lt T2
  have F13 := F2.tr F3
  have p1 : g3.1 281 = g.1 281 := (F13.1 281 (by decide) (by decide) (by decide)).trans q1
  have p3 : g3.1 283 = g.1 283 := (F13.1 283 (by decide) (by decide) (by decide)).trans q3
  have j3 : j ≤ df g3 y := by rw [df_same p3]; exact hj
  have z3 : tw g3 j y = z := by rw [tw_same p1]; exact ez2.symm
  obtain ⟨Y4, F4⟩ := gu_ok j (i + 1) y g3 T3 Y3 hy j3 (by omega)
  have F14 := F13.tr F4
  refine ⟨Y4, ⟨fun e h1 h2 h3 => (F14.1 e h1 h2 h3).trans (F1.1 e h1 h2 h3), F14.2.1.trans F1.2.1, fun i h1 h2 => (F14.2.2 i h1).trans (F1.2.2 i h1 h2)⟩, s2, s3, fun {d} => sx_gu (d := d) T3 Y3 hy j3 (by omega) z3, by rw [F13.2.2 31 (by decide)]; exact J1⟩
theorem sx_lc (T : LT g n k) {a x y : Nat} (ha : a < k) (hx : x < n) (hy : y < n) (ex : (if rm g a 5 = 0 then rm g a 0 else rm g a 1) = nI x) (ey : (if rm g a 5 = 0 then rm g a 1 else rm g a 0) = nI y) : tf_Rt (d + 5) 44 [.ref 270, .int (nI a)] g tf_z (lc g a x y) := by
  intro Q q
  have hn := T.1.1
  have h14 : a < 14 := by omega
  obtain ⟨-, -, s2, s3, s4, J⟩ := lc_ok T ha (show x ≤ n by omega) (show y ≤ n by omega)
  have s0 := sx_of (h := g) (d := d + 3) (x := nI a) (y := 0) a 0 rfl rfl h14 (by omega)
  have s1 := sx_of (h := g) (d := d + 3) (x := nI a) (y := 1) a 1 rfl rfl h14 (by omega)
  have s5 := sx_of (h := g) (d := d + 3) (x := nI a) (y := 5) a 5 rfl rfl h14 (by omega)
  have sm := sx_mt (d := d + 3) T (show x ≤ n by omega) (show y ≤ n by omega)
  have e44 : ∀ x2 : Int32, lx_X9_laysCycle 298 (tf_Cd 298 (d + 4)) Q 44 [.ref 270, .int (nI a), .int x2, .int (nI x), tf_z] [.int (nI y)] g := by
    intro x2
    refine go_X9_laysCycle_44 (by decide) (sm _ (go_X9_laysCycle_54 (by decide) ?_))
    have r31 : (tf_up (tf_up g.1 270 31 (nI (mt g (df g x + df g y) x y))) 270 30 0) 270 31 = nI (lc_z g x y) := by
      have h1 := w1_at (h := w1 g 270 31 (nI (lc_z g x y))) (c := 270) (i := 30) (j := 31) (v := 0) (by decide)
      have h2 : (w1 g 270 31 (nI (lc_z g x y))).1 270 31 = nI (lc_z g x y) := w1_eq
      exact h1.trans h2
    rw [r31]
    refine s2 (d := d) _ (go_X9_laysCycle_71 (by decide) (s3 (d := d + 1) _ (go_X9_laysCycle_77 (by decide) ?_)))
    rw [J]
    exact s4 (d := d) _ (go_X9_laysCycle_87 (by decide) q)
  refine en_X9_laysCycle (by decide) (go_X9_laysCycle_0 (by decide) (s5 _ (go_X9_laysCycle_6 (by decide) ⟨fun c => go_X9_laysCycle_14 (by decide) ⟨fun z => absurd z (by decide), fun _ => go_X9_laysCycle_26 (by decide) ?_⟩, fun c => go_X9_laysCycle_13 (by decide) (go_X9_laysCycle_14 (by decide) ⟨fun _ => go_X9_laysCycle_25 (by decide) (go_X9_laysCycle_26 (by decide) ?_), fun z => absurd rfl z⟩)⟩)))
  · rw [if_pos c] at ex ey
    rw [ex] at s0
    rw [ey] at s1
    exact s0 _ (go_X9_laysCycle_29 (by decide) ⟨fun z => absurd z (by decide), fun _ => go_X9_laysCycle_41 (by decide) (s1 _ (e44 _))⟩)
  · rw [if_neg c] at ex ey
    rw [ex] at s1
    rw [ey] at s0
    exact s1 _ (go_X9_laysCycle_29 (by decide) ⟨fun _ => go_X9_laysCycle_40 (by decide) (go_X9_laysCycle_41 (by decide) (s0 _ (e44 _))), fun z => absurd rfl z⟩)
end RL
