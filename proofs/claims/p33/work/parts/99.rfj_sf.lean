/-! ===== strongly feasible trees stay so ===== -/
section VIS
variable {T T2 : LH} {n k M : Nat}
/-- at the edge by which p hangs there is room upward -/
def SFT (T : LH) (n k : Nat) : Prop := ∀ p, p < n → (∀ b, b < k → T.1 282 p = nI b → (rm T b 0 = nI p → rm T b 4 < rm T b 2) ∧ (rm T b 1 = nI p → ¬ rm T b 4 ≤ 0)) ∧ (T.1 282 p = nI (100 + p) → T.1 271 (65 + p) = 0 → T.1 271 (58 + p) = 1)
theorem tn3_ab (L : LT T n k) (A : AG T n k) (D : DB T n M) (hM : M ≤ 20000000) {a x y dl i b : Nat} (ha : a < k) (hx : x ≤ n) (hy : y ≤ n) (ho : rf_off T a = true) (edl : rlr (lc T a x y) (lc_n T x y) 0 1000000 = nI dl) (all : ∀ i r, i < lc_n T x y → r < 2 ^ 31 → rr (lc T a x y) i = nI r → dl ≤ r) (hb : b < k) (hi : i < lc_n T x y) (ei : (lc T a x y).1 285 i = nI b) : ∃ v bd, v ≤ bd ∧ bd < 100 ∧ rm T b 4 = nI v ∧ rm T b 2 = nI bd ∧ rr (lc T a x y) i = nI (if (lc T a x y).1 286 i = 0 then v else bd - v) ∧ dl ≤ (if (lc T a x y).1 286 i = 0 then v else bd - v) ∧ rm (tn3 T a x y) b 4 = nI (if (lc T a x y).1 286 i = 0 then v - dl else v + dl) := by
  have hn := L.1.1
  have e271 := lc_271 L ha hx hy (a := a) (x := x) (y := y)
  have hinj : ∀ m1 m2, m1 < lc_n T x y → m2 < lc_n T x y → fx ((lc T a x y).1 285 m1) = fx ((lc T a x y).1 285 m2) → m1 = m2 := fun m1 m2 q1 q2 e => lc_inj L ha hx hy ho q1 q2 (fx_inj hn.2.1 hn.2.2 (lc_ed L ha hx hy q1) (lc_ed L ha hx hy q2) e)
  have fi : fx ((lc T a x y).1 285 i) = 72 + 7 * b + 4 := by rw [ei]; exact fx_a (by omega)
  have val := fls_at (dl := nI dl) (m := i) (lc_n T x y) 0 (lc T a x y) (Nat.zero_le _) (by omega) (fun m2 _ q2 e => hinj m2 i (by omega) hi e)
  rw [fi, e271] at val
  have val2 : rm (tn3 T a x y) b 4 = rm T b 4 + (if (lc T a x y).1 286 i = 0 then -nI dl else nI dl) := by
    unfold tn3
    rw [edl]
    exact val
  rcases lc_room L A D hM ha hx hy hi with ⟨b2, hb2, q0, v, bd, q1, q2, q3, q4, q5⟩ | ⟨p, hp, q0, -⟩
  · have : b2 = b := (nI_eq (by omega) (by omega)).mp (q0.symm.trans ei)
    subst this
    have le := all i _ hi (by split <;> omega) q5
    refine ⟨v, bd, q1, q2, q3, q4, q5, le, ?_⟩
    rw [val2, q3]
    by_cases c : (lc T a x y).1 286 i = 0
    · rw [if_pos c] at le ⊢
      rw [if_pos c, nI_subneg le]
    · rw [if_neg c, if_neg c, nI_add]
  · have := (nI_eq (by omega) (by omega)).mp (q0.symm.trans ei)
    omega
theorem tn3_pb (L : LT T n k) (A : AG T n k) (D : DB T n M) (hM : M ≤ 20000000) {a x y dl i p : Nat} (ha : a < k) (hx : x ≤ n) (hy : y ≤ n) (ho : rf_off T a = true) (hdl : dl ≤ 99) (edl : rlr (lc T a x y) (lc_n T x y) 0 1000000 = nI dl) (all : ∀ i r, i < lc_n T x y → r < 2 ^ 31 → rr (lc T a x y) i = nI r → dl ≤ r) (hp : p < n) (hi : i < lc_n T x y) (ei : (lc T a x y).1 285 i = nI (100 + p)) : ∃ v, v ≤ 2000 + 99 * M ∧ T.1 271 (65 + p) = nI v ∧ rr (lc T a x y) i = nI (if (lc T a x y).1 286 i = 0 then v else 1000000) ∧ dl ≤ (if (lc T a x y).1 286 i = 0 then v else 1000000) ∧ (tn3 T a x y).1 271 (65 + p) = nI (if (lc T a x y).1 286 i = 0 then v - dl else v + dl) := by
  have hn := L.1.1
  have e271 := lc_271 L ha hx hy (a := a) (x := x) (y := y)
  have hinj : ∀ m1 m2, m1 < lc_n T x y → m2 < lc_n T x y → fx ((lc T a x y).1 285 m1) = fx ((lc T a x y).1 285 m2) → m1 = m2 := fun m1 m2 q1 q2 e => lc_inj L ha hx hy ho q1 q2 (fx_inj hn.2.1 hn.2.2 (lc_ed L ha hx hy q1) (lc_ed L ha hx hy q2) e)
  have fi : fx ((lc T a x y).1 285 i) = 65 + p := by rw [ei]; exact fx_p (by omega)
  have val := fls_at (dl := nI dl) (m := i) (lc_n T x y) 0 (lc T a x y) (Nat.zero_le _) (by omega) (fun m2 _ q2 e => hinj m2 i (by omega) hi e)
  rw [fi, e271] at val
  have val2 : (tn3 T a x y).1 271 (65 + p) = T.1 271 (65 + p) + (if (lc T a x y).1 286 i = 0 then -nI dl else nI dl) := by
    unfold tn3
    rw [edl]
    exact val
  rcases lc_room L A D hM ha hx hy hi with ⟨b2, hb2, q0, -⟩ | ⟨p2, hp2, q0, v, q1, q2, q3⟩
  · have := (nI_eq (by omega) (by omega)).mp (q0.symm.trans ei)
    omega
  · have : p2 = p := by
      have := (nI_eq (by omega) (by omega)).mp (q0.symm.trans ei)
      omega
    subst this
    have le := all i _ hi (by split <;> omega) q3
    refine ⟨v, q1, q2, q3, le, ?_⟩
    rw [val2, q2]
    by_cases c : (lc T a x y).1 286 i = 0
    · rw [if_pos c] at le ⊢
      rw [if_pos c, nI_subneg le]
    · rw [if_neg c, if_neg c, nI_add]
theorem tn3_off (L : LT T n k) {a x y : Nat} (ha : a < k) (hx : x ≤ n) (hy : y ≤ n) {id : Int32} (D : ED n k id) (off : ∀ i, i < lc_n T x y → (lc T a x y).1 285 i ≠ id) : (tn3 T a x y).1 271 (fx id) = T.1 271 (fx id) := by
  have hn := L.1.1
  have e271 := lc_271 L ha hx hy (a := a) (x := x) (y := y)
  unfold tn3
  rw [fls_out _ _ _ (fun m _ hm z => off m (by omega) (fx_inj hn.2.1 hn.2.2 (lc_ed L ha hx hy (by omega)) D z)), e271]
theorem RM.te (H : RM T n k) {b : Nat} (hb : b < k) : rm T b 0 = nI (tlv T b) ∧ rm T b 1 = nI (hdv T b) ∧ tlv T b < n ∧ hdv T b < n := by
  have hn := H.1
  obtain ⟨p, q, hp, hq, e1, e2⟩ := H.ends hb
  unfold tlv hdv
  rw [e1, e2, nI_clamp (by omega), nI_clamp (by omega)]
  exact ⟨rfl, rfl, hp, hq⟩
/-- a loan in the cycle hangs -/
theorem lc_lent (L : LT T n k) {a x y m q : Nat} (ha : a < k) (hx : x ≤ n) (hy : y ≤ n) (hm : m < lc_n T x y) (hq : q < n) (e : (lc T a x y).1 285 m = nI (100 + q)) : T.1 271 (51 + q) = 1 := by
  have n7 := L.1.1.2.1
  have k14 := L.1.1.2.2
  have one : ∀ w, w < n → T.1 282 w = nI (100 + q) → T.1 271 (51 + q) = 1 := by
    intro w hw ew
    rcases (L.at hw).2.2.2.2.2 with ⟨-, e2, e3⟩ | ⟨-, b, hb, e2, -, -⟩
    · rw [ew] at e2
      have : 100 + q = 100 + w := (nI_eq (by omega) (by omega)).mp e2
      rw [show q = w by omega]
      exact e3
    · rw [ew] at e2
      have := (nI_eq (by omega) (by omega)).mp e2
      omega
  obtain ⟨I, J, eI, eJ, hI, hJ, -, -⟩ := lc_branch L hx hy
  have pos := lc_pos (g := T) (a := a) (x := x) (y := y) hm
  rw [eI, eJ] at pos
  rcases pos with ⟨p1, p2⟩ | ⟨p1, p2⟩ | ⟨j0, p1, p2, p3⟩
  · have tq := L.tu (I - 1 - m) x hx (by omega)
    exact one _ (L.lt tq.1 (by omega)) (p2.symm.trans e)
  · have := (nI_eq (by omega) (by omega)).mp (p2.symm.trans e)
    omega
  · have tq := L.tu j0 y hy (by omega)
    exact one _ (L.lt tq.1 (by omega)) (p3.symm.trans e)
/-- the way above the joint is off the cycle -/
theorem lc_above (L : LT T n k) {a x y j m : Nat} (ha : a < k) (hx : x ≤ n) (hy : y ≤ n) (ho : rf_off T a = true) (hm : m < lc_n T x y) (hj : j < df T (nu T x y 0)) : T.1 282 (tw T j (nu T x y 0)) ≠ (lc T a x y).1 285 m := by
  obtain ⟨I, J, eI, eJ, hI, hJ, eq, -⟩ := lc_branch L hx hy
  have pos := lc_pos (g := T) (a := a) (x := x) (y := y) hm
  rw [eI, eJ] at pos
  have z0 : nu T x y 0 = tw T I x := by
    unfold nu
    rw [eI, if_pos (by omega)]
    rfl
  have zx := L.tu I x hx hI
  have zy := L.tu J y hy hJ
  rw [z0] at hj ⊢
  have zw := L.tu j (tw T I x) zx.1 (by omega)
  have hw := L.lt zw.1 (by omega)
  rw [← eq] at zy
  rcases pos with ⟨p1, p2⟩ | ⟨p1, p2⟩ | ⟨j0, p1, p2, p3⟩
  · have tq := L.tu (I - 1 - m) x hx (by omega)
    intro z
    have := by_inj L hw (L.lt tq.1 (by omega)) (z.trans p2)
    rw [this] at zw
    omega
  · rw [p2]
    exact by_nea L ha ho hw
  · have tq := L.tu j0 y hy (by omega)
    intro z
    have := by_inj L hw (L.lt tq.1 (by omega)) (z.trans p3)
    rw [this] at zw
    omega
end VIS
