/-! ===== the class's tree is the reference's laid tree: ways ===== -/
/-- a node of the reference, as the class names it -/
def cI (n q : Nat) : Int32 := if q = n then 7 else nI q
/-- an edge of the reference, as the class names it -/
def eK (id : Int32) : Int32 := if rf_loan id = true then id - 86 else id
section RAT
variable {h g T : LH} {b n k : Nat}
theorem cI_7 {q : Nat} (hn : n ≤ 7) (hq : q ≤ n) : cI n q = 7 ↔ q = n := by
  unfold cI
  split
  · rename_i e
    exact ⟨fun _ => e, fun _ => rfl⟩
  · rename_i e
    exact ⟨fun z => absurd ((nI_eq (a := q) (b := 7) (by omega) (by omega)).mp z) (by omega), fun z => absurd z e⟩
theorem cI_inj {p q : Nat} (hn : n ≤ 7) (hp : p ≤ n) (hq : q ≤ n) : cI n p = cI n q ↔ p = q := by
  constructor
  · intro e
    by_cases a : q = n
    · rw [(cI_7 hn hq).mpr a] at e
      exact ((cI_7 hn hp).mp e).trans a.symm
    · by_cases c : p = n
      · rw [(cI_7 hn hp).mpr c] at e
        exact absurd ((cI_7 hn hq).mp e.symm) a
      · unfold cI at e
        rw [if_neg a, if_neg c] at e
        exact (nI_eq (by omega) (by omega)).mp e
  · rintro rfl
    rfl
theorem cI_lt {q : Nat} (hq : q < n) : cI n q = nI q := by
  unfold cI
  rw [if_neg (by omega)]
theorem cI_cl {q : Nat} (hn : n ≤ 7) (hq : q < n) : (cI n q).toNatClampNeg = q := by
  rw [cI_lt hq, nI_clamp (by omega)]
theorem cI_in {q : Nat} (hn : n ≤ 7) (hq : q ≤ n) : vp_in (cI n q) 8 := by
  unfold cI
  split
  · exact vi_of (j := 7) (by omega) (by omega)
  · exact vi_of (by omega) (by omega)
theorem eK_a {a : Nat} (ha : a < 14) : eK (nI a) = nI a := by
  unfold eK
  rw [if_neg (by rw [loan_a ha]; decide)]
theorem eK_p {p : Nat} (hp : p < 7) : eK (nI (100 + p)) = nI (14 + p) := by
  unfold eK
  rw [if_pos (loan_p hp)]
  have : ∀ p, p < 7 → nI (100 + p) - 86 = nI (14 + p) := by decide +kernel
  exact this p hp
/-- the class's tree -/
def CT (h : LH) (b : Nat) (T : LH) (n : Nat) : Prop := ∀ p, p < n → h.1 (b + 8) p = cI n (uf T p) ∧ h.1 (b + 9) p = eK (T.1 282 p)
theorem CT.same (C : CT h b T n) (e8 : g.1 (b + 8) = h.1 (b + 8)) (e9 : g.1 (b + 9) = h.1 (b + 9)) : CT g b T n := fun p hp => by
  rw [e8, e9]
  exact C p hp
theorem LT.dn (L : LT T n k) {p : Nat} (hp : p ≤ n) : df T p ≤ n := by
  rcases Nat.lt_or_ge p n with z | z
  · rcases L.2.1.2 p z with y | ⟨q, e, he, hs⟩
    · exact absurd y (L.2.2 p z)
    · have := ct_le (g := T) n
      have e2 : df T p = e + 1 := by
        unfold df
        rw [hs.2.2.2.1, nI_clamp (by have := L.1.1; omega)]
      omega
  · have : p = n := by omega
    rw [this, L.rt.1]
    omega
theorem LT.up (L : LT T n k) {p : Nat} (hp : p < n) : uf T p ≤ n ∧ df T p = df T (uf T p) + 1 := ⟨(L.at hp).2.1, (L.at hp).2.2.1⟩
theorem LT.d0 (L : LT T n k) {p : Nat} (hp : p ≤ n) : df T p = 0 ↔ p = n := by
  constructor
  · intro z
    rcases Nat.lt_or_ge p n with y | y
    · have := (L.up y).2
      omega
    · omega
  · rintro rfl
    exact L.rt.1
theorem tw_s : ∀ (j x : Nat), tw T (j + 1) x = uf T (tw T j x)
  | 0, x => rfl
  | j + 1, x => by
    show tw T (j + 1) (uf T x) = uf T (tw T j (uf T x))
    exact tw_s j (uf T x)
theorem ct_dep (L : LT T n k) (C : CT h b T n) : ∀ (f x : Nat), x ≤ n → df T x ≤ f → nt_dep h b f (cI n x) = df T x
  | 0, x, hx, hf => by
    show 0 = df T x
    omega
  | f + 1, x, hx, hf => by
    rw [nt_dep]
    by_cases z : x = n
    · rw [if_pos ((cI_7 L.1.1.2.1 hx).mpr z), (L.d0 hx).mpr z]
    · have hp : x < n := by omega
      rw [if_neg (fun y => z ((cI_7 L.1.1.2.1 hx).mp y)), cI_cl L.1.1.2.1 hp, (C x hp).1]
      obtain ⟨u, d⟩ := L.up hp
      rw [ct_dep L C f (uf T x) u (by omega), d]
theorem ct_onw (L : LT T n k) (C : CT h b T n) {z : Nat} (hz : z ≤ n) : ∀ (f x : Nat), x ≤ n → df T x ≤ f → (nt_onw h b (cI n z) f (cI n x) = true ↔ ∃ j, j ≤ df T x ∧ tw T j x = z)
  | 0, x, hx, hf => by
    have xn : x = n := (L.d0 hx).mp (by omega)
    rw [nt_onw, decide_eq_true_eq, cI_inj L.1.1.2.1 hx hz]
    constructor
    · intro e
      exact ⟨0, Nat.zero_le _, e⟩
    · rintro ⟨j, hj, e⟩
      have : j = 0 := by omega
      subst this
      exact e
  | f + 1, x, hx, hf => by
    rw [nt_onw]
    by_cases xn : x = n
    · rw [if_pos ((cI_7 L.1.1.2.1 hx).mpr xn), decide_eq_true_eq, cI_inj L.1.1.2.1 hx hz]
      have d0 := (L.d0 hx).mpr xn
      constructor
      · intro e
        exact ⟨0, Nat.zero_le _, e⟩
      · rintro ⟨j, hj, e⟩
        have : j = 0 := by omega
        subst this
        exact e
    · have hp : x < n := by omega
      rw [if_neg (fun y => xn ((cI_7 L.1.1.2.1 hx).mp y))]
      by_cases e : x = z
      · rw [if_pos ((cI_inj L.1.1.2.1 hx hz).mpr e)]
        exact ⟨fun _ => ⟨0, Nat.zero_le _, e⟩, fun _ => rfl⟩
      · rw [if_neg (fun y => e ((cI_inj L.1.1.2.1 hx hz).mp y)), cI_cl L.1.1.2.1 hp, (C x hp).1]
        obtain ⟨u, d⟩ := L.up hp
        rw [ct_onw L C hz f (uf T x) u (by omega)]
        constructor
        · rintro ⟨j, hj, ej⟩
          exact ⟨j + 1, by omega, ej⟩
        · rintro ⟨j, hj, ej⟩
          cases j with
          | zero => exact absurd ej e
          | succ j => exact ⟨j, by omega, ej⟩
/-- where two ways meet -/
theorem ct_meet (L : LT T n k) (C : CT h b T n) {x y i j : Nat} (hx : x ≤ n) (hy : y ≤ n) (hi : i ≤ df T x) (hj : j ≤ df T y) (e : tw T i x = tw T j y) (ds : ∀ i2 j2, i2 < i → j2 < j → tw T i2 x ≠ tw T j2 y) : ∀ (f i0 : Nat), i0 ≤ i → i < i0 + f → rt_meet h b n (cI n y) f (cI n (tw T i0 x)) = cI n (tw T i x)
  | 0, i0, h1, h2 => by omega
  | f + 1, i0, h1, h2 => by
    have t0 := L.tu i0 x hx (by omega)
    have ti := L.tu i x hx hi
    have tj := L.tu j y hy hj
    rw [rt_meet]
    by_cases z : tw T i0 x = n
    · have : i0 = i := by
        have := (L.d0 t0.1).mpr z
        omega
      subst this
      rw [if_pos ((cI_7 L.1.1.2.1 t0.1).mpr z), (cI_7 L.1.1.2.1 t0.1).mpr z]
    · rw [if_neg (fun w => z ((cI_7 L.1.1.2.1 t0.1).mp w))]
      have w := ct_onw L C t0.1 n y hy (L.dn hy)
      by_cases ii : i0 = i
      · subst ii
        rw [if_pos (w.mpr ⟨j, hj, e.symm⟩)]
      · have nw : ¬ nt_onw h b (cI n (tw T i0 x)) n (cI n y) = true := by
          intro y1
          obtain ⟨j2, hj2, ej2⟩ := w.mp y1
          rcases Nat.lt_or_ge j2 j with q | q
          · exact ds i0 j2 (by omega) q ej2.symm
          · have t2 := L.tu j2 y hy hj2
            rw [ej2] at t2
            rw [e] at ti
            omega
        have hp : tw T i0 x < n := by omega
        rw [if_neg nw, cI_cl L.1.1.2.1 hp, (C _ hp).1, ← tw_s]
        exact ct_meet L C hx hy hi hj e ds f (i0 + 1) (by omega) (by omega)
/-- down a way: the class fills its row from the end -/
theorem ct_ds (L : LT T n k) (hb : b ≤ 225) {c : Nat} {x : Nat} (hx : x ≤ n) : ∀ (f i0 : Nat) (h : LH), CT h b T n → i0 + f ≤ df T x → (∀ m, m < f → (rt_ds b c f (cI n (tw T i0 x)) h).1 242 (c + m) = eK (T.1 282 (tw T (i0 + (f - 1 - m)) x)) ∧ (rt_ds b c f (cI n (tw T i0 x)) h).1 243 (c + m) = (if h.1 (b + 2) (eK (T.1 282 (tw T (i0 + (f - 1 - m)) x))).toNatClampNeg = cI n (tw T (i0 + (f - 1 - m)) x) then 0 else 1)) ∧ (∀ m, ¬ (c ≤ m ∧ m < c + f) → (rt_ds b c f (cI n (tw T i0 x)) h).1 242 m = h.1 242 m ∧ (rt_ds b c f (cI n (tw T i0 x)) h).1 243 m = h.1 243 m) ∧ ∀ e, e ≠ 242 → e ≠ 243 → (rt_ds b c f (cI n (tw T i0 x)) h).1 e = h.1 e
  | 0, i0, h, C, hi => ⟨fun m hm => by omega, fun m _ => ⟨rfl, rfl⟩, fun e _ _ => rfl⟩
  | f + 1, i0, h, C, hi => by
    have t0 := L.tu i0 x hx (by omega)
    have hp : tw T i0 x < n := by
      have := L.d0 t0.1
      omega
    have n7 := L.1.1.2.1
    have nr : ∀ al : Int32, (al = 0 ∨ al = 1) → vp_nar .boolean al = al := by
      rintro al (rfl | rfl) <;> rfl
    rw [rt_ds, if_neg (fun w => absurd ((cI_7 n7 t0.1).mp w) (by omega)), cI_cl n7 hp, (C _ hp).1, (C _ hp).2, ← tw_s]
    have hal : vp_nar .boolean (if h.1 (b + 2) (eK (T.1 282 (tw T i0 x))).toNatClampNeg = cI n (tw T i0 x) then (0 : Int32) else 1) = (if h.1 (b + 2) (eK (T.1 282 (tw T i0 x))).toNatClampNeg = cI n (tw T i0 x) then (0 : Int32) else 1) := nr _ (by split <;> simp)
    rw [hal]
    have C1 : CT (w1 (w1 h 242 (c + f) (eK (T.1 282 (tw T i0 x)))) 243 (c + f) (if h.1 (b + 2) (eK (T.1 282 (tw T i0 x))).toNatClampNeg = cI n (tw T i0 x) then (0 : Int32) else 1)) b T n := C.same (by rw [w1_ne (by omega), w1_ne (by omega)]) (by rw [w1_ne (by omega), w1_ne (by omega)])
    have a2 : (w1 (w1 h 242 (c + f) (eK (T.1 282 (tw T i0 x)))) 243 (c + f) (if h.1 (b + 2) (eK (T.1 282 (tw T i0 x))).toNatClampNeg = cI n (tw T i0 x) then (0 : Int32) else 1)).1 (b + 2) = h.1 (b + 2) := by rw [w1_ne (by omega), w1_ne (by omega)]
    have a3 : (w1 (w1 h 242 (c + f) (eK (T.1 282 (tw T i0 x)))) 243 (c + f) (if h.1 (b + 2) (eK (T.1 282 (tw T i0 x))).toNatClampNeg = cI n (tw T i0 x) then (0 : Int32) else 1)).1 242 (c + f) = eK (T.1 282 (tw T i0 x)) := by rw [w1_ne (by decide), w1_eq]
    have a4 : (w1 (w1 h 242 (c + f) (eK (T.1 282 (tw T i0 x)))) 243 (c + f) (if h.1 (b + 2) (eK (T.1 282 (tw T i0 x))).toNatClampNeg = cI n (tw T i0 x) then (0 : Int32) else 1)).1 243 (c + f) = (if h.1 (b + 2) (eK (T.1 282 (tw T i0 x))).toNatClampNeg = cI n (tw T i0 x) then (0 : Int32) else 1) := w1_eq
    have a5 : ∀ m, m ≠ c + f → (w1 (w1 h 242 (c + f) (eK (T.1 282 (tw T i0 x)))) 243 (c + f) (if h.1 (b + 2) (eK (T.1 282 (tw T i0 x))).toNatClampNeg = cI n (tw T i0 x) then (0 : Int32) else 1)).1 242 m = h.1 242 m ∧ (w1 (w1 h 242 (c + f) (eK (T.1 282 (tw T i0 x)))) 243 (c + f) (if h.1 (b + 2) (eK (T.1 282 (tw T i0 x))).toNatClampNeg = cI n (tw T i0 x) then (0 : Int32) else 1)).1 243 m = h.1 243 m := fun m hm => ⟨by rw [w1_ne (by decide), w1_at hm], by rw [w1_at hm, w1_ne (by decide)]⟩
    have a6 : ∀ e, e ≠ 242 → e ≠ 243 → (w1 (w1 h 242 (c + f) (eK (T.1 282 (tw T i0 x)))) 243 (c + f) (if h.1 (b + 2) (eK (T.1 282 (tw T i0 x))).toNatClampNeg = cI n (tw T i0 x) then (0 : Int32) else 1)).1 e = h.1 e := fun e h1 h2 => by rw [w1_ne h2, w1_ne h1]
    generalize w1 (w1 h 242 (c + f) (eK (T.1 282 (tw T i0 x)))) 243 (c + f) (if h.1 (b + 2) (eK (T.1 282 (tw T i0 x))).toNatClampNeg = cI n (tw T i0 x) then (0 : Int32) else 1) = h1 at C1 a2 a3 a4 a5 a6
    obtain ⟨i1, i2, i3⟩ := ct_ds (c := c) L hb hx f (i0 + 1) h1 C1 (by omega)
    refine ⟨fun m hm => ?_, fun m hm => ?_, fun e z1 z2 => ?_⟩
    · by_cases mf : m = f
      · subst mf
        obtain ⟨j1, j2⟩ := i2 (c + m) (by omega)
        rw [j1, j2, a3, a4, show i0 + (m + 1 - 1 - m) = i0 by omega]
        exact ⟨rfl, rfl⟩
      · obtain ⟨j1, j2⟩ := i1 m (by omega)
        rw [j1, j2, a2, show i0 + 1 + (f - 1 - m) = i0 + (f + 1 - 1 - m) by omega]
        exact ⟨rfl, rfl⟩
    · obtain ⟨j1, j2⟩ := i2 m (by omega)
      obtain ⟨k1, k2⟩ := a5 m (by omega)
      exact ⟨j1.trans k1, j2.trans k2⟩
    · rw [i3 e z1 z2, a6 e z1 z2]
/-- up a way -/
theorem ct_clb (L : LT T n k) (hb : b ≤ 225) {y z : Nat} (hy : y ≤ n) (hz : z ≤ n) : ∀ (f j0 j c : Nat) (h : LH), CT h b T n → h.1 241 3 = cI n z → h.1 241 2 = nI c → c + j ≤ 8 → j < f → j0 + j ≤ df T y → tw T (j0 + j) y = z → (∀ m, m < j → (rt_clb b f (cI n (tw T j0 y)) h).1 242 (c + m) = eK (T.1 282 (tw T (j0 + m) y)) ∧ (rt_clb b f (cI n (tw T j0 y)) h).1 243 (c + m) = (if h.1 (b + 2) (eK (T.1 282 (tw T (j0 + m) y))).toNatClampNeg = cI n (tw T (j0 + m) y) then 1 else 0)) ∧ (∀ m, m < c → (rt_clb b f (cI n (tw T j0 y)) h).1 242 m = h.1 242 m ∧ (rt_clb b f (cI n (tw T j0 y)) h).1 243 m = h.1 243 m) ∧ (rt_clb b f (cI n (tw T j0 y)) h).1 241 2 = nI (c + j) ∧ (∀ i, i ≠ 2 → (rt_clb b f (cI n (tw T j0 y)) h).1 241 i = h.1 241 i) ∧ ∀ e, e ≠ 241 → e ≠ 242 → e ≠ 243 → (rt_clb b f (cI n (tw T j0 y)) h).1 e = h.1 e
  | 0, j0, j, c, h, C, e3, e2, hc, hj, hd, ez => by omega
  | f + 1, j0, 0, c, h, C, e3, e2, hc, hj, hd, ez => by
    rw [Nat.add_zero] at ez
    rw [rt_clb, if_pos (by rw [e3, ez])]
    exact ⟨fun m hm => by omega, fun m _ => ⟨rfl, rfl⟩, e2, fun i _ => rfl, fun e _ _ _ => rfl⟩
  | f + 1, j0, j + 1, c, h, C, e3, e2, hc, hj, hd, ez => by
    have n7 := L.1.1.2.1
    have t0 := L.tu j0 y hy (by omega)
    have t1 := L.tu (j0 + (j + 1)) y hy hd
    have hp : tw T j0 y < n := by
      have := L.d0 t0.1
      omega
    have ne : tw T j0 y ≠ z := fun w => by
      rw [ez] at t1
      rw [w] at t0
      omega
    rw [rt_clb, if_neg (by rw [e3]; exact fun w => ne ((cI_inj n7 t0.1 hz).mp w)), if_neg (fun w => absurd ((cI_7 n7 t0.1).mp w) (by omega)), cI_cl n7 hp, (C _ hp).1, (C _ hp).2, ← tw_s]
    have nr : ∀ al : Int32, (al = 0 ∨ al = 1) → vp_nar .boolean al = al := by
      rintro al (rfl | rfl) <;> rfl
    have hal : vp_nar .boolean (if h.1 (b + 2) (eK (T.1 282 (tw T j0 y))).toNatClampNeg = cI n (tw T j0 y) then (1 : Int32) else 0) = (if h.1 (b + 2) (eK (T.1 282 (tw T j0 y))).toNatClampNeg = cI n (tw T j0 y) then (1 : Int32) else 0) := nr _ (by split <;> simp)
    have ea : rt_add h (eK (T.1 282 (tw T j0 y))) (if h.1 (b + 2) (eK (T.1 282 (tw T j0 y))).toNatClampNeg = cI n (tw T j0 y) then 1 else 0) = w1 (w1 (w1 h 242 c (eK (T.1 282 (tw T j0 y)))) 243 c (if h.1 (b + 2) (eK (T.1 282 (tw T j0 y))).toNatClampNeg = cI n (tw T j0 y) then 1 else 0)) 241 2 (nI (c + 1)) := by
      unfold rt_add
      rw [e2, if_neg (show ¬ (8 : Int32) ≤ nI c from nI_ge (a := c) (b := 8) (by omega) (by omega)), hal, nI_clamp (by omega), nI_1]
    rw [ea]
    generalize hv : (if h.1 (b + 2) (eK (T.1 282 (tw T j0 y))).toNatClampNeg = cI n (tw T j0 y) then (1 : Int32) else 0) = al
    have C1 : CT (w1 (w1 (w1 h 242 c (eK (T.1 282 (tw T j0 y)))) 243 c al) 241 2 (nI (c + 1))) b T n := C.same (by rw [w1_ne (by omega), w1_ne (by omega), w1_ne (by omega)]) (by rw [w1_ne (by omega), w1_ne (by omega), w1_ne (by omega)])
    have b2 : (w1 (w1 (w1 h 242 c (eK (T.1 282 (tw T j0 y)))) 243 c al) 241 2 (nI (c + 1))).1 (b + 2) = h.1 (b + 2) := by rw [w1_ne (by omega), w1_ne (by omega), w1_ne (by omega)]
    have b3 : (w1 (w1 (w1 h 242 c (eK (T.1 282 (tw T j0 y)))) 243 c al) 241 2 (nI (c + 1))).1 241 3 = cI n z := by rw [w1_at (by decide), w1_ne (by decide), w1_ne (by decide)]; exact e3
    have b4 : (w1 (w1 (w1 h 242 c (eK (T.1 282 (tw T j0 y)))) 243 c al) 241 2 (nI (c + 1))).1 241 2 = nI (c + 1) := w1_eq
    have b5 : (w1 (w1 (w1 h 242 c (eK (T.1 282 (tw T j0 y)))) 243 c al) 241 2 (nI (c + 1))).1 242 c = eK (T.1 282 (tw T j0 y)) ∧ (w1 (w1 (w1 h 242 c (eK (T.1 282 (tw T j0 y)))) 243 c al) 241 2 (nI (c + 1))).1 243 c = al := ⟨by rw [w1_ne (by decide), w1_ne (by decide), w1_eq], by rw [w1_ne (by decide), w1_eq]⟩
    have b6 : ∀ m, m ≠ c → (w1 (w1 (w1 h 242 c (eK (T.1 282 (tw T j0 y)))) 243 c al) 241 2 (nI (c + 1))).1 242 m = h.1 242 m ∧ (w1 (w1 (w1 h 242 c (eK (T.1 282 (tw T j0 y)))) 243 c al) 241 2 (nI (c + 1))).1 243 m = h.1 243 m := fun m hm => ⟨by rw [w1_ne (by decide), w1_ne (by decide), w1_at hm], by rw [w1_ne (by decide), w1_at hm, w1_ne (by decide)]⟩
    have b7 : ∀ i, i ≠ 2 → (w1 (w1 (w1 h 242 c (eK (T.1 282 (tw T j0 y)))) 243 c al) 241 2 (nI (c + 1))).1 241 i = h.1 241 i := fun i hi => by rw [w1_at hi, w1_ne (by decide), w1_ne (by decide)]
    have b8 : ∀ e, e ≠ 241 → e ≠ 242 → e ≠ 243 → (w1 (w1 (w1 h 242 c (eK (T.1 282 (tw T j0 y)))) 243 c al) 241 2 (nI (c + 1))).1 e = h.1 e := fun e h1 h2 h3 => by rw [w1_ne h1, w1_ne h3, w1_ne h2]
    generalize w1 (w1 (w1 h 242 c (eK (T.1 282 (tw T j0 y)))) 243 c al) 241 2 (nI (c + 1)) = h1 at C1 b2 b3 b4 b5 b6 b7 b8
    obtain ⟨i1, i2, i3, i4, i5⟩ := ct_clb L hb hy hz f (j0 + 1) j (c + 1) h1 C1 b3 b4 (by omega) (by omega) (by omega) (by rw [show j0 + 1 + j = j0 + (j + 1) by omega]; exact ez)
    refine ⟨fun m hm => ?_, fun m hm => ?_, ?_, fun i hi => ?_, fun e h1 h2 h3 => ?_⟩
    · cases m with
      | zero =>
        obtain ⟨j1, j2⟩ := i2 c (by omega)
        rw [show c + 0 = c from rfl, show j0 + 0 = j0 from rfl, j1, j2, b5.1, b5.2, hv]
        exact ⟨rfl, rfl⟩
      | succ m =>
        obtain ⟨j1, j2⟩ := i1 m (by omega)
        rw [show c + (m + 1) = c + 1 + m by omega, show j0 + (m + 1) = j0 + 1 + m by omega, j1, j2, b2]
        exact ⟨rfl, rfl⟩
    · obtain ⟨j1, j2⟩ := i2 m (by omega)
      obtain ⟨k1, k2⟩ := b6 m (by omega)
      exact ⟨j1.trans k1, j2.trans k2⟩
    · rw [i3, show c + 1 + j = c + (j + 1) by omega]
    · rw [i4 i hi, b7 i hi]
    · rw [i5 e h1 h2 h3, b8 e h1 h2 h3]
end RAT
