/-! ===== the reference: wide, thread ===== -/
section R88
variable {h g : LH} {n k M d : Nat}
/-- only working rows have changed -/
def ScF (h g : LH) : Prop := (∀ e, e < 276 → e ≠ 270 → g.1 e = h.1 e) ∧ g.1 270 5 = h.1 270 5
theorem ScF.rf : ScF h h := ⟨fun _ _ _ => rfl, rfl⟩
theorem ScF.tr {f : LH} (x : ScF h g) (y : ScF g f) : ScF h f := ⟨fun e h1 h2 => (y.1 e h1 h2).trans (x.1 e h1 h2), y.2.trans x.2⟩
theorem ScF.w {c i : Nat} {v : Int32} (F : ScF h g) (hc : 276 ≤ c) : ScF h (w1 g c i v) := ⟨fun e h1 h2 => by rw [w1_ne (by omega)]; exact F.1 e h1 h2, by rw [w1_ne (by omega)]; exact F.2⟩
theorem ScF.w0 {i : Nat} {v : Int32} (F : ScF h g) (hi : i ≠ 5) : ScF h (w1 g 270 i v) := ⟨fun e h1 h2 => by rw [w1_ne h2]; exact F.1 e h1 h2, by rw [w1_at (fun z => hi z.symm)]; exact F.2⟩
theorem ScF.of (F : ScF h g) : OF h g := ⟨fun e he => F.1 e (by omega) (by omega), fun ix _ _ => by rw [F.1 271 (by decide) (by decide)], F.1 272 (by decide) (by decide), F.1 273 (by decide) (by decide), F.1 275 (by decide) (by decide)⟩
theorem GI.sc (G : GI h n k M) (F : ScF h g) : GI g n k M := G.cong (fun i _ => by rw [F.1 271 (by decide) (by decide)])
theorem RM.sc (G : RM h n k) (F : ScF h g) : RM g n k := G.fl (F.1 271 (by decide) (by decide))
theorem RI.sc (R : RI h M) (F : ScF h g) : RI g M := by
  obtain ⟨n, k, G⟩ := R.1
  exact R.of (Nat.le_refl _) F.of ⟨n, k, G.sc F⟩ (R.2.1.same F.2 (F.1 274 (by decide) (by decide)))
theorem wd_z {x1 x2 : Int32} {Q : tf_Q} (q : ∀ (x3 : Int32) (g : LH), ScF h g → lx_X9_wide 298 (tf_Cd 298 d) Q 37 [.ref 270, .int x1, .int x2, .int x3, tf_z, tf_z] [] g) : ∀ (f x : Nat) (g : LH), x + f = 64 → ScF h g → lx_X9_wide 298 (tf_Cd 298 d) Q 18 [.ref 270, .int x1, .int x2, .int (nI x), tf_z, tf_z] [] g
  | 0, x, g, hx, F => by
    have e : x = 64 := by omega
    subst e
    exact go_X9_wide_18 (by decide) ⟨fun _ => q _ g F, fun z => absurd (nI_le (a := 64) (b := 64) (by omega) (by omega)) z⟩
  | f + 1, x, g, hx, F => by
    refine go_X9_wide_18 (by decide) ⟨fun z => absurd z (nI_ge (a := x) (b := 64) (by omega) (by omega)), fun _ => ⟨vi_of (by omega) (by omega), ?_⟩⟩
    rw [nI_1]
    exact wd_z q f (x + 1) _ (by omega) (F.w (by omega))
theorem wd_a (H : RM h n k) {x1 x2 : Int32} {Q : tf_Q} (q : ∀ (x3 : Int32) (x4 x5 : Value) (g : LH), ScF h g → lx_X9_wide 298 (tf_Cd 298 (d + 1)) Q 174 [.ref 270, .int x1, .int x2, .int x3, x4, x5] [] g) : ∀ (f a : Nat) (g : LH) (x4 x5 : Value), a + f = k → ScF h g → lx_X9_wide 298 (tf_Cd 298 (d + 1)) Q 39 [.ref 270, .int x1, .int x2, .int (nI a), x4, x5] [] g
  | 0, a, g, x4, x5, ha, F => by
    have hn := H.1
    exact go_X9_wide_39 (by decide) ⟨fun _ => q _ _ _ g F, fun z => absurd ((H.sc F).k2 (by omega) (by omega)) z⟩
  | f + 1, a, g, x4, x5, ha, F => by
    have hn := H.1
    have H1 := H.sc F
    have K : tf_K 287 = 8 := by decide +kernel
    have N : tf_N 287 = 64 := by decide +kernel
    obtain ⟨p, o, hp, ho, ep, eo⟩ := H1.ends (a := a) (by omega)
    have s : ∀ (w : Nat) (y : Int32) (g2 : LH), w < 7 → y = nI w → tf_Rt (d + 1) _ [.ref 270, .int (nI a), .int y] g2 (.int (rm g2 a w)) g2 := fun w y g2 hw ey => sx_of (d := d) a w rfl ey (by omega) hw
    have e8 : ∀ x y : Nat, (8 : Int32) * nI x + nI y = nI (8 * x + y) := fun x y => by rw [show (8 : Int32) = nI 8 from rfl, nI_mul, nI_add]
    refine go_X9_wide_39 (by decide) ⟨fun z => absurd z (H1.k1 (by omega)), fun _ => s 0 0 g (by omega) rfl _ (go_X9_wide_57 (by decide) (s 1 1 g (by omega) rfl _ (go_X9_wide_64 (by decide) (s 1 1 g (by omega) rfl _ (go_X9_wide_75 (by decide) (s 0 0 g (by omega) rfl _ (go_X9_wide_82 (by decide) ?_)))))))⟩
    rw [ep, eo, e8, e8]
    have vx : vp_in (nI (8 * p + o)) 64 := vi_of (by omega) (by omega)
    have vy : vp_in (nI (8 * o + p)) 64 := vi_of (by omega) (by omega)
    have e167 : ∀ (y2 : Int32) (g : LH), ScF h g → lx_X9_wide 298 (tf_Cd 298 (d + 1)) Q 167 [.ref 270, .int x1, .int x2, .int (nI a), .int (nI (8 * p + o)), .int (nI (8 * o + p))] [.int y2, .int (nI (8 * o + p)), .ref 287] g := fun y2 g F => go_X9_wide_167 (by decide) K (ny0 := 64) N (by decide) ⟨vy, by rw [nI_1]; exact wd_a H q f (a + 1) _ _ _ (by omega) (F.w (by omega))⟩
    have e164 : ∀ (y2 y3 : Int32) (g : LH), ScF h g → lx_X9_wide 298 (tf_Cd 298 (d + 1)) Q 164 [.ref 270, .int x1, .int x2, .int (nI a), .int (nI (8 * p + o)), .int (nI (8 * o + p))] [.int y3, .int y2, .int (nI (8 * o + p)), .ref 287] g := fun y2 y3 g F => go_X9_wide_164 (by decide) K (ny0 := 64) N (by decide) (sx_greater (d := d) _ _ _ (e167 _ g F))
    have e129 : ∀ (y2 : Int32) (g : LH), ScF h g → lx_X9_wide 298 (tf_Cd 298 (d + 1)) Q 129 [.ref 270, .int x1, .int x2, .int (nI a), .int (nI (8 * p + o)), .int (nI (8 * o + p))] [.int y2, .int (nI (8 * p + o)), .ref 287] g := fun y2 g F => go_X9_wide_129 (by decide) K (ny0 := 64) N (by decide) ⟨vx, vy, s 6 6 (w1 g 287 _ y2) (by omega) rfl _ (go_X9_wide_150 (by decide) K (ny0 := 64) N (by decide) ⟨fun _ => e164 _ _ _ (F.w (by omega)), fun _ => go_X9_wide_158 (by decide) K (ny0 := 64) N (by decide) (s 4 4 _ (by omega) rfl _ (e164 _ _ _ (F.w (by omega))))⟩)⟩
    have e126 : ∀ (y2 y3 : Int32), lx_X9_wide 298 (tf_Cd 298 (d + 1)) Q 126 [.ref 270, .int x1, .int x2, .int (nI a), .int (nI (8 * p + o)), .int (nI (8 * o + p))] [.int y3, .int y2, .int (nI (8 * p + o)), .ref 287] g := fun y2 y3 => go_X9_wide_126 (by decide) K (ny0 := 64) N (by decide) (sx_greater (d := d) _ _ _ (e129 _ g F))
    exact ⟨vx, s 6 6 g (by omega) rfl _ (go_X9_wide_105 (by decide) K (ny0 := 64) N (by decide) ⟨fun _ => e126 _ _, fun _ => go_X9_wide_113 (by decide) K (ny0 := 64) N (by decide) (s 2 2 g (by omega) rfl _ (go_X9_wide_119 (by decide) K (ny0 := 64) N (by decide) (s 4 4 g (by omega) rfl _ (go_X9_wide_125 (by decide) K (ny0 := 64) N (by decide) (e126 _ _)))))⟩)⟩
theorem wd_i {m : Nat} (hm : m < 8) {x1 x2 : Int32} {Q : tf_Q} (q : ∀ (x4 : Int32) (x5 : Value) (g : LH), ScF h g → lx_X9_wide 298 (tf_Cd 298 (d + 1)) Q 252 [.ref 270, .int x1, .int x2, .int (nI m), .int x4, x5] [] g) : ∀ (f j : Nat) (g : LH) (x5 : Value), j + f = 64 → ScF h g → lx_X9_wide 298 (tf_Cd 298 (d + 1)) Q 189 [.ref 270, .int x1, .int x2, .int (nI m), .int (nI j), x5] [] g
  | 0, j, g, x5, hj, F => by
    have e : j = 64 := by omega
    subst e
    exact go_X9_wide_189 (by decide) ⟨fun _ => q _ _ g F, fun z => absurd (nI_le (a := 64) (b := 64) (by omega) (by omega)) z⟩
  | f + 1, j, g, x5, hj, F => by
    have K : tf_K 287 = 8 := by decide +kernel
    have N : tf_N 287 = 64 := by decide +kernel
    have e1 : nI j / 8 * 8 + nI m = nI (j / 8 * 8 + m) := by
      rw [show (8 : Int32) = nI 8 from rfl, pk_div (by omega) (by omega) (by omega), nI_mul, nI_add]
    have e2 : (8 : Int32) * nI m + (nI j - nI j / 8 * 8) = nI (8 * m + j % 8) := by
      rw [show (8 : Int32) = nI 8 from rfl, pk_rem (by omega) (by omega) (by omega), nI_mul, nI_add]
    refine go_X9_wide_189 (by decide) ⟨fun z => absurd z (nI_ge (a := j) (b := 64) (by omega) (by omega)), fun _ => ?_⟩
    rw [e1, e2]
    refine ⟨vi_of (by omega) (by omega), vi_of (by omega) (by omega), vi_of (by omega) (by omega), sx_lesser (d := d) _ _ _ (go_X9_wide_242 (by decide) K (ny0 := 64) N (by decide) (sx_greater (d := d) _ _ _ (go_X9_wide_245 (by decide) K (ny0 := 64) N (by decide) ⟨vi_of (by omega) (by omega), ?_⟩)))⟩
    rw [nI_1]
    exact wd_i hm q f (j + 1) _ _ (by omega) (F.w (by omega))
theorem wd_m (H : RM h n k) {x1 x2 : Int32} (v : vp_in (8 * x1 + x2) 64) {Q : tf_Q} (q : ∀ (x : Int32) (g : LH), ScF h g → Q (.int x) g) : ∀ (f m : Nat) (g : LH) (x4 x5 : Value), m + f = n → ScF h g → lx_X9_wide 298 (tf_Cd 298 (d + 1)) Q 176 [.ref 270, .int x1, .int x2, .int (nI m), x4, x5] [] g
  | 0, m, g, x4, x5, hm, F => by
    have hn := H.1
    exact go_X9_wide_176 (by decide) ⟨fun _ => go_X9_wide_258 (by decide) ⟨v, q _ g F⟩, fun z => absurd ((H.sc F).n2 (by omega) (by omega)) z⟩
  | f + 1, m, g, x4, x5, hm, F => by
    have hn := H.1
    refine go_X9_wide_176 (by decide) ⟨fun z => absurd z ((H.sc F).n1 (by omega)), fun _ => wd_i (h := h) (by omega) (fun x4 x5 g2 F2 => go_X9_wide_252 (by decide) ?_) 64 0 g _ (by omega) F⟩
    rw [nI_1]
    exact wd_m H v q f (m + 1) g2 _ _ (by omega) F2
theorem rq_wide (R : RI h M) (x y : Int32) : RQ 86 [.int x, .int y] h M := by
  intro Q q
  obtain ⟨n, k, G, R1, F⟩ := R.p0
  refine en_X9_wide (by decide) (go_X9_wide_0 (by decide) ?_)
  show tf_Cd 298 10 _ _ (w1 h 270 0 0) _
  generalize w1 h 270 0 0 = h1 at *
  refine sx_rtwo (d := 7) x y _ (go_X9_wide_11 (by decide) ⟨fun _ => q _ _ ⟨⟨_, rfl⟩, R1, F⟩, fun c => go_X9_wide_16 (by decide) ?_⟩)
  rw [bI_0, Bool.not_eq_false] at c
  obtain ⟨p, o, hp, ho, -, ep, eo⟩ := rf_two_t G.1 c
  have hn := G.1.1
  have v : vp_in (8 * x + y) 64 := by
    rw [ep, eo, show (8 : Int32) = nI 8 from rfl, nI_mul, nI_add]
    exact vi_of (by omega) (by omega)
  exact wd_z (h := h1) (fun x3 g F2 => go_X9_wide_37 (by decide) (wd_a (d := 9) G.1 (fun x3 x4 x5 g F3 => go_X9_wide_174 (by decide) (wd_m (d := 9) G.1 v (fun x g F4 => q _ _ ⟨⟨x, rfl⟩, R1.sc F4, F.tr F4.of⟩) n 0 g _ _ (by omega) F3)) k 0 g _ _ (by omega) F2)) 64 0 h1 (by omega) ScF.rf
/-! the thread -/
def chf (g : LH) (p : Int32) : Nat → Nat → Int32
  | 0, _ => -1
  | f + 1, o => if g.1 281 o = p then nI o else chf g p f (o + 1)
theorem chf_or (p : Int32) : ∀ (f o : Nat), (chf g p f o = -1 ∧ ∀ c, o ≤ c → c < o + f → g.1 281 c ≠ p) ∨ ∃ c, o ≤ c ∧ c < o + f ∧ chf g p f o = nI c ∧ g.1 281 c = p ∧ ∀ c2, o ≤ c2 → c2 < c → g.1 281 c2 ≠ p
  | 0, o => Or.inl ⟨rfl, fun c h1 h2 => absurd h2 (by omega)⟩
  | f + 1, o => by
    rw [chf]
    by_cases e : g.1 281 o = p
    · rw [if_pos e]
      exact Or.inr ⟨o, Nat.le_refl _, by omega, rfl, e, fun c2 h1 h2 => absurd h2 (by omega)⟩
    · rw [if_neg e]
      rcases chf_or p f (o + 1) with ⟨h1, h2⟩ | ⟨c, h1, h2, h3, h4, h5⟩
      · refine Or.inl ⟨h1, fun c h3 h4 => ?_⟩
        by_cases z : c = o
        · rw [z]
          exact e
        · exact h2 c (by omega) (by omega)
      · refine Or.inr ⟨c, by omega, by omega, h3, h4, fun c2 h6 h7 => ?_⟩
        by_cases z : c2 = o
        · rw [z]
          exact e
        · exact h5 c2 (by omega) h7
theorem sx_rchL (H : RM g n k) {x1 x2 : Int32} {Q : tf_Q} : ∀ (f o : Nat), o + f = n → Q (.int (chf g x1 f o)) g → lx_X9_childOf 298 (tf_Cd 298 d) Q 4 [.ref 270, .int x1, .int x2, .int (nI o)] [] g
  | 0, o, ho, q => by
    have hn := H.1
    exact go_X9_childOf_4 (by decide) ⟨fun _ => go_X9_childOf_32 (by decide) q, fun z => absurd (H.n2 (by omega) (by omega)) z⟩
  | f + 1, o, ho, q => by
    have hn := H.1
    rw [chf] at q
    refine go_X9_childOf_4 (by decide) ⟨fun z => absurd z (H.n1 (by omega)), fun _ => ⟨vi_of (by omega) (by omega), ?_⟩⟩
    rw [nI_clamp (by omega)]
    refine ⟨fun e => by rw [if_pos e] at q; exact q, fun e => go_X9_childOf_26 (by decide) ?_⟩
    rw [if_neg e] at q
    rw [nI_1]
    exact sx_rchL H f (o + 1) (by omega) q
/-- the next point whose next one is p, from o on -/
theorem sx_rch (H : RM g n k) {x2 : Int32} (x1 : Int32) (o : Nat) (e : x2 + 1 = nI o) (ho : o ≤ n) : tf_Rt (d + 1) 76 [.ref 270, .int x1, .int x2] g (.int (chf g x1 (n - o) o)) g := fun Q q => en_X9_childOf (by decide) (go_X9_childOf_0 (by decide) (by rw [e]; exact sx_rchL H (n - o) o (by omega) q))
/-- how many points of a set -/
def cv (V : Nat → Bool) : Nat → Nat
  | 0 => 0
  | m + 1 => cv V m + (if V m = true then 1 else 0)
theorem cv_le {V : Nat → Bool} : ∀ m, cv V m ≤ m
  | 0 => Nat.le_refl _
  | m + 1 => by
    unfold cv
    have := cv_le (V := V) m
    split <;> omega
theorem cv_all {V : Nat → Bool} : ∀ m, (∀ p, p < m → V p = true) → cv V m = m
  | 0, _ => rfl
  | m + 1, hs => by
    unfold cv
    rw [cv_all m (fun p hp => hs p (by omega)), if_pos (hs m (by omega))]
theorem cv_same {V W : Nat → Bool} : ∀ m, (∀ p, p < m → W p = V p) → cv W m = cv V m
  | 0, _ => rfl
  | m + 1, hs => by
    unfold cv
    rw [cv_same m (fun p hp => hs p (by omega)), hs m (by omega)]
def cadd (V : Nat → Bool) (p : Nat) : Nat → Bool := fun o => decide (o = p) || V o
theorem cv_add {V : Nat → Bool} {p : Nat} : ∀ m, cv (cadd V p) m ≤ cv V m + 1 ∧ (p < m → V p = false → cv (cadd V p) m = cv V m + 1)
  | 0 => ⟨by unfold cv; omega, fun hp => absurd hp (by omega)⟩
  | m + 1 => by
    obtain ⟨i1, i2⟩ := cv_add (V := V) (p := p) m
    by_cases e : m = p
    · have hs : cv (cadd V p) m = cv V m := cv_same m (fun o ho => by
        have : ¬ o = p := by omega
        simp [cadd, this])
      have hm : cadd V p m = true := by simp [cadd, e]
      refine ⟨?_, fun _ hv => ?_⟩
      · unfold cv
        rw [hs, hm]
        split <;> split <;> omega
      · unfold cv
        rw [hs, if_pos hm, e, hv]
        rfl
    · have hm : cadd V p m = V m := by simp [cadd, e]
      refine ⟨?_, fun hp hv => ?_⟩
      · unfold cv
        rw [hm]
        omega
      · unfold cv
        rw [hm, i2 (by omega) hv]
        omega
/-- every point is gone through, or hangs below one that is to come -/
def TJ (g : LH) (n at' : Nat) (V : Nat → Bool) : Prop := ∀ o, o < n → V o = true ∨ ∃ i j, i ≤ df g at' ∧ j < df g o ∧ uf g (tw g j o) = tw g i at' ∧ (i = 0 ∨ tw g (i - 1) at' < tw g j o)
theorem tw_add : ∀ (i j x : Nat), tw g (i + j) x = tw g j (tw g i x)
  | 0, j, x => by rw [Nat.zero_add]; rfl
  | i + 1, j, x => by
    rw [show i + 1 + j = (i + j) + 1 by omega]
    exact tw_add i j (uf g x)
theorem TJ.next (T : LT g n k) {a c i : Nat} {V : Nat → Bool} (J : TJ g n a V) (ha : a < n) (hi : i ≤ df g a) (hc : c < n) (eu : uf g c = tw g i a) (no : ∀ i2, i2 < i → ∀ o, o < n → uf g o = tw g i2 a → (i2 = 0 ∨ tw g (i2 - 1) a < o) → False) (least : ∀ o, o < n → uf g o = tw g i a → (i = 0 ∨ tw g (i - 1) a < o) → c ≤ o) : TJ g n c (cadd V c) := by
  intro o ho
  have dc := (T.at hc).2.2.1
  have da := T.tu i a (by omega) hi
  rw [eu] at dc
  rcases J o ho with z | ⟨i2, j2, h1, h2, h3, h4⟩
  · exact Or.inl (by simp [cadd, z])
  · have ht : tw g j2 o < n := on_lt T (by omega) (Nat.le_refl _) h2
    rcases Nat.lt_trichotomy i2 i with y | y | y
    · exact absurd (no i2 y _ ht h3 h4) id
    · subst y
      have hle := least _ ht h3 h4
      rcases Nat.lt_or_ge c (tw g j2 o) with w | w
      · refine Or.inr ⟨1, j2, by omega, h2, ?_, Or.inr w⟩
        rw [h3, ← eu]
        rfl
      · have e : tw g j2 o = c := by omega
        cases j2 with
        | zero =>
          have : o = c := e
          exact Or.inl (by simp [cadd, this])
        | succ j3 =>
          refine Or.inr ⟨0, j3, by omega, by omega, ?_, Or.inl rfl⟩
          rw [← tw_succ, e]
          rfl
    · refine Or.inr ⟨i2 - i + 1, j2, by omega, h2, ?_, Or.inr ?_⟩
      · rw [h3]
        have : tw g (i2 - i + 1) c = tw g (i2 - i) (uf g c) := rfl
        rw [this, eu, ← tw_add, show i + (i2 - i) = i2 by omega]
      · have e : tw g (i2 - i + 1 - 1) c = tw g (i2 - 1) a := by
          rw [show i2 - i + 1 - 1 = i2 - i - 1 + 1 by omega]
          have : tw g (i2 - i - 1 + 1) c = tw g (i2 - i - 1) (uf g c) := rfl
          rw [this, eu, ← tw_add, show i + (i2 - i - 1) = i2 - 1 by omega]
        rw [e]
        exact h4.resolve_left (by omega)
theorem uf_of (T : LT g n k) {o q : Nat} (ho : o < n) (hq : q ≤ n) : g.1 281 o = nI q ↔ uf g o = q := by
  have hn := T.1.1
  obtain ⟨a1, a2, -⟩ := T.at ho
  rw [a1]
  exact nI_eq (by omega) (by omega)
/-- climbing finds the next one -/
theorem th_up (T : LT g n k) {a s : Nat} {x1 : Int32} {V : Nat → Bool} (ha : a < n) (J : TJ g n a V) (hV : cv V n < n) {Q : tf_Q} (q : ∀ (c : Nat) (x2 x4 : Int32), c < n → TJ g n c (cadd V c) → x4 = nI c → lx_X9_thread 298 (tf_Cd 298 (d + 1)) Q 81 [.ref 270, .int x1, .int x2, .int (nI s), .int x4] [] g) : ∀ (f i : Nat), i + f = df g a → (∀ i2, i2 < i → ∀ o, o < n → uf g o = tw g i2 a → (i2 = 0 ∨ tw g (i2 - 1) a < o) → False) → lx_X9_thread 298 (tf_Cd 298 (d + 1)) Q 52 [.ref 270, .int x1, .int (nI (tw g i a)), .int (nI s), .int (chf g (nI (tw g i a)) (n - (if i = 0 then 0 else tw g (i - 1) a + 1)) (if i = 0 then 0 else tw g (i - 1) a + 1))] [] g := by
  intro f
  induction f with
  | zero =>
    intro i hi no
    have hn := T.1.1
    have ti := T.tu i a (by omega) (by omega)
    have hbn : (if i = 0 then 0 else tw g (i - 1) a + 1) ≤ n := by
      split
      · omega
      · have := on_lt T (i1 := i - 1) (show a ≤ n by omega) (show df g a ≤ df g a by omega) (by omega)
        omega
    rcases chf_or (g := g) (nI (tw g i a)) (n - (if i = 0 then 0 else tw g (i - 1) a + 1)) (if i = 0 then 0 else tw g (i - 1) a + 1) with ⟨e1, e2⟩ | ⟨c, h1, h2, h3, h4, h5⟩
    · exfalso
      apply Nat.lt_irrefl n
      have : cv V n = n := cv_all n (fun o ho => by
        rcases J o ho with z | ⟨i2, j2, w1, w2, w3, w4⟩
        · exact z
        · exfalso
          have ht : tw g j2 o < n := on_lt T (by omega) (Nat.le_refl _) w2
          rcases Nat.lt_or_ge i2 i with y | y
          · exact no i2 y _ ht w3 w4
          · have e : i2 = i := by omega
            subst e
            refine e2 (tw g j2 o) ?_ (by omega) ((uf_of T ht ti.1).mpr w3)
            split
            · omega
            · rename_i z0
              have := w4.resolve_left z0
              omega)
      omega
    · have hcn : c < n := by omega
      rw [h3]
      refine go_X9_thread_52 (by decide) ⟨fun z => absurd z (nI_neg1 (by omega)), fun _ => q c _ _ hcn (J.next T ha (by omega) hcn ((uf_of T hcn ti.1).mp h4) no (fun o ho w1 w2 => ?_)) rfl⟩
      rcases Nat.lt_or_ge o c with y | y
      · refine absurd ((uf_of T ho ti.1).mpr w1) (h5 o ?_ y)
        split
        · omega
        · rename_i z0
          have := w2.resolve_left z0
          omega
      · exact y
  | succ f ih =>
    intro i hi no
    have hn := T.1.1
    have ti := T.tu i a (by omega) (by omega)
    have hl : tw g i a < n := T.lt ti.1 (by omega)
    obtain ⟨a1, a2, a3, -⟩ := T.at hl
    have hbn : (if i = 0 then 0 else tw g (i - 1) a + 1) ≤ n := by
      split
      · omega
      · have := on_lt T (i1 := i - 1) (show a ≤ n by omega) (show df g a ≤ df g a by omega) (by omega)
        omega
    rcases chf_or (g := g) (nI (tw g i a)) (n - (if i = 0 then 0 else tw g (i - 1) a + 1)) (if i = 0 then 0 else tw g (i - 1) a + 1) with ⟨e1, e2⟩ | ⟨c, h1, h2, h3, h4, h5⟩
    · rw [e1]
      have v8 : vp_in (nI (tw g i a)) 8 := vi_of (by omega) (by omega)
      have ct : (nI (tw g i a)).toNatClampNeg = tw g i a := nI_clamp (by omega)
      refine go_X9_thread_52 (by decide) ⟨fun _ => ⟨v8, ?_⟩, fun z => absurd rfl z⟩
      rw [ct, a1]
      refine sx_rch (d := d) T.1 (nI (uf g (tw g i a))) (tw g i a + 1) (by rw [nI_1]) (by omega) _ (go_X9_thread_69 (by decide) ⟨v8, ?_⟩)
      rw [ct, a1]
      have := ih (i + 1) (by omega) (fun i2 h1 o ho w1 w2 => by
        rcases Nat.lt_or_ge i2 i with y | y
        · exact no i2 y o ho w1 w2
        · have e : i2 = i := by omega
          subst e
          refine e2 o ?_ (by omega) ((uf_of T ho ti.1).mpr w1)
          split
          · omega
          · rename_i z0
            have := w2.resolve_left z0
            omega)
      rw [if_neg (by omega), show i + 1 - 1 = i by omega, tw_succ] at this
      exact this
    · have hcn : c < n := by omega
      rw [h3]
      refine go_X9_thread_52 (by decide) ⟨fun z => absurd z (nI_neg1 (by omega)), fun _ => q c _ _ hcn (J.next T ha (by omega) hcn ((uf_of T hcn ti.1).mp h4) no (fun o ho w1 w2 => ?_)) rfl⟩
      rcases Nat.lt_or_ge o c with y | y
      · refine absurd ((uf_of T ho ti.1).mpr w1) (h5 o ?_ y)
        split
        · omega
        · rename_i z0
          have := w2.resolve_left z0
          omega
      · exact y
theorem th_L (T : LT g n k) {kk : Nat} (hk : kk < n) {Q : tf_Q} (q : ∀ x : Int32, Q (.int x) g) : ∀ (f s a : Nat) (V : Nat → Bool) (x4 : Value), s + f = kk → a < n → TJ g n a V → cv V n ≤ s + 1 → lx_X9_thread 298 (tf_Cd 298 (d + 1)) Q 39 [.ref 270, .int (nI kk), .int (nI a), .int (nI s), x4] [] g
  | 0, s, a, V, x4, hs, ha, J, hV => by
    have hn := T.1.1
    refine go_X9_thread_39 (by decide) ⟨fun _ => go_X9_thread_90 (by decide) (q _), fun z => absurd (nI_le (by omega) (by omega)) z⟩
  | f + 1, s, a, V, x4, hs, ha, J, hV => by
    have hn := T.1.1
    refine go_X9_thread_39 (by decide) ⟨fun z => absurd z (nI_ge (by omega) (by omega)), fun _ => sx_rch (d := d) T.1 (nI a) 0 rfl (by omega) _ (go_X9_thread_50 (by decide) ?_)⟩
    refine th_up (V := V) T ha J (by omega) (fun c x2 x4 hc J2 e => go_X9_thread_81 (by decide) ?_) (df g a) 0 (by omega) (fun i2 h => absurd h (by omega))
    rw [e, nI_1]
    have := (cv_add (V := V) (p := c) n).1
    exact th_L T hk q f (s + 1) c (cadd V c) _ (by omega) hc J2 (by omega)
theorem rq_thread (R : RI h M) (x : Int32) : RQ 77 [.int x] h M := by
  intro Q q
  obtain ⟨n, k, G, R1, F⟩ := R.p0
  refine en_X9_thread (by decide) (go_X9_thread_0 (by decide) ?_)
  show tf_Cd 298 10 _ [.int x, .int 0, .int ((w1 h 270 0 0).1 271 0 - 1)] (w1 h 270 0 0) _
  generalize w1 h 270 0 0 = h1 at *
  have hn := G.1.1
  have e0 : h1.1 271 0 - 1 = nI (n - 1) := by
    rw [G.1.2.1, show n = n - 1 + 1 by omega]
    exact nI_pred _
  rw [e0]
  refine sx_in (d := 9) _ _ _ _ (go_X9_thread_18 (by decide) ⟨fun _ => q _ _ ⟨⟨_, rfl⟩, R1, F⟩, fun c => go_X9_thread_23 (by decide) ?_⟩)
  rw [bI_0, Bool.not_eq_false] at c
  obtain ⟨kk, -, hkk, ek⟩ := rf_in_t (l := 0) (u := n - 1) (by omega) c (by omega)
  subst ek
  have FL := lt_fl (h := h1) (n := n) (k := k)
  have T := G.lt
  have R2 := R1.fl FL
  have F2 := F.tr FL.of
  refine sx_lt (d := 7) G.1 _ (go_X9_thread_27 (by decide) ?_)
  generalize lt h1 n k = g at *
  refine sx_root (d := 9) _ (go_X9_thread_32 (by decide) (sx_rch (d := 9) T.1 _ 0 rfl (by omega) _ (go_X9_thread_36 (by decide) ?_)))
  rw [T.1.2.1]
  have top : ∀ o, o < n → ∃ c, c < n ∧ df g o - 1 < df g o ∧ tw g (df g o - 1) o = c ∧ uf g c = n := by
    intro o ho
    have dpos := (T.at ho).2.2.1
    have t1 := T.tu (df g o - 1) o (by omega) (by omega)
    have hl : tw g (df g o - 1) o < n := T.lt t1.1 (by omega)
    refine ⟨_, hl, by omega, rfl, ?_⟩
    have t2 := T.tu (df g o) o (by omega) (Nat.le_refl _)
    rw [← tw_succ, show df g o - 1 + 1 = df g o by omega]
    rcases Nat.lt_or_ge (tw g (df g o) o) n with y | y
    · have := (T.at y).2.2.1
      omega
    · omega
  rcases chf_or (g := g) (nI n) (n - 0) 0 with ⟨e1, e2⟩ | ⟨c, h1', h2, h3, h4, h5⟩
  · exfalso
    obtain ⟨c, hc, -, -, hu⟩ := top 0 (by omega)
    exact e2 c (by omega) (by omega) ((uf_of T hc (Nat.le_refl _)).mpr hu)
  · have hcn : c < n := by omega
    have uc := (uf_of T hcn (Nat.le_refl _)).mp h4
    rw [h3]
    refine th_L (d := 9) T (kk := kk) (by omega) (fun x => q _ _ ⟨⟨x, rfl⟩, R2, F2⟩) kk 0 c (cadd (fun _ => false) c) _ (by omega) hcn (fun o ho => ?_) ?_
    · obtain ⟨c2, hc2, hd, et, hu⟩ := top o ho
      have hle : c ≤ c2 := by
        rcases Nat.lt_or_ge c2 c with y | y
        · exact absurd ((uf_of T hc2 (Nat.le_refl _)).mpr hu) (h5 c2 (by omega) y)
        · exact y
      have dc := (T.at hcn).2.2.1
      rcases Nat.lt_or_ge c c2 with y | y
      · refine Or.inr ⟨1, df g o - 1, by omega, hd, ?_, Or.inr ?_⟩
        · rw [et, hu, ← uc]
          rfl
        · rw [et]
          exact y
      · have e : c2 = c := by omega
        rcases Nat.eq_zero_or_pos (df g o - 1) with w | w
        · rw [w] at et
          have : o = c := et.trans e
          exact Or.inl (by simp [cadd, this])
        · refine Or.inr ⟨0, df g o - 2, by omega, by omega, ?_, Or.inl rfl⟩
          rw [← tw_succ, show df g o - 2 + 1 = df g o - 1 by omega, et, e]
          rfl
    · have := (cv_add (V := fun _ => false) (p := c) n).1
      have z : cv (fun _ => false) n = 0 := by
        have : ∀ m, cv (fun _ => false) m = 0 := by
          intro m
          induction m with
          | zero => rfl
          | succ m ih =>
            unfold cv
            rw [ih]
            rfl
        exact this n
      omega
end R88
