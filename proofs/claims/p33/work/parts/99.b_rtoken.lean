/-! ===== the reference: tokens of a text ===== -/
section RTK
variable {h g : LH} {d : Nat}
/-- a write of a long -/
def w2 (h : LH) (c i : Nat) (v : Int64) : LH := (h.1, tf_upL h.2 c i v)
theorem w2_eq {c i : Nat} {v : Int64} : (w2 h c i v).2 c i = v := by simp [w2, tf_upL, vp_updL]
theorem w1k {i j : Nat} {v x : Int32} (hj : j ≠ i) (e : g.1 270 j = x) : (w1 g 270 i v).1 270 j = x := (w1_at hj).trans e
theorem w2k {c i j : Nat} {v : Int64} {x : Int32} (e : g.1 270 j = x) : (w2 g c i v).1 270 j = x := e
/-- only what a token is changed -/
def FTk (h g : LH) : Prop := (∀ e, e ≠ 270 → g.1 e = h.1 e) ∧ ∀ i, i ≠ 6 → i ≠ 8 → i ≠ 9 → i ≠ 10 → g.1 270 i = h.1 270 i
theorem FTk.rf : FTk h h := ⟨fun _ _ => rfl, fun _ _ _ _ _ => rfl⟩
theorem FTk.tr {f : LH} (x : FTk h g) (y : FTk g f) : FTk h f := ⟨fun e he => (y.1 e he).trans (x.1 e he), fun i h1 h2 h3 h4 => (y.2 i h1 h2 h3 h4).trans (x.2 i h1 h2 h3 h4)⟩
theorem FTk.w {i : Nat} {v : Int32} (F : FTk h g) (hi : i = 6 ∨ i = 8 ∨ i = 9 ∨ i = 10) : FTk h (w1 g 270 i v) := F.tr ⟨fun e he => w1_ne he, fun j h1 h2 h3 h4 => w1_at (by omega)⟩
theorem FTk.l {i : Nat} {v : Int64} (F : FTk h g) : FTk h (w2 g 270 i v) := F
/-- a token of a text of L bytes, from b to r; a short word is a small number -/
def TX (g : LH) (L b r : Nat) : Prop := L ≤ 400 ∧ g.1 270 7 = nI L ∧ g.1 270 6 = nI r ∧ g.1 270 8 = nI b ∧ b ≤ r ∧ r ≤ L ∧ (g.1 270 9 = 0 ∨ b + 1 ≤ r) ∧ (g.1 270 9 = 2 → r < b + 4 → (g.2 270 11).toBitVec.toNat < 2 ^ 24)
/-- what is seen at r -/
def sv (h : LH) (L r : Nat) : Int32 := if r < L then h.1 272 r &&& 255 else -1
theorem sv_lt {L r : Nat} (hn : sv h L r ≠ -1) : r < L := by
  rcases Nat.lt_or_ge r L with z | z
  · exact z
  · exact absurd (by unfold sv; rw [if_neg (by omega)]) hn
theorem sx_see {L r : Nat} (hL : L ≤ 400) (hr : r ≤ L) (e7 : h.1 270 7 = nI L) (e6 : h.1 270 6 = nI r) : tf_Rt (d + 1) 9 [.ref 270] h (.int (sv h L r)) h := by
  intro Q q
  refine en_X9_see (by decide) (go_X9_see_0 (by decide) ?_)
  rw [e7, e6, nI_clamp (by omega)]
  unfold sv at q
  refine ⟨fun c => ?_, fun c => ⟨vi_of (by omega) (by omega), ?_⟩⟩
  · rw [nI_leI (by omega) (by omega)] at c
    rw [if_neg (by omega)] at q
    exact go_X9_see_27 (by decide) (go_X9_see_28 (by decide) q)
  · rw [nI_leI (by omega) (by omega)] at c
    rw [if_pos (by omega)] at q
    exact go_X9_see_28 (by decide) q
theorem rf_in_m1 {l u : Int32} (hl : ¬ (-1 : Int32) < l → False) : rf_in (-1) l u = false := by
  unfold rf_in
  rw [Bool.and_eq_false_iff]
  left
  rw [Bool.not_eq_false', decide_eq_true_eq]
  exact Classical.byContradiction hl
theorem rf_az {c : Int32} (h1 : rf_in c 97 122 = true) : c.toInt64.toBitVec.toNat < 256 := by
  unfold rf_in at h1
  rw [Bool.and_eq_true, Bool.not_eq_true', Bool.not_eq_true', decide_eq_false_iff_not, decide_eq_false_iff_not] at h1
  obtain ⟨a1, a2⟩ := h1
  rw [Int32.lt_iff_toInt_lt] at a1 a2
  have b1 : (97 : Int32).toInt = 97 := rfl
  have b2 : (122 : Int32).toInt = 122 := rfl
  have e : c.toInt64.toInt = c.toInt := Int32.toInt_toInt64 c
  have e2 : (c.toInt64.toBitVec.toNat : Int) = c.toInt64.toInt := by
    have := BitVec.toInt_eq_toNat_of_msb (x := c.toInt64.toBitVec) (by
      rw [BitVec.msb_eq_false_iff_two_mul_lt]
      have h3 : c.toInt64.toBitVec.toInt = c.toInt := e
      rw [BitVec.toInt_eq_toNat_cond] at h3
      split at h3
      · assumption
      · have := c.toInt64.toBitVec.isLt
        omega)
    exact this.symm
  omega
theorem w_step {w : Int64} {c : Int64} {n : Nat} (hn : n ≤ 2) (hw : w.toBitVec.toNat < 2 ^ (8 * n)) (hc : c.toBitVec.toNat < 256) : ((w <<< ((8 : Int32).toInt64 &&& 63)) ||| c).toBitVec.toNat < 2 ^ (8 * (n + 1)) := by
  have e1 : (w <<< ((8 : Int32).toInt64 &&& 63)).toBitVec = w.toBitVec <<< 8 := rfl
  rw [Int64.toBitVec_or, e1, BitVec.toNat_or]
  refine Nat.or_lt_two_pow ?_ (Nat.lt_of_lt_of_le hc ?_)
  · rw [BitVec.toNat_shiftLeft, Nat.shiftLeft_eq]
    refine Nat.lt_of_le_of_lt (Nat.mod_le _ _) ?_
    have : 2 ^ (8 * (n + 1)) = 2 ^ (8 * n) * 2 ^ 8 := by rw [← Nat.pow_add]; rfl
    omega
  · have : (2 : Nat) ^ 8 ≤ 2 ^ (8 * (n + 1)) := Nat.pow_le_pow_right (by omega) (by omega)
    omega
theorem wl_end {h0 : LH} {L b r n : Nat} (hL : L ≤ 400) {x1 : Int32} {Q : tf_Q} (q : ∀ g r, TX g L b r → FTk h0 g → b + 1 ≤ r → Q tf_z g) (hr : r ≤ L) (hn : r = b + n) (n1 : 1 ≤ n) (e7 : g.1 270 7 = nI L) (e6 : g.1 270 6 = nI r) (e8 : g.1 270 8 = nI b) (F : FTk h0 g) (hw : n ≤ 3 → (g.2 270 11).toBitVec.toNat < 2 ^ (8 * n)) : lx_X9_token 298 (tf_Cd 298 (d + 1)) Q 121 [.ref 270, .int x1, .int (nI n)] [] g := by
  have fin : ∀ y : Int64, (n ≤ 3 → y.toBitVec.toNat < 2 ^ 24) → lx_X9_token 298 (tf_Cd 298 (d + 1)) Q 136 [.ref 270, .int x1, .int (nI n)] [.long y, .ref 270] g := by
    intro y hy
    refine go_X9_token_136 (by decide) (go_X9_token_266 (by decide) (q (w2 (w1 g 270 9 2) 270 11 y) r ⟨hL, ?_, ?_, ?_, by omega, hr, Or.inr (by omega), fun _ h4 => ?_⟩ ((F.w (by omega)).l) (by omega)))
    · exact w2k (w1k (by decide) e7)
    · exact w2k (w1k (by decide) e6)
    · exact w2k (w1k (by decide) e8)
    · rw [w2_eq]
      exact hy (by omega)
  have s24 : n ≤ 3 → (g.2 270 11).toBitVec.toNat < 2 ^ 24 := fun h3 => Nat.lt_of_lt_of_le (hw h3) (Nat.pow_le_pow_right (by omega) (by omega))
  exact go_X9_token_121 (by decide) ⟨fun _ => go_X9_token_132 (by decide) (fin _ s24), fun _ => fin 0 (fun _ => by decide)⟩
theorem wl_L {h0 : LH} {L b : Nat} (hL : L ≤ 400) {x1 : Int32} (hx1 : rf_in x1 97 122 = true) {Q : tf_Q} (q : ∀ g r, TX g L b r → FTk h0 g → b + 1 ≤ r → Q tf_z g) : ∀ (f r n : Nat) (g : LH), r + f = L → r = b + n → g.1 270 7 = nI L → g.1 270 6 = nI r → g.1 270 8 = nI b → FTk h0 g → (n ≤ 3 → (g.2 270 11).toBitVec.toNat < 2 ^ (8 * n)) → (n = 0 → sv g L r = x1) → lx_X9_token 298 (tf_Cd 298 (d + 1)) Q 74 [.ref 270, .int x1, .int (nI n)] [] g := by
  intro f
  induction f with
  | zero =>
    intro r n g hf hn e7 e6 e8 F hw h0
    have m1 : sv g L r = -1 := by unfold sv; rw [if_neg (by omega)]
    have fa : rf_in (sv g L r) 97 122 = false := by rw [m1]; rfl
    refine go_X9_token_74 (by decide) (sx_see (d := d) hL (by omega) e7 e6 _ (go_X9_token_78 (by decide) (sx_in (d := d) _ _ _ _ (go_X9_token_85 (by decide) ⟨fun _ => wl_end hL q (by omega) hn ?_ e7 e6 e8 F hw, fun z => absurd (by rw [fa]; rfl) z⟩))))
    rcases Nat.eq_zero_or_pos n with z | z
    · rw [h0 z, hx1] at fa
      cases fa
    · exact z
  | succ f ih =>
    intro r n g hf hn e7 e6 e8 F hw h0
    refine go_X9_token_74 (by decide) (sx_see (d := d) hL (by omega) e7 e6 _ (go_X9_token_78 (by decide) (sx_in (d := d) _ _ _ _ (go_X9_token_85 (by decide) ⟨fun z => wl_end hL q (by omega) hn ?_ e7 e6 e8 F hw, fun z => sx_see (d := d) hL (by omega) e7 e6 _ (go_X9_token_100 (by decide) ?_)⟩))))
    · rw [bI_0] at z
      rcases Nat.eq_zero_or_pos n with y | y
      · rw [h0 y, hx1] at z
        cases z
      · exact y
    · rw [bI_0, Bool.not_eq_false] at z
      rw [e6, nI_1, nI_1]
      refine ih (r + 1) (n + 1) (w2 (w1 g 270 6 (nI (r + 1))) 270 11 _) (by omega) (by omega) (w2k (w1k (by decide) e7)) (w2k w1_eq) (w2k (w1k (by decide) e8)) ((F.w (by omega)).l) (fun h3 => ?_) (fun y => absurd y (by omega))
      rw [w2_eq]
      exact w_step (by omega) (hw (by omega)) (rf_az z)
theorem nl_end {h0 : LH} {L b r n : Nat} (hL : L ≤ 400) {x1 : Int32} {Q : tf_Q} (q : ∀ g r, TX g L b r → FTk h0 g → b + 1 ≤ r → Q tf_z g) (hr : r ≤ L) (hn : r = b + n) (n1 : 1 ≤ n) (e7 : g.1 270 7 = nI L) (e6 : g.1 270 6 = nI r) (e8 : g.1 270 8 = nI b) (F : FTk h0 g) : lx_X9_token 298 (tf_Cd 298 (d + 1)) Q 224 [.ref 270, .int x1, .int (nI n)] [] g := by
  have fin : ∀ y : Int32, y ≠ 2 → lx_X9_token 298 (tf_Cd 298 (d + 1)) Q 235 [.ref 270, .int x1, .int (nI n)] [.int y, .ref 270] g := by
    intro y hy
    refine go_X9_token_235 (by decide) (go_X9_token_266 (by decide) (q (w1 g 270 9 y) r ⟨hL, (w1_at (by decide)).trans e7, (w1_at (by decide)).trans e6, (w1_at (by decide)).trans e8, by omega, hr, Or.inr (by omega), fun z => absurd (w1_eq.symm.trans z) hy⟩ (F.w (by omega)) (by omega)))
  exact go_X9_token_224 (by decide) ⟨fun _ => go_X9_token_234 (by decide) (fin 3 (by decide)), fun _ => fin 1 (by decide)⟩
theorem nl_L {h0 : LH} {L b : Nat} (hL : L ≤ 400) {x1 : Int32} (hx1 : rf_in x1 48 57 = true) {Q : tf_Q} (q : ∀ g r, TX g L b r → FTk h0 g → b + 1 ≤ r → Q tf_z g) : ∀ (f r n : Nat) (g : LH), r + f = L → r = b + n → g.1 270 7 = nI L → g.1 270 6 = nI r → g.1 270 8 = nI b → FTk h0 g → (n = 0 → sv g L r = x1) → lx_X9_token 298 (tf_Cd 298 (d + 1)) Q 163 [.ref 270, .int x1, .int (nI n)] [] g := by
  intro f
  induction f with
  | zero =>
    intro r n g hf hn e7 e6 e8 F h0
    have m1 : sv g L r = -1 := by unfold sv; rw [if_neg (by omega)]
    have fa : rf_in (sv g L r) 48 57 = false := by rw [m1]; rfl
    refine go_X9_token_163 (by decide) (sx_see (d := d) hL (by omega) e7 e6 _ (go_X9_token_167 (by decide) (sx_in (d := d) _ _ _ _ (go_X9_token_174 (by decide) ⟨fun _ => nl_end hL q (by omega) hn ?_ e7 e6 e8 F, fun z => absurd (by rw [fa]; rfl) z⟩))))
    rcases Nat.eq_zero_or_pos n with z | z
    · rw [h0 z, hx1] at fa
      cases fa
    · exact z
  | succ f ih =>
    intro r n g hf hn e7 e6 e8 F h0
    have k205 : ∀ y : Int32, lx_X9_token 298 (tf_Cd 298 (d + 1)) Q 205 [.ref 270, .int x1, .int (nI n)] [.int y, .ref 270] g := by
      intro y
      refine go_X9_token_205 (by decide) ?_
      have a6 : (w1 g 270 10 y).1 270 6 = nI r := (w1_at (by decide)).trans e6
      show lx_X9_token 298 (tf_Cd 298 (d + 1)) Q 163 [.ref 270, .int x1, .int (nI n + 1)] [] (w1 (w1 g 270 10 y) 270 6 ((w1 g 270 10 y).1 270 6 + 1))
      rw [a6, nI_1, nI_1]
      exact ih (r + 1) (n + 1) _ (by omega) (by omega) ((w1_at (by decide)).trans ((w1_at (by decide)).trans e7)) w1_eq ((w1_at (by decide)).trans ((w1_at (by decide)).trans e8)) ((F.w (by omega)).w (by omega)) (fun y => absurd y (by omega))
    refine go_X9_token_163 (by decide) (sx_see (d := d) hL (by omega) e7 e6 _ (go_X9_token_167 (by decide) (sx_in (d := d) _ _ _ _ (go_X9_token_174 (by decide) ⟨fun z => nl_end hL q (by omega) hn ?_ e7 e6 e8 F, fun z => ⟨fun _ => go_X9_token_201 (by decide) (k205 _), fun _ => sx_see (d := d) hL (by omega) e7 e6 _ (go_X9_token_194 (by decide) (k205 _))⟩⟩))))
    rw [bI_0] at z
    rcases Nat.eq_zero_or_pos n with y | y
    · rw [h0 y, hx1] at z
      cases z
    · exact y
theorem tk_31 {h0 : LH} {L b : Nat} (hL : L ≤ 400) (hb : b ≤ L) (e7 : g.1 270 7 = nI L) (e6 : g.1 270 6 = nI b) (F : FTk h0 g) {Q : tf_Q} (q : ∀ g r, TX g L b r → FTk h0 g → Q tf_z g) : lx_X9_token 298 (tf_Cd 298 (d + 1)) Q 31 [.ref 270, tf_z, tf_z] [] g := by
  have a6 : (w1 g 270 8 (nI b)).1 270 6 = nI b := (w1_at (by decide)).trans e6
  have a7 : (w1 g 270 8 (nI b)).1 270 7 = nI L := (w1_at (by decide)).trans e7
  have a8 : (w1 g 270 8 (nI b)).1 270 8 = nI b := w1_eq
  have F1 : FTk h0 (w1 g 270 8 (nI b)) := F.w (by omega)
  refine go_X9_token_31 (by decide) ?_
  rw [e6]
  show tf_Cd 298 (d + 1) _ _ (w1 g 270 8 (nI b)) _
  generalize w1 g 270 8 (nI b) = g1 at a6 a7 a8 F1
  refine sx_see (d := d) hL hb a7 a6 _ (go_X9_token_43 (by decide) ⟨fun c => ?_, fun c => go_X9_token_266 (by decide) (q (w2 (w1 g1 270 9 0) 270 11 0) b ⟨hL, w2k (w1k (by decide) a7), w2k (w1k (by decide) a6), w2k (w1k (by decide) a8), Nat.le_refl _, hb, Or.inl (w2k w1_eq), fun z => absurd (show (0 : Int32) = 2 from (w1_eq (h := g1) (c := 270) (i := 9)).symm.trans z) (by decide)⟩ ((F1.w (by omega)).l))⟩)
  have hlt : b < L := sv_lt (fun z => by rw [z] at c; exact absurd c (by decide))
  refine go_X9_token_63 (by decide) (sx_in (d := d) _ _ _ _ (go_X9_token_71 (by decide) ⟨fun z1 => go_X9_token_147 (by decide) (sx_in (d := d) _ _ _ _ (go_X9_token_155 (by decide) ⟨fun z2 => ?_, fun z2 => ?_⟩)), fun z1 => ?_⟩))
  · have fin : ∀ y : Int32, y ≠ 2 → lx_X9_token 298 (tf_Cd 298 (d + 1)) Q 263 [.ref 270, .int (sv g1 L b), .int 0] [.int y, .ref 270] (w1 (w2 g1 270 11 0) 270 6 (nI (b + 1))) := by
      intro y hy
      refine go_X9_token_263 (by decide) (go_X9_token_266 (by decide) (q (w1 (w1 (w2 g1 270 11 0) 270 6 (nI (b + 1))) 270 9 y) (b + 1) ⟨hL, (w1_at (by decide)).trans ((w1_at (by decide)).trans a7), (w1_at (by decide)).trans w1_eq, (w1_at (by decide)).trans ((w1_at (by decide)).trans a8), by omega, by omega, Or.inr (by omega), fun z => absurd (w1_eq.symm.trans z) hy⟩ (((F1.l).w (by omega)).w (by omega))))
    refine go_X9_token_241 (by decide) ?_
    show ((_ → lx_X9_token 298 (tf_Cd 298 (d + 1)) Q 263 _ _ (w1 (w2 g1 270 11 0) 270 6 (g1.1 270 6 + 1))) ∧ (_ → lx_X9_token 298 (tf_Cd 298 (d + 1)) Q 262 _ _ (w1 (w2 g1 270 11 0) 270 6 (g1.1 270 6 + 1))))
    rw [a6, nI_1]
    exact ⟨fun _ => fin 4 (by decide), fun _ => go_X9_token_262 (by decide) (fin 1 (by decide))⟩
  · rw [bI_0, Bool.not_eq_false] at z2
    exact nl_L hL z2 (fun g r T F _ => q g r T F) (L - b) b 0 (w1 (w2 g1 270 11 0) 270 10 0) (by omega) (by omega) (w1k (by decide) (w2k a7)) (w1k (by decide) (w2k a6)) (w1k (by decide) (w2k a8)) ((F1.l).w (by omega)) (fun _ => by unfold sv; rw [w1_ne (by decide)]; rfl)
  · rw [bI_0, Bool.not_eq_false] at z1
    exact wl_L hL z1 (fun g r T F _ => q g r T F) (L - b) b 0 (w2 g1 270 11 0) (by omega) (by omega) a7 a6 a8 F1.l (fun _ => by rw [w2_eq]; decide) (fun _ => rfl)
theorem tk_0 {h0 : LH} {L r0 : Nat} (hL : L ≤ 400) {Q : tf_Q} (q : ∀ g b r, r0 ≤ b → TX g L b r → FTk h0 g → Q tf_z g) : ∀ (f r : Nat) (g : LH), r + f = L → r0 ≤ r → g.1 270 7 = nI L → g.1 270 6 = nI r → FTk h0 g → lx_X9_token 298 (tf_Cd 298 (d + 1)) Q 0 [.ref 270, tf_z, tf_z] [] g := by
  intro f
  induction f with
  | zero =>
    intro r g hf h1 e7 e6 F
    have m1 : sv g L r = -1 := by unfold sv; rw [if_neg (by omega)]
    refine go_X9_token_0 (by decide) (sx_see (d := d) hL (by omega) e7 e6 _ (go_X9_token_4 (by decide) ⟨fun z => absurd (m1.symm.trans z) (by decide), fun _ => sx_see (d := d) hL (by omega) e7 e6 _ (go_X9_token_13 (by decide) ⟨fun z => absurd (m1.symm.trans z) (by decide), fun _ => tk_31 hL (by omega) e7 e6 F (fun g r2 T F => q g r r2 h1 T F)⟩)⟩))
  | succ f ih =>
    intro r g hf h1 e7 e6 F
    have k18 : lx_X9_token 298 (tf_Cd 298 (d + 1)) Q 18 [.ref 270, tf_z, tf_z] [] g := by
      refine go_X9_token_18 (by decide) ?_
      rw [e6, nI_1]
      exact ih (r + 1) (w1 g 270 6 (nI (r + 1))) (by omega) (by omega) ((w1_at (by decide)).trans e7) w1_eq (F.w (by omega))
    exact go_X9_token_0 (by decide) (sx_see (d := d) hL (by omega) e7 e6 _ (go_X9_token_4 (by decide) ⟨fun _ => k18, fun _ => sx_see (d := d) hL (by omega) e7 e6 _ (go_X9_token_13 (by decide) ⟨fun _ => k18, fun _ => tk_31 hL (by omega) e7 e6 F (fun g r2 T F => q g r r2 h1 T F)⟩)⟩))
theorem sp_tok {L r : Nat} (hL : L ≤ 400) (hr : r ≤ L) (e7 : h.1 270 7 = nI L) (e6 : h.1 270 6 = nI r) : tf_Sp (d + 2) 10 [.ref 270] h (fun _ g => FTk h g ∧ ∃ b r2, r ≤ b ∧ TX g L b r2) := fun Q q => en_X9_token (by decide) (tk_0 hL (fun g b r2 h1 T F => q _ g ⟨F, b, r2, h1, T⟩) (L - r) r h (by omega) (Nat.le_refl _) e7 e6 FTk.rf)
theorem TX.tok {L b r : Nat} (T : TX h L b r) : tf_Sp (d + 2) 10 [.ref 270] h (fun _ g => FTk h g ∧ ∃ b2 r2, r ≤ b2 ∧ TX g L b2 r2) := sp_tok T.1 T.2.2.2.2.2.1 T.2.1 T.2.2.1
end RTK
