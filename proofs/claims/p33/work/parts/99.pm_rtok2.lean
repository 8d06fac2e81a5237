/-! ===== the reference finds its tokens: told exactly ===== -/
def px_wf (c : Nat → Int32) : Nat → Nat → Int64 → Int64
  | 0, _, w => w
  | f + 1, a, w => px_wf c f (a + 1) ((w <<< ((8 : Int32).toInt64 &&& 63)) ||| (c a).toInt64)
theorem px_wf_s {c : Nat → Int32} : ∀ (n a : Nat) (w : Int64), px_wf c (n + 1) a w = ((px_wf c n a w) <<< ((8 : Int32).toInt64 &&& 63)) ||| (c (a + n)).toInt64
  | 0, a, w => rfl
  | n + 1, a, w => by
    rw [px_wf, px_wf_s n (a + 1)]
    rw [px_wf, show a + 1 + n = a + (n + 1) by omega]
theorem px_nm_s {c : Nat → Int32} : ∀ (n a : Nat) (x : Int32), px_nm c (n + 1) a x = (((px_nm c n a x) * 10) + c (a + n)) - 48
  | 0, a, x => rfl
  | n + 1, a, x => by
    rw [px_nm, px_nm_s n (a + 1)]
    rw [px_nm, show a + 1 + n = a + (n + 1) by omega]
def px_wd (c : Nat → Int32) (l p : Nat) : Int64 := if px_e c l p - p ≤ 8 then px_wf c (px_e c l p - p) p 0 else 0
/-- the reference's name of a token's kind -/
def px_so (t : Int32) : Int32 := if t = 0 then 0 else if t = 1 then 2 else if t = 2 then 3 else if t = 3 then 4 else 1
theorem px_kd1 (x : Int32) : rf_in x 97 122 = true ↔ px_kd x = 1 := by
  unfold rf_in px_kd
  by_cases a : x < 97
  · simp only [a, true_or, if_true, decide_true, Bool.not_true, Bool.false_and]
    constructor
    · intro z
      cases z
    · intro z
      split at z
      · split at z <;> exact absurd z (by decide)
      · exact absurd z (by decide)
  · by_cases b : (122 : Int32) < x
    · simp only [a, b, or_true, if_true, decide_true, Bool.not_true, Bool.and_false]
      constructor
      · intro z
        cases z
      · intro z
        split at z
        · split at z <;> exact absurd z (by decide)
        · exact absurd z (by decide)
    · simp [a, b]
theorem px_kd2 {x : Int32} (h1 : ¬ rf_in x 97 122 = true) : rf_in x 48 57 = true ↔ px_kd x = 2 := by
  have c1 : x < 97 ∨ 122 < x := by
    unfold rf_in at h1
    by_cases a : x < 97
    · exact Or.inl a
    · by_cases b : (122 : Int32) < x
      · exact Or.inr b
      · simp [a, b] at h1
  unfold px_kd
  rw [if_pos c1]
  unfold rf_in
  by_cases a : x < 48
  · simp only [a, true_or, if_true, decide_true, Bool.not_true, Bool.false_and]
    constructor
    · intro z
      cases z
    · intro z
      split at z <;> exact absurd z (by decide)
  · by_cases b : (57 : Int32) < x
    · simp only [a, b, or_true, if_true, decide_true, Bool.not_true, Bool.and_false]
      constructor
      · intro z
        cases z
      · intro z
        split at z <;> exact absurd z (by decide)
    · simp [a, b]
theorem px_255 (x : Int32) : 0 ≤ x &&& 255 := by
  rw [Int32.le_iff_toInt_le]
  have h : (x &&& 255).toBitVec = x.toBitVec &&& 255#32 := rfl
  have hlt : (x &&& 255).toBitVec.toNat < 256 := by
    rw [h, BitVec.toNat_and]
    exact Nat.lt_of_le_of_lt Nat.and_le_right (by decide)
  show (0 : Int32).toInt ≤ (x &&& 255).toBitVec.toInt
  rw [BitVec.toInt_eq_toNat_cond]
  have e0 : (0 : Int32).toInt = 0 := by decide
  rw [e0]
  split
  · exact Int.natCast_nonneg _
  · omega
section RX1
variable {h g : LH} {d : Nat}
/-- the reference's text -/
def cm (h : LH) : Nat → Int32 := fun i => h.1 272 i &&& 255
theorem sv_c {L r : Nat} (hr : r < L) : sv h L r = cm h r := by
  unfold sv
  rw [if_pos hr]
  rfl
/-- the token at place b stands at hand -/
def PB (g : LH) (c : Nat → Int32) (L b : Nat) : Prop := b ≤ L ∧ g.1 270 7 = nI L ∧ g.1 270 8 = nI b ∧ g.1 270 9 = px_so (px_t c L b) ∧ (px_t c L b ≠ 4 → g.1 270 6 = nI (px_e c L b)) ∧ (px_t c L b = 2 → g.1 270 10 = px_num c L b) ∧ (px_t c L b = 1 → g.2 270 11 = px_wd c L b)
theorem FTk.cm (F : FTk h g) : (fun i => g.1 272 i &&& 255) = (fun i => h.1 272 i &&& 255) := by
  funext i
  rw [F.1 272 (by decide)]
theorem yw_L {h0 : LH} {c : Nat → Int32} {L b : Nat} (hL : L ≤ 400) (hb : b < L) (hk : px_k c L b = 1) (ec : (fun i => h0.1 272 i &&& 255) = c) {x1 : Int32} {Q : tf_Q} (q : ∀ g, PB g c L b → FTk h0 g → Q tf_z g) : ∀ (f r n : Nat) (g : LH), r + f = L → r = b + n → g.1 270 7 = nI L → g.1 270 6 = nI r → g.1 270 8 = nI b → FTk h0 g → g.2 270 11 = px_wf c n b 0 → px_rn c 1 f r = px_e c L b → lx_X9_token 298 (tf_Cd 298 (d + 1)) Q 74 [.ref 270, .int x1, .int (nI n)] [] g := by
  have ht : px_t c L b = 1 := by
    unfold px_t
    rw [if_neg (fun z => by rw [hk] at z; exact absurd z.1 (by decide)), hk]
  have fin : ∀ (r n : Nat) (g : LH), r ≤ L → r = b + n → g.1 270 7 = nI L → g.1 270 6 = nI r → g.1 270 8 = nI b → FTk h0 g → g.2 270 11 = px_wf c n b 0 → r = px_e c L b → lx_X9_token 298 (tf_Cd 298 (d + 1)) Q 121 [.ref 270, .int x1, .int (nI n)] [] g := by
    intro r n g hr hn e7 e6 e8 F ew er
    have en : px_e c L b - b = n := by omega
    have k : ∀ y : Int64, y = px_wd c L b → lx_X9_token 298 (tf_Cd 298 (d + 1)) Q 136 [.ref 270, .int x1, .int (nI n)] [.long y, .ref 270] g := by
      intro y hy
      refine go_X9_token_136 (by decide) (go_X9_token_266 (by decide) (q (w2 (w1 g 270 9 2) 270 11 y) ⟨by omega, w2k (w1k (by decide) e7), w2k (w1k (by decide) e8), ?_, fun _ => ?_, fun z => ?_, fun _ => ?_⟩ ((F.w (by omega)).l)))
      · rw [ht]
        exact w2k w1_eq
      · rw [← er]
        exact w2k (w1k (by decide) e6)
      · rw [ht] at z
        exact absurd z (by decide)
      · rw [w2_eq, hy]
    refine go_X9_token_121 (by decide) ⟨fun z => go_X9_token_132 (by decide) (k _ ?_), fun z => k 0 ?_⟩
    · have : n ≤ 8 := (nI_leI (a := n) (b := 8) (by omega) (by omega)).mp z
      unfold px_wd
      rw [en, if_pos this]
      exact ew
    · have : ¬ n ≤ 8 := fun y => z (nI_le (a := n) (b := 8) y (by decide))
      unfold px_wd
      rw [en, if_neg this]
  intro f
  induction f with
  | zero =>
    intro r n g hf hn e7 e6 e8 F ew er
    have m1 : sv g L r = -1 := by unfold sv; rw [if_neg (by omega)]
    have fa : rf_in (sv g L r) 97 122 = false := by rw [m1]; rfl
    exact go_X9_token_74 (by decide) (sx_see (d := d) hL (by omega) e7 e6 _ (go_X9_token_78 (by decide) (sx_in (d := d) _ _ _ _ (go_X9_token_85 (by decide) ⟨fun _ => fin r n g (by omega) hn e7 e6 e8 F ew er, fun z => absurd (by rw [fa]; rfl) z⟩))))
  | succ f ih =>
    intro r n g hf hn e7 e6 e8 F ew er
    have es : sv g L r = c r := by rw [sv_c (by omega), ← ec]; show (fun i => g.1 272 i &&& 255) r = _; rw [F.cm]
    rw [px_rn] at er
    refine go_X9_token_74 (by decide) (sx_see (d := d) hL (by omega) e7 e6 _ (go_X9_token_78 (by decide) (sx_in (d := d) _ _ _ _ (go_X9_token_85 (by decide) ⟨fun z => fin r n g (by omega) hn e7 e6 e8 F ew ?_, fun z => sx_see (d := d) hL (by omega) e7 e6 _ (go_X9_token_100 (by decide) ?_)⟩))))
    · rw [bI_0, es] at z
      rw [if_neg (fun y => by rw [(px_kd1 (c r)).mpr y] at z; cases z)] at er
      exact er
    · rw [bI_0, Bool.not_eq_false, es] at z
      rw [if_pos ((px_kd1 (c r)).mp z)] at er
      rw [e6, nI_1, nI_1]
      refine ih (r + 1) (n + 1) (w2 (w1 g 270 6 (nI (r + 1))) 270 11 _) (by omega) (by omega) (w2k (w1k (by decide) e7)) (w2k w1_eq) (w2k (w1k (by decide) e8)) ((F.w (by omega)).l) ?_ er
      rw [w2_eq, px_wf_s, ew, es, hn]
theorem yn_L {h0 : LH} {c : Nat → Int32} {L b : Nat} (hL : L ≤ 400) (hb : b < L) (hk : px_k c L b = 2) (ec : (fun i => h0.1 272 i &&& 255) = c) {x1 : Int32} {Q : tf_Q} (q : ∀ g, PB g c L b → FTk h0 g → Q tf_z g) : ∀ (f r n : Nat) (g : LH), r + f = L → r = b + n → g.1 270 7 = nI L → g.1 270 6 = nI r → g.1 270 8 = nI b → FTk h0 g → (n ≤ 2 → g.1 270 10 = px_nm c n b 0) → px_rn c 2 f r = px_e c L b → lx_X9_token 298 (tf_Cd 298 (d + 1)) Q 163 [.ref 270, .int x1, .int (nI n)] [] g := by
  have fin : ∀ (r n : Nat) (g : LH), r ≤ L → r = b + n → g.1 270 7 = nI L → g.1 270 6 = nI r → g.1 270 8 = nI b → FTk h0 g → (n ≤ 2 → g.1 270 10 = px_nm c n b 0) → r = px_e c L b → lx_X9_token 298 (tf_Cd 298 (d + 1)) Q 224 [.ref 270, .int x1, .int (nI n)] [] g := by
    intro r n g hr hn e7 e6 e8 F ew er
    have en : px_e c L b - b = n := by omega
    have k : ∀ y : Int32, y = px_so (px_t c L b) → (px_t c L b = 2 → n ≤ 2) → (px_t c L b ≠ 1) → lx_X9_token 298 (tf_Cd 298 (d + 1)) Q 235 [.ref 270, .int x1, .int (nI n)] [.int y, .ref 270] g := by
      intro y hy h2 h1
      refine go_X9_token_235 (by decide) (go_X9_token_266 (by decide) (q (w1 g 270 9 y) ⟨by omega, (w1_at (by decide)).trans e7, (w1_at (by decide)).trans e8, ?_, fun _ => ?_, fun z => ?_, fun z => absurd z h1⟩ (F.w (by omega))))
      · rw [w1_eq, hy]
      · rw [← er]
        exact (w1_at (by decide)).trans e6
      · rw [w1_at (by decide), ew (h2 z)]
        unfold px_num
        rw [en]
    refine go_X9_token_224 (by decide) ⟨fun z => go_X9_token_234 (by decide) ?_, fun z => ?_⟩
    · have n2 : n ≤ 2 := (nI_leI (a := n) (b := 2) (by omega) (by omega)).mp z
      have ht : px_t c L b = 2 := by
        unfold px_t
        rw [en, if_neg (fun y => by omega), hk]
      exact k 3 (by rw [ht]; rfl) (fun _ => n2) (by rw [ht]; decide)
    · have n2 : ¬ n ≤ 2 := fun y => z (nI_le (a := n) (b := 2) y (by decide))
      have ht : px_t c L b = 4 := by
        unfold px_t
        rw [en, if_pos ⟨hk, by omega⟩]
      exact k 1 (by rw [ht]; rfl) (fun y => by rw [ht] at y; exact absurd y (by decide)) (by rw [ht]; decide)
  intro f
  induction f with
  | zero =>
    intro r n g hf hn e7 e6 e8 F ew er
    have m1 : sv g L r = -1 := by unfold sv; rw [if_neg (by omega)]
    have fa : rf_in (sv g L r) 48 57 = false := by rw [m1]; rfl
    exact go_X9_token_163 (by decide) (sx_see (d := d) hL (by omega) e7 e6 _ (go_X9_token_167 (by decide) (sx_in (d := d) _ _ _ _ (go_X9_token_174 (by decide) ⟨fun _ => fin r n g (by omega) hn e7 e6 e8 F ew er, fun z => absurd (by rw [fa]; rfl) z⟩))))
  | succ f ih =>
    intro r n g hf hn e7 e6 e8 F ew er
    have es : sv g L r = c r := by rw [sv_c (by omega), ← ec]; show (fun i => g.1 272 i &&& 255) r = _; rw [F.cm]
    rw [px_rn] at er
    have kd : rf_in (c r) 48 57 = true ↔ px_kd (c r) = 2 := by
      by_cases a : rf_in (c r) 97 122 = true
      · have k1 := (px_kd1 (c r)).mp a
        constructor
        · intro z
          exfalso
          unfold rf_in at a z
          simp only [Bool.and_eq_true, Bool.not_eq_true', decide_eq_false_iff_not] at a z
          have a1 := a.1
          have z1 := z.2
          rw [Int32.lt_iff_toInt_lt] at a1 z1
          have e97 : (97 : Int32).toInt = 97 := by decide
          have e57 : (57 : Int32).toInt = 57 := by decide
          omega
        · intro z
          rw [k1] at z
          exact absurd z (by decide)
      · exact px_kd2 a
    have k205 : ∀ y : Int32, (n + 1 ≤ 2 → y = px_nm c (n + 1) b 0) → px_rn c 2 f (r + 1) = px_e c L b → lx_X9_token 298 (tf_Cd 298 (d + 1)) Q 205 [.ref 270, .int x1, .int (nI n)] [.int y, .ref 270] g := by
      intro y hy er2
      refine go_X9_token_205 (by decide) ?_
      have a6 : (w1 g 270 10 y).1 270 6 = nI r := (w1_at (by decide)).trans e6
      show lx_X9_token 298 (tf_Cd 298 (d + 1)) Q 163 [.ref 270, .int x1, .int (nI n + 1)] [] (w1 (w1 g 270 10 y) 270 6 ((w1 g 270 10 y).1 270 6 + 1))
      rw [a6, nI_1, nI_1]
      exact ih (r + 1) (n + 1) _ (by omega) (by omega) ((w1_at (by decide)).trans ((w1_at (by decide)).trans e7)) w1_eq ((w1_at (by decide)).trans ((w1_at (by decide)).trans e8)) ((F.w (by omega)).w (by omega)) (fun h2 => by rw [w1_at (by decide), w1_eq]; exact hy h2) er2
    refine go_X9_token_163 (by decide) (sx_see (d := d) hL (by omega) e7 e6 _ (go_X9_token_167 (by decide) (sx_in (d := d) _ _ _ _ (go_X9_token_174 (by decide) ⟨fun z => fin r n g (by omega) hn e7 e6 e8 F ew ?_, fun z => ⟨fun z2 => go_X9_token_201 (by decide) (k205 _ ?_ ?_), fun z2 => sx_see (d := d) hL (by omega) e7 e6 _ (go_X9_token_194 (by decide) (k205 _ ?_ ?_))⟩⟩))))
    · rw [bI_0, es] at z
      rw [if_neg (fun y => by rw [kd.mpr y] at z; cases z)] at er
      exact er
    · intro y
      have : 2 ≤ n := (nI_leI (a := 2) (b := n) (by omega) (by omega)).mp z2
      omega
    · rw [bI_0, Bool.not_eq_false, es] at z
      rw [if_pos (kd.mp z)] at er
      exact er
    · intro y
      rw [ew (by omega), px_nm_s, es, ← hn, Int32.mul_comm]
    · rw [bI_0, Bool.not_eq_false, es] at z
      rw [if_pos (kd.mp z)] at er
      exact er
theorem y_31 {h0 : LH} {c : Nat → Int32} {L b : Nat} (hL : L ≤ 400) (hb : b ≤ L) (ec : (fun i => h0.1 272 i &&& 255) = c) (e7 : g.1 270 7 = nI L) (e6 : g.1 270 6 = nI b) (F : FTk h0 g) {Q : tf_Q} (q : ∀ g, PB g c L b → FTk h0 g → Q tf_z g) : lx_X9_token 298 (tf_Cd 298 (d + 1)) Q 31 [.ref 270, tf_z, tf_z] [] g := by
  have a6 : (w1 g 270 8 (nI b)).1 270 6 = nI b := (w1_at (by decide)).trans e6
  have a7 : (w1 g 270 8 (nI b)).1 270 7 = nI L := (w1_at (by decide)).trans e7
  have a8 : (w1 g 270 8 (nI b)).1 270 8 = nI b := w1_eq
  have F1 : FTk h0 (w1 g 270 8 (nI b)) := F.w (by omega)
  refine go_X9_token_31 (by decide) ?_
  rw [e6]
  show tf_Cd 298 (d + 1) _ _ (w1 g 270 8 (nI b)) _
  generalize w1 g 270 8 (nI b) = g1 at a6 a7 a8 F1
  refine sx_see (d := d) hL hb a7 a6 _ (go_X9_token_43 (by decide) ⟨fun z0 => ?_, fun z0 => go_X9_token_266 (by decide) ?_⟩)
  · have hlt : b < L := sv_lt (fun z => by rw [z] at z0; exact absurd z0 (by decide))
    have es : sv g1 L b = c b := by rw [sv_c hlt, ← ec]; show (fun i => g1.1 272 i &&& 255) b = _; rw [F1.cm]
    have hk : px_k c L b = px_kd (c b) := by unfold px_k; rw [if_pos hlt]
    refine go_X9_token_63 (by decide) (sx_in (d := d) _ _ _ _ (go_X9_token_71 (by decide) ⟨fun z1 => go_X9_token_147 (by decide) (sx_in (d := d) _ _ _ _ (go_X9_token_155 (by decide) ⟨fun z2 => ?_, fun z2 => ?_⟩)), fun z1 => ?_⟩))
    · rw [bI_0, es] at z1 z2
      have n1 : ¬ rf_in (c b) 97 122 = true := by rw [z1]; decide
      have k1 : ¬ px_kd (c b) = 1 := fun y => n1 ((px_kd1 (c b)).mpr y)
      have k2 : ¬ px_kd (c b) = 2 := fun y => by rw [(px_kd2 n1).mpr y] at z2; cases z2
      have ht : px_t c L b = px_kd (c b) := by
        unfold px_t
        rw [hk, if_neg (fun y => k2 y.1)]
      have k34 : px_kd (c b) = (if c b = 59 then 3 else 4) := by
        unfold px_kd at k1 k2 ⊢
        split
        · split
          · rfl
          · rename_i y1 y2
            rw [if_pos y1, if_neg y2] at k2
            exact absurd rfl k2
        · rename_i y1
          rw [if_neg y1] at k1
          exact absurd rfl k1
      have fin : ∀ y : Int32, y = px_so (px_kd (c b)) → (px_kd (c b) ≠ 4 → px_e c L b = b + 1) → lx_X9_token 298 (tf_Cd 298 (d + 1)) Q 263 [.ref 270, .int (sv g1 L b), .int 0] [.int y, .ref 270] (w1 (w2 g1 270 11 0) 270 6 (nI (b + 1))) := by
        intro y hy hyy
        refine go_X9_token_263 (by decide) (go_X9_token_266 (by decide) (q (w1 (w1 (w2 g1 270 11 0) 270 6 (nI (b + 1))) 270 9 y) ⟨hb, (w1_at (by decide)).trans ((w1_at (by decide)).trans a7), (w1_at (by decide)).trans ((w1_at (by decide)).trans a8), ?_, fun z => ?_, fun z => ?_, fun z => ?_⟩ (((F1.l).w (by omega)).w (by omega))))
        · rw [w1_eq, hy, ht]
        · rw [ht] at z
          rw [hyy z]
          exact (w1_at (by decide)).trans w1_eq
        · rw [ht] at z
          exact absurd z k2
        · rw [ht] at z
          exact absurd z k1
      refine go_X9_token_241 (by decide) ?_
      show ((_ → lx_X9_token 298 (tf_Cd 298 (d + 1)) Q 263 _ _ (w1 (w2 g1 270 11 0) 270 6 (g1.1 270 6 + 1))) ∧ (_ → lx_X9_token 298 (tf_Cd 298 (d + 1)) Q 262 _ _ (w1 (w2 g1 270 11 0) 270 6 (g1.1 270 6 + 1))))
      rw [a6, nI_1]
      refine ⟨fun z3 => fin 4 ?_ (fun _ => ?_), fun z3 => go_X9_token_262 (by decide) (fin 1 ?_ (fun y => ?_))⟩
      · rw [es] at z3
        rw [k34, if_pos z3]
        rfl
      · rw [es] at z3
        have e3 : px_kd (c b) = 3 := by rw [k34, if_pos z3]
        unfold px_e
        rw [hk, e3, if_neg (by decide), if_pos rfl]
      · rw [es] at z3
        rw [k34, if_neg z3]
        rfl
      · rw [es] at z3
        rw [k34, if_neg z3] at y
        exact absurd rfl y
    · rw [bI_0, Bool.not_eq_false, es] at z2
      rw [bI_0, es] at z1
      have n1 : ¬ rf_in (c b) 97 122 = true := by rw [z1]; decide
      have k2 : px_k c L b = 2 := hk.trans ((px_kd2 n1).mp z2)
      refine yn_L hL hlt k2 ec q (L - b) b 0 (w1 (w2 g1 270 11 0) 270 10 0) (by omega) (by omega) (w1k (by decide) (w2k a7)) (w1k (by decide) (w2k a6)) (w1k (by decide) (w2k a8)) ((F1.l).w (by omega)) (fun _ => w1_eq) ?_
      unfold px_e
      rw [if_pos (Or.inr k2), k2]
    · rw [bI_0, Bool.not_eq_false, es] at z1
      have k1 : px_k c L b = 1 := hk.trans ((px_kd1 (c b)).mp z1)
      refine yw_L hL hlt k1 ec q (L - b) b 0 (w2 g1 270 11 0) (by omega) (by omega) a7 a6 a8 F1.l w2_eq ?_
      unfold px_e
      rw [if_pos (Or.inl k1), k1]
  · have hge : ¬ b < L := fun hlt => by
      have es : sv g1 L b = g1.1 272 b &&& 255 := sv_c hlt
      exact z0 (by rw [es]; exact px_255 _)
    have hk : px_k c L b = 0 := by unfold px_k; rw [if_neg hge]
    have ht : px_t c L b = 0 := by
      unfold px_t
      rw [hk, if_neg (fun y => absurd y.1 (by decide))]
    have he : px_e c L b = b := by
      unfold px_e
      rw [hk, if_neg (by decide), if_neg (by decide)]
    refine q (w2 (w1 g1 270 9 0) 270 11 0) ⟨hb, w2k (w1k (by decide) a7), w2k (w1k (by decide) a8), ?_, fun _ => ?_, fun z => ?_, fun z => ?_⟩ ((F1.w (by omega)).l)
    · rw [ht]
      exact w2k w1_eq
    · rw [he]
      exact w2k (w1k (by decide) a6)
    · rw [ht] at z
      exact absurd z (by decide)
    · rw [ht] at z
      exact absurd z (by decide)
end RX1
