/-! ===== words as packed longs ===== -/
def px_nw (c : Nat → Int32) : Nat → Nat → Nat
  | 0, _ => 0
  | n + 1, a => px_nw c n a * 256 + (c (a + n)).toNatClampNeg
theorem px_64 : ∀ m, m < 256 → (nI m).toInt64.toBitVec.toNat = m := by decide +kernel
theorem px_let {x : Int32} (h : px_kd x = 1) : ∃ m, 97 ≤ m ∧ m ≤ 122 ∧ x = nI m := by
  have z := (px_kd1 x).mpr h
  unfold rf_in at z
  simp only [Bool.and_eq_true, Bool.not_eq_true', decide_eq_false_iff_not] at z
  exact wt_in (lo := 97) (hi := 122) z.1 (Int32.not_lt.mp z.2) (by decide) (by decide)
/-- small signs, none 0 -/
def px_sm (c : Nat → Int32) (n a : Nat) : Prop := ∀ j, j < n → ∃ m, 1 ≤ m ∧ m < 256 ∧ c (a + j) = nI m
theorem px_nw_lt {c : Nat → Int32} : ∀ (n a : Nat), px_sm c n a → px_nw c n a < 256 ^ n
  | 0, a, _ => Nat.lt_succ_self 0
  | n + 1, a, h => by
    obtain ⟨m, h1, h2, e⟩ := h n (Nat.lt_succ_self n)
    have ih := px_nw_lt n a (fun j hj => h j (by omega))
    rw [px_nw, e, nI_clamp (by omega), Nat.pow_succ]
    omega
theorem px_wf_n {c : Nat → Int32} : ∀ (n a : Nat), n ≤ 8 → px_sm c n a → (px_wf c n a 0).toBitVec.toNat = px_nw c n a
  | 0, a, _, _ => rfl
  | n + 1, a, hn, h => by
    obtain ⟨m, h1, h2, e⟩ := h n (Nat.lt_succ_self n)
    have hs : px_sm c n a := fun j hj => h j (by omega)
    have ih := px_wf_n n a (by omega) hs
    have lt := px_nw_lt n a hs
    rw [px_wf_s, e]
    have e1 : ((px_wf c n a 0) <<< ((8 : Int32).toInt64 &&& 63)).toBitVec = (px_wf c n a 0).toBitVec <<< 8 := rfl
    rw [Int64.toBitVec_or, e1, BitVec.toNat_or, BitVec.toNat_shiftLeft, ih, px_64 m h2]
    have p7 : 256 ^ n ≤ 256 ^ 7 := Nat.pow_le_pow_right (by omega) (by omega)
    have p8 : (256 : Nat) ^ 7 * 256 = 2 ^ 64 := by decide
    have l1 : px_nw c n a <<< 8 < 2 ^ 64 := by
      rw [Nat.shiftLeft_eq]
      have : (2 : Nat) ^ 8 = 256 := by decide
      omega
    have p28 : (2 : Nat) ^ 8 = 256 := by decide
    have m8 : m < 2 ^ 8 := by rw [p28]; exact h2
    rw [Nat.mod_eq_of_lt l1, ← Nat.shiftLeft_add_eq_or_of_lt m8, Nat.shiftLeft_eq, p28]
    rw [px_nw, e, nI_clamp (by omega)]
theorem px_nw_inj {c c2 : Nat → Int32} : ∀ (n n2 a a2 : Nat), px_sm c n a → px_sm c2 n2 a2 → px_nw c n a = px_nw c2 n2 a2 → n = n2 ∧ ∀ j, j < n → c (a + j) = c2 (a2 + j)
  | 0, 0, a, a2, _, _, _ => ⟨rfl, fun j hj => absurd hj (by omega)⟩
  | 0, n2 + 1, a, a2, _, h2, e => by
    obtain ⟨m, h1, _, em⟩ := h2 n2 (Nat.lt_succ_self n2)
    rw [px_nw, px_nw, em, nI_clamp (by omega)] at e
    omega
  | n + 1, 0, a, a2, h, _, e => by
    obtain ⟨m, h1, _, em⟩ := h n (Nat.lt_succ_self n)
    rw [px_nw, px_nw, em, nI_clamp (by omega)] at e
    omega
  | n + 1, n2 + 1, a, a2, h, h2, e => by
    obtain ⟨m, m1, m2, em⟩ := h n (Nat.lt_succ_self n)
    obtain ⟨k, k1, k2, ek⟩ := h2 n2 (Nat.lt_succ_self n2)
    rw [px_nw, px_nw, em, ek, nI_clamp (by omega), nI_clamp (by omega)] at e
    have emk : m = k := by omega
    obtain ⟨i1, i2⟩ := px_nw_inj n n2 a a2 (fun j hj => h j (by omega)) (fun j hj => h2 j (by omega)) (by omega)
    subst i1
    refine ⟨rfl, fun j hj => ?_⟩
    by_cases jn : j = n
    · rw [jn, em, ek, emk]
    · exact i2 j (by omega)
/-- the packed words are alike just where the letters are -/
theorem px_wf_inj {c c2 : Nat → Int32} {n n2 a a2 : Nat} (hn : n ≤ 8) (hn2 : n2 ≤ 8) (h : px_sm c n a) (h2 : px_sm c2 n2 a2) : px_wf c n a 0 = px_wf c2 n2 a2 0 ↔ n = n2 ∧ ∀ j, j < n → c (a + j) = c2 (a2 + j) := by
  constructor
  · intro e
    exact px_nw_inj n n2 a a2 h h2 (by rw [← px_wf_n n a hn h, ← px_wf_n n2 a2 hn2 h2, e])
  · rintro ⟨rfl, e⟩
    apply Int64.toBitVec_inj.mp
    apply BitVec.eq_of_toNat_eq
    rw [px_wf_n n a hn h, px_wf_n n a2 hn2 h2]
    clear hn hn2 h h2
    induction n with
    | zero => rfl
    | succ n ih =>
      rw [px_nw, px_nw, ih (fun j hj => e j (by omega)), e n (by omega)]
/-- the verbs' words, packed as the reference has them -/
def px_W : List Int64 := [123623812527219, 6386275, 1734437230, 126948234783865, 2002873972, 422726034283, 439855772532, 495874041200, 491496238692, 482805706612, 495672977012, 1869636974, 512869295470, 109299962636133, 1668246628]
theorem px_Wok : ∀ i, i < 15 → px_wf (tv_ch i) (tv_len.getD i 0) 0 0 = px_W.getD i 0 := by decide +kernel
theorem px_Wsm : ∀ i, i < 15 → tv_len.getD i 0 ≤ 8 ∧ ∀ j, j < tv_len.getD i 0 → 1 ≤ (tv_ch i (0 + j)).toNatClampNeg ∧ (tv_ch i (0 + j)).toNatClampNeg < 256 ∧ tv_ch i (0 + j) = nI (tv_ch i (0 + j)).toNatClampNeg := by decide +kernel
