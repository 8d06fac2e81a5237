/-! ===== spell, on both sides ===== -/
def sy_c (x : Int64) (k : Nat) : Int32 := ((((x : Int64).toUInt64 >>> ((56 - (8 * nI k) : Int32).toInt64.toUInt64 &&& Int64.toUInt64 63)).toInt64 : Int64).toInt32) &&& 255
def sy_m (x : Int64) (k : Nat) : Int32 := lg_cmp ((x >>> ((56 - (8 * nI k) : Int32).toInt64 &&& 63)) &&& 255) 0
theorem sy_s1 : ∀ k, k < 8 → ((56 - (8 * nI k) : Int32).toInt64.toUInt64 &&& Int64.toUInt64 63).toNat = 56 - 8 * k := by decide +kernel
theorem sy_s2 : ∀ k, k < 8 → (((56 - (8 * nI k) : Int32).toInt64 &&& 63).toBitVec.smod 64).toNat = 56 - 8 * k := by decide +kernel
theorem sy_255 : ∀ i, i < 32 → (255 : Int32).toBitVec.getLsbD i = decide (i < 8) := by decide +kernel
theorem sy_255l : ∀ i, i < 64 → (255 : Int64).toBitVec.getLsbD i = decide (i < 8) := by decide +kernel
theorem sy_cz (x : Int64) {k : Nat} (hk : k < 8) : sy_c x k = 0 ↔ ∀ i, i < 8 → x.toBitVec.getLsbD (56 - 8 * k + i) = false := by
  have hs := sy_s1 k hk
  unfold sy_c
  generalize ((56 - (8 * nI k) : Int32).toInt64.toUInt64 &&& Int64.toUInt64 63) = s at hs
  have e : (x.toUInt64 >>> s).toInt64.toBitVec = x.toBitVec >>> (56 - 8 * k) := by
    apply BitVec.eq_of_toNat_eq
    show (x.toUInt64 >>> s).toNat = _
    rw [UInt64.toNat_shiftRight, hs, Nat.mod_eq_of_lt (by omega), BitVec.toNat_ushiftRight]
    rfl
  have hb : ∀ i, i < 32 → ((x.toUInt64 >>> s).toInt64.toInt32 &&& 255).toBitVec.getLsbD i = (x.toBitVec.getLsbD (56 - 8 * k + i) && decide (i < 8)) := by
    intro i hi
    rw [Int32.toBitVec_and, BitVec.getLsbD_and, sy_255 i hi]
    show (((x.toUInt64 >>> s).toInt64.toBitVec.signExtend 32).getLsbD i && _) = _
    rw [BitVec.getLsbD_signExtend, e, BitVec.getLsbD_ushiftRight]
    simp [hi, show i < 64 by omega]
  rw [← Int32.toBitVec_inj]
  constructor
  · intro h i hi
    have h2 := hb i (by omega)
    rw [h] at h2
    simpa [hi] using h2.symm
  · intro h
    apply BitVec.eq_of_getLsbD_eq
    intro i hi
    rw [hb i hi]
    by_cases h8 : i < 8
    · rw [h i h8]
      simp
    · simp [h8]
theorem sy_cmp0 (v : Int64) : lg_cmp v 0 = 0 ↔ v = 0 := by
  unfold lg_cmp
  split
  · rename_i h
    constructor
    · intro q
      exact absurd q (by decide)
    · intro q
      subst q
      exact absurd h (by decide)
  · split
    · rename_i h
      exact ⟨fun _ => h, fun _ => rfl⟩
    · rename_i h
      exact ⟨fun q => absurd q (by decide), fun q => absurd q h⟩
theorem sy_mz (x : Int64) {k : Nat} (hk : k < 8) : sy_m x k = 0 ↔ ∀ i, i < 8 → x.toBitVec.getLsbD (56 - 8 * k + i) = false := by
  have hs := sy_s2 k hk
  unfold sy_m
  rw [sy_cmp0]
  have hb : ∀ i, i < 64 → ((x >>> ((56 - (8 * nI k) : Int32).toInt64 &&& 63)) &&& 255).toBitVec.getLsbD i = ((if 56 - 8 * k + i < 64 then x.toBitVec.getLsbD (56 - 8 * k + i) else x.toBitVec.msb) && decide (i < 8)) := by
    intro i hi
    rw [Int64.toBitVec_and, BitVec.getLsbD_and, sy_255l i hi, Int64.toBitVec_shiftRight]
    show ((x.toBitVec.sshiftRight (((56 - (8 * nI k) : Int32).toInt64 &&& 63).toBitVec.smod 64).toNat).getLsbD i && _) = _
    rw [hs, BitVec.getLsbD_sshiftRight]
    have h9 : ¬ 64 ≤ i := by omega
    simp only [h9, decide_false, Bool.not_false, Bool.true_and]
  rw [← Int64.toBitVec_inj]
  constructor
  · intro h i hi
    have h2 := hb i (by omega)
    rw [h] at h2
    simpa [hi, show 56 - 8 * k + i < 64 by omega] using h2.symm
  · intro h
    apply BitVec.eq_of_getLsbD_eq
    intro i hi
    rw [hb i hi]
    by_cases h8 : i < 8
    · rw [if_pos (by omega), h i h8]
      simp
    · simp [h8]
theorem sy_same (x : Int64) {k : Nat} (hk : k < 8) : sy_m x k = 0 ↔ sy_c x k = 0 := (sy_mz x hk).trans (sy_cz x hk).symm
/-- how many bytes come before the first 0 -/
def sy_cnt (x : Int64) : Nat → Nat → Nat
  | k, 0 => k
  | k, f + 1 => if sy_c x k = 0 then k else sy_cnt x (k + 1) f
theorem sy_cnt_le (x : Int64) : ∀ (f k : Nat), k ≤ sy_cnt x k f ∧ sy_cnt x k f ≤ k + f
  | 0, k => by simp [sy_cnt]
  | f + 1, k => by
    have ih := sy_cnt_le x f (k + 1)
    unfold sy_cnt
    split <;> omega
def sy_n (x : Int64) : Nat := sy_cnt x 0 8
theorem sy_n8 (x : Int64) : sy_n x ≤ 8 := (sy_cnt_le x 8 0).2
/-- the class puts a byte, the reference too -/
def sy_put (x : Int64) (i : Nat) (h : LH) : LH := (tf_up (tf_up h.1 252 (h.1 251 1 : Int32).toNatClampNeg (vp_nar .char (((sy_c x i : Int32).toUInt32 % 65536).toInt32))) 251 1 (((tf_up h.1 252 (h.1 251 1 : Int32).toNatClampNeg (vp_nar .char (((sy_c x i : Int32).toUInt32 % 65536).toInt32))) 251 1) + 1), h.2)
def sy_mput (x : Int64) (i : Nat) (h : LH) : LH := (tf_up (tf_up h.1 272 (h.1 271 (170 : Int32).toNatClampNeg : Int32).toNatClampNeg (vp_nar .byte (((x >>> ((56 - (8 * nI i) : Int32).toInt64 &&& 63) : Int64).toInt32 : Int32).toInt8.toInt32))) 271 (170 : Int32).toNatClampNeg (((tf_up h.1 272 (h.1 271 (170 : Int32).toNatClampNeg : Int32).toNatClampNeg (vp_nar .byte (((x >>> ((56 - (8 * nI i) : Int32).toInt64 &&& 63) : Int64).toInt32 : Int32).toInt8.toInt32))) 271 (170 : Int32).toNatClampNeg) + 1), h.2)
def sy_puts (x : Int64) : Nat → Nat → LH → LH
  | _, 0, h => h
  | i, f + 1, h => sy_puts x (i + 1) f (sy_put x i h)
def sy_mputs (x : Int64) : Nat → Nat → LH → LH
  | _, 0, h => h
  | i, f + 1, h => sy_mputs x (i + 1) f (sy_mput x i h)
theorem sy_put_len {x : Int64} {i n : Nat} {h : LH} (hn : h.1 251 1 = nI n) : (sy_put x i h).1 251 1 = nI (n + 1) := by
  simp [sy_put, tf_up, upd, hn, nI_1]
theorem sy_mput_len {x : Int64} {i n : Nat} {h : LH} (hn : h.1 271 (170 : Int32).toNatClampNeg = nI n) : (sy_mput x i h).1 271 (170 : Int32).toNatClampNeg = nI (n + 1) := by
  have hn2 : h.1 271 170 = nI n := hn
  simp [sy_mput, tf_up, upd, hn2, nI_1]
theorem sy_put_out {x : Int64} {i c : Nat} {h : LH} (hc : c ≠ 251 ∧ c ≠ 252) : (sy_put x i h).1 c = h.1 c := by
  simp [sy_put, tf_up, hc.1, hc.2]
theorem sy_puts_out {x : Int64} {c : Nat} (hc : c ≠ 251 ∧ c ≠ 252) : ∀ (f i : Nat) (h : LH), (sy_puts x i f h).1 c = h.1 c
  | 0, _, _ => rfl
  | f + 1, i, h => by rw [sy_puts, sy_puts_out hc f (i + 1), sy_put_out hc]
section SYX
variable {Q : tf_Q} {x : Int64}
theorem sy_l1 {h : LH} : ∀ (f k : Nat), k + f = 8 → lx_X8_spell 298 (tf_Cd 298 10) Q 22 [.ref 240, .long x, tf_z, .int (nI (sy_cnt x k f)), tf_z] [] h → lx_X8_spell 298 (tf_Cd 298 10) Q 2 [.ref 240, .long x, tf_z, .int (nI k), tf_z] [] h
  | 0, k, hk, q => by
    have : k = 8 := by omega
    subst this
    exact go_X8_spell_2 (by decide) ⟨fun _ => q, fun c => absurd (nI_le (a := 8) (b := 8) (Nat.le_refl 8) (by omega)) c⟩
  | f + 1, k, hk, q => by
    refine go_X8_spell_2 (by decide) ⟨fun c => absurd c (nI_ge (a := k) (b := 8) (by omega) (by omega)), fun _ => ?_⟩
    refine en_X8_byteOf (by decide) (go_X8_byteOf_0 (by decide) ?_)
    refine go_X8_spell_13 (by decide) ⟨fun c => ?_, fun c => ?_⟩
    · have e : sy_cnt x k (f + 1) = k := if_pos c
      rw [e] at q
      exact q
    · have e : sy_cnt x k (f + 1) = sy_cnt x (k + 1) f := if_neg c
      rw [e] at q
      rw [nI_1]
      exact sy_l1 f (k + 1) (by omega) q
theorem sy_l2 {n0 : Nat} (hn0 : n0 + sy_n x ≤ 400) : ∀ (f i : Nat) (h : LH), i + f = sy_n x → h.1 251 1 = nI (n0 + i) → Q (.int (nI (n0 + sy_n x))) (sy_puts x i f h) → lx_X8_spell 298 (tf_Cd 298 10) Q 42 [.ref 240, .long x, tf_z, .int (nI (sy_n x)), .int (nI i)] [] h
  | 0, i, h, hi, hl, q => by
    have h8 := sy_n8 x
    refine go_X8_spell_42 (by decide) ⟨fun _ => go_X8_spell_67 (by decide) ?_, fun c => absurd (nI_le (by omega) (by omega)) c⟩
    rw [hl, show n0 + i = n0 + sy_n x by omega]
    exact q
  | f + 1, i, h, hi, hl, q => by
    have h8 := sy_n8 x
    refine go_X8_spell_42 (by decide) ⟨fun c => absurd c (nI_ge (by omega) (by omega)), fun _ => ?_⟩
    refine en_X8_byteOf (by decide) (go_X8_byteOf_0 (by decide) ?_)
    refine go_X8_spell_58 (by decide) (by decide +kernel) ?_
    refine en_X2_put (by decide) (by decide +kernel) (go_X2_put_0 (by decide) (by decide +kernel) ⟨fun c => ?_, fun _ => ⟨?_, go_X2_put_31 (by decide) (by decide +kernel) ?_⟩⟩)
    · rw [hl] at c
      exact absurd c (nI_ge (a := n0 + i) (b := 400) (by omega) (by omega))
    · exact pk_in (n0 + i) 400 (by omega) hl
    · refine go_X8_spell_61 (by decide) ?_
      rw [nI_1]
      exact sy_l2 hn0 f (i + 1) (sy_put x i h) (by omega) (sy_put_len hl) q
theorem sy_ml1 {h : LH} : ∀ (f k : Nat), k + f = 8 → lx_X9_spell 298 (tf_Cd 298 10) Q 37 [.ref 270, .long x, tf_z, .int (nI (sy_cnt x k f)), tf_z] [] h → lx_X9_spell 298 (tf_Cd 298 10) Q 7 [.ref 270, .long x, tf_z, .int (nI k), tf_z] [] h
  | 0, k, hk, q => by
    have : k = 8 := by omega
    subst this
    exact go_X9_spell_7 (by decide) ⟨fun _ => q, fun c => absurd (nI_le (a := 8) (b := 8) (Nat.le_refl 8) (by omega)) c⟩
  | f + 1, k, hk, q => by
    refine go_X9_spell_7 (by decide) ⟨fun c => absurd c (nI_ge (a := k) (b := 8) (by omega) (by omega)), fun _ => ⟨fun c => ?_, fun c => ?_⟩⟩
    · have e : sy_cnt x k (f + 1) = k := if_pos ((sy_same x (by omega)).mp c)
      rw [e] at q
      exact q
    · have e : sy_cnt x k (f + 1) = sy_cnt x (k + 1) f := if_neg (fun z => c ((sy_same x (by omega)).mpr z))
      rw [e] at q
      rw [nI_1]
      exact sy_ml1 f (k + 1) (by omega) q
theorem sy_ml2 {n0 : Nat} (hn0 : n0 + sy_n x ≤ 400) : ∀ (f i : Nat) (h : LH), i + f = sy_n x → h.1 271 (170 : Int32).toNatClampNeg = nI (n0 + i) → Q (.int (nI (n0 + sy_n x))) (sy_mputs x i f h) → lx_X9_spell 298 (tf_Cd 298 10) Q 58 [.ref 270, .long x, tf_z, .int (nI (sy_n x)), .int (nI i)] [] h
  | 0, i, h, hi, hl, q => by
    have h8 := sy_n8 x
    refine go_X9_spell_58 (by decide) ⟨fun _ => go_X9_spell_107 (by decide) ?_, fun c => absurd (nI_le (by omega) (by omega)) c⟩
    rw [hl, show n0 + i = n0 + sy_n x by omega]
    exact q
  | f + 1, i, h, hi, hl, q => by
    have h8 := sy_n8 x
    refine go_X9_spell_58 (by decide) ⟨fun c => absurd c (nI_ge (by omega) (by omega)), fun _ => ⟨?_, ?_⟩⟩
    · exact pk_in (n0 + i) 1600 (by omega) hl
    · rw [nI_1]
      exact sy_ml2 hn0 f (i + 1) (sy_mput x i h) (by omega) (sy_mput_len hl) q
end SYX
/-- what spell answers when n bytes are there -/
def sy_ans (x : Int64) (n : Nat) : Int32 := if n + sy_n x ≤ 400 then nI (n + sy_n x) else -1
theorem sy_X {x : Int64} {n : Nat} {h : LH} (hn : n ≤ 400) (hl : h.1 251 1 = nI n) : tf_Rt 11 181 [.ref 240, .long x] h (.int (sy_ans x n)) (if n + sy_n x ≤ 400 then sy_puts x 0 (sy_n x) h else h) := by
  intro Q q
  have h8 := sy_n8 x
  refine en_X8_spell (by decide) (go_X8_spell_0 (by decide) (sy_l1 8 0 rfl (go_X8_spell_22 (by decide) ⟨fun c => ?_, fun c => ?_⟩)))
  · have c : h.1 251 1 + nI (sy_n x) ≤ (400 : Int32) := c
    rw [hl, nI_add] at c
    have hle : n + sy_n x ≤ 400 := (nI_leI (a := n + sy_n x) (b := 400) (by omega) (by omega)).mp c
    unfold sy_ans at q
    rw [if_pos hle, if_pos hle] at q
    exact go_X8_spell_39 (by decide) (sy_l2 hle (sy_n x) 0 h (by omega) hl q)
  · have c : ¬ h.1 251 1 + nI (sy_n x) ≤ (400 : Int32) := c
    rw [hl, nI_add] at c
    have hle : ¬ n + sy_n x ≤ 400 := fun z => c ((nI_leI (a := n + sy_n x) (b := 400) (by omega) (by omega)).mpr z)
    unfold sy_ans at q
    rw [if_neg hle, if_neg hle] at q
    exact q
theorem sy_M {x : Int64} {n : Nat} {h : LH} (hn : n ≤ 400) (hl : h.1 271 (170 : Int32).toNatClampNeg = nI n) : tf_Rt 11 8 [.ref 270, .long x] h (.int (sy_ans x n)) (if n + sy_n x ≤ 400 then sy_mputs x 0 (sy_n x) (tf_up h.1 270 0 0, h.2) else (tf_up h.1 270 0 0, h.2)) := by
  intro Q q
  have h8 := sy_n8 x
  have hl2 : (tf_up h.1 270 0 0, h.2).1 271 (170 : Int32).toNatClampNeg = nI n := by
    simp only [tf_up]
    exact hl
  refine en_X9_spell (by decide) (go_X9_spell_0 (by decide) (sy_ml1 8 0 rfl (go_X9_spell_37 (by decide) ⟨fun c => ?_, fun c => ?_⟩)))
  · have c : (tf_up h.1 270 0 0, h.2).1 271 (170 : Int32).toNatClampNeg + nI (sy_n x) ≤ (400 : Int32) := c
    rw [hl2, nI_add] at c
    have hle : n + sy_n x ≤ 400 := (nI_leI (a := n + sy_n x) (b := 400) (by omega) (by omega)).mp c
    unfold sy_ans at q
    rw [if_pos hle, if_pos hle] at q
    exact go_X9_spell_55 (by decide) (sy_ml2 hle (sy_n x) 0 _ (by omega) hl2 q)
  · have c : ¬ (tf_up h.1 270 0 0, h.2).1 271 (170 : Int32).toNatClampNeg + nI (sy_n x) ≤ (400 : Int32) := c
    rw [hl2, nI_add] at c
    have hle : ¬ n + sy_n x ≤ 400 := fun z => c ((nI_leI (a := n + sy_n x) (b := 400) (by omega) (by omega)).mpr z)
    unfold sy_ans at q
    rw [if_neg hle, if_neg hle] at q
    exact q
section SYC
variable {h : LH} {M : Nat} {x : Int64}
theorem sy_fits (v : Int32) : fits .char (.int (vp_nar .char v)) = true := by
  have h := fits_narrow_char v
  have e : narrow .char (.int v) = .int (vp_nar .char v) := by simp [vp_nar, narrow]
  rwa [e] at h
theorem sy_put_ci {i n : Nat} (X : CI h M) (hn : h.1 251 1 = nI n) (h4 : n < 400) : CI (sy_put x i h) M ∧ CF h (sy_put x i h) := by
  have L : ∀ e, e ≠ 251 ∧ e ≠ 252 → (sy_put x i h).1 e = h.1 e := fun e he => sy_put_out he
  refine ⟨⟨X.1.lo (fun e he => L e (by omega)), fun k hk => ?_⟩, fun e he => L e (by omega), rfl⟩
  by_cases k0 : k = 0
  · subst k0
    refine ⟨fun j hj => ?_, n + 1, by omega, sy_put_len hn⟩
    have := (X.2 0 (by omega)).1 j hj
    have this : fits .char (.int (h.1 252 j)) = true := this
    have e : ∃ (a : Nat) (v u : Int32), sy_put x i h = w1 (w1 h 252 a (vp_nar .char v)) 251 1 u := ⟨_, _, _, rfl⟩
    obtain ⟨a, v, u, e⟩ := e
    show fits .char (.int ((sy_put x i h).1 252 j)) = true
    rw [e, w1_ne (by decide)]
    by_cases ja : j = a
    · rw [ja, w1_eq]
      exact sy_fits v
    · rw [w1_at ja]
      exact this
  · exact (X.2 k hk).same (L _ (by omega)) (L _ (by omega))
theorem sy_puts_ci : ∀ (f i : Nat) (h : LH) (n : Nat), CI h M → h.1 251 1 = nI n → n + f ≤ 400 → CI (sy_puts x i f h) M ∧ CF h (sy_puts x i f h)
  | 0, _, h, _, X, _, _ => ⟨X, CF.rf⟩
  | f + 1, i, h, n, X, hn, hf => by
    obtain ⟨X1, F1⟩ := sy_put_ci (x := x) (i := i) X hn (by omega)
    obtain ⟨X2, F2⟩ := sy_puts_ci f (i + 1) (sy_put x i h) (n + 1) X1 (sy_put_len hn) (by omega)
    exact ⟨X2, F1.tr F2⟩
theorem cs_spell (X : CI h M) : CS 181 [.long x] h M := by
  obtain ⟨l, hl, el⟩ := (X.2 0 (by omega)).2
  have r := sy_X (x := x) hl el
  refine r.sp ⟨⟨_, rfl⟩, ?_⟩
  by_cases c : l + sy_n x ≤ 400
  · rw [if_pos c]
    exact sy_puts_ci (sy_n x) 0 h l X el c
  · rw [if_neg c]
    exact ⟨X, CF.rf⟩
theorem sy_mput_ri {i n : Nat} (R : RI h M) (hn : h.1 271 (170 : Int32).toNatClampNeg = nI n) (h4 : n < 400) : RI (sy_mput x i h) M ∧ CFm h (sy_mput x i h) := by
  have e : ∃ (a : Nat) (v u : Int32), sy_mput x i h = w1 (w1 h 272 a v) 271 170 u := ⟨_, _, _, rfl⟩
  obtain ⟨a, v, u, e⟩ := e
  have L : ∀ e, e ≠ 271 → e ≠ 272 → (sy_mput x i h).1 e = h.1 e := fun e9 h1 h2 => by rw [e, w1_ne h1, w1_ne h2]
  have L1 : ∀ ix, ix ≠ 170 → (sy_mput x i h).1 271 ix = h.1 271 ix := fun ix hx => by rw [e, w1_at hx, w1_ne (by decide)]
  obtain ⟨⟨n2, k2, G⟩, U, I, -, D⟩ := R
  exact ⟨⟨⟨n2, k2, G.cong (fun i hi => L1 i (by omega))⟩, U.same (by rw [L 270 (by decide) (by decide)]) (L 274 (by decide) (by decide)), I.mv (Nat.le_refl _) (fun ix h1 _ => L1 ix (by omega)) (L 273 (by decide) (by decide)), ⟨n + 1, by omega, sy_mput_len hn⟩, D.same (L 275 (by decide) (by decide))⟩, fun e he => L e (by omega) (by omega)⟩
theorem sy_mputs_ri : ∀ (f i : Nat) (h : LH) (n : Nat), RI h M → h.1 271 (170 : Int32).toNatClampNeg = nI n → n + f ≤ 400 → RI (sy_mputs x i f h) M ∧ CFm h (sy_mputs x i f h)
  | 0, _, h, _, X, _, _ => ⟨X, fun _ _ => rfl⟩
  | f + 1, i, h, n, X, hn, hf => by
    obtain ⟨X1, F1⟩ := sy_mput_ri (x := x) (i := i) X hn (by omega)
    obtain ⟨X2, F2⟩ := sy_mputs_ri f (i + 1) (sy_mput x i h) (n + 1) X1 (sy_mput_len hn) (by omega)
    exact ⟨X2, fun e he => (F2 e he).trans (F1 e he)⟩
theorem rq_spell (R : RI h M) : tf_Sp 11 8 [.ref 270, .long x] h (fun v g => (∃ a, v = .int a) ∧ RI g M ∧ CFm h g) := by
  obtain ⟨l, hl, el⟩ := R.2.2.2.1
  have el2 : h.1 271 (170 : Int32).toNatClampNeg = nI l := el
  have r := sy_M (x := x) hl el2
  have R0 : RI (tf_up h.1 270 0 0, h.2) M := R.w0 (i := 0) (v := 0) (by decide)
  have F0 : CFm h (tf_up h.1 270 0 0, h.2) := fun e he => w1_ne (h := h) (c := 270) (i := 0) (v := 0) (by omega)
  have el3 : (tf_up h.1 270 0 0, h.2).1 271 (170 : Int32).toNatClampNeg = nI l := by
    simp only [tf_up]
    exact el2
  refine r.sp ⟨⟨_, rfl⟩, ?_⟩
  by_cases c : l + sy_n x ≤ 400
  · rw [if_pos c]
    obtain ⟨a, b⟩ := sy_mputs_ri (x := x) (sy_n x) 0 _ l R0 el3 c
    exact ⟨a, fun e he => (b e he).trans (F0 e he)⟩
  · rw [if_neg c]
    exact ⟨R0, F0⟩
end SYC
