/-! ===== spell, on both sides ===== -/
def sp_c (x : Int64) (k : Nat) : Int32 := ((((x : Int64).toUInt64 >>> ((56 - (8 * nI k) : Int32).toInt64.toUInt64 &&& Int64.toUInt64 63)).toInt64 : Int64).toInt32) &&& 255
def sp_m (x : Int64) (k : Nat) : Int32 := lg_cmp ((x >>> ((56 - (8 * nI k) : Int32).toInt64 &&& 63)) &&& 255) 0
theorem sp_s1 : ∀ k, k < 8 → ((56 - (8 * nI k) : Int32).toInt64.toUInt64 &&& Int64.toUInt64 63).toNat = 56 - 8 * k := by decide +kernel
theorem sp_s2 : ∀ k, k < 8 → (((56 - (8 * nI k) : Int32).toInt64 &&& 63).toBitVec.smod 64).toNat = 56 - 8 * k := by decide +kernel
theorem sp_255 : ∀ i, i < 32 → (255 : Int32).toBitVec.getLsbD i = decide (i < 8) := by decide +kernel
theorem sp_255l : ∀ i, i < 64 → (255 : Int64).toBitVec.getLsbD i = decide (i < 8) := by decide +kernel
theorem sp_cz (x : Int64) {k : Nat} (hk : k < 8) : sp_c x k = 0 ↔ ∀ i, i < 8 → x.toBitVec.getLsbD (56 - 8 * k + i) = false := by
  have hs := sp_s1 k hk
  unfold sp_c
  generalize ((56 - (8 * nI k) : Int32).toInt64.toUInt64 &&& Int64.toUInt64 63) = s at hs
  have e : (x.toUInt64 >>> s).toInt64.toBitVec = x.toBitVec >>> (56 - 8 * k) := by
    apply BitVec.eq_of_toNat_eq
    show (x.toUInt64 >>> s).toNat = _
    rw [UInt64.toNat_shiftRight, hs, Nat.mod_eq_of_lt (by omega), BitVec.toNat_ushiftRight]
    rfl
  have hb : ∀ i, i < 32 → ((x.toUInt64 >>> s).toInt64.toInt32 &&& 255).toBitVec.getLsbD i = (x.toBitVec.getLsbD (56 - 8 * k + i) && decide (i < 8)) := by
    intro i hi
    rw [Int32.toBitVec_and, BitVec.getLsbD_and, sp_255 i hi]
    show (((x.toUInt64 >>> s).toInt64.toBitVec.signExtend 32).getLsbD i && _) = _
    rw [BitVec.getLsbD_signExtend, e, BitVec.getLsbD_ushiftRight]
    simp [hi, show i < 64 by omega]
  rw [← Int32.toBitVec_inj]
  constructor
  · intro h i hi
    have h2 := hb i (by omega)
    rw [h] at h2
    simpa [hi] using h2.symm
  · intro h
    apply BitVec.eq_of_getLsbD_eq
    intro i hi
    rw [hb i hi]
    by_cases h8 : i < 8
    · rw [h i h8]
      simp
    · simp [h8]
theorem sp_cmp0 (v : Int64) : lg_cmp v 0 = 0 ↔ v = 0 := by
  unfold lg_cmp
  split
  · rename_i h
    constructor
    · intro q
      exact absurd q (by decide)
    · intro q
      subst q
      exact absurd h (by decide)
  · split
    · rename_i h
      exact ⟨fun _ => h, fun _ => rfl⟩
    · rename_i h
      exact ⟨fun q => absurd q (by decide), fun q => absurd q h⟩
theorem sp_mz (x : Int64) {k : Nat} (hk : k < 8) : sp_m x k = 0 ↔ ∀ i, i < 8 → x.toBitVec.getLsbD (56 - 8 * k + i) = false := by
  have hs := sp_s2 k hk
  unfold sp_m
  rw [sp_cmp0]
  have hb : ∀ i, i < 64 → ((x >>> ((56 - (8 * nI k) : Int32).toInt64 &&& 63)) &&& 255).toBitVec.getLsbD i = ((if 56 - 8 * k + i < 64 then x.toBitVec.getLsbD (56 - 8 * k + i) else x.toBitVec.msb) && decide (i < 8)) := by
    intro i hi
    rw [Int64.toBitVec_and, BitVec.getLsbD_and, sp_255l i hi, Int64.toBitVec_shiftRight]
    show ((x.toBitVec.sshiftRight (((56 - (8 * nI k) : Int32).toInt64 &&& 63).toBitVec.smod 64).toNat).getLsbD i && _) = _
    rw [hs, BitVec.getLsbD_sshiftRight]
    have h9 : ¬ 64 ≤ i := by omega
    simp only [h9, decide_false, Bool.not_false, Bool.true_and]
  rw [← Int64.toBitVec_inj]
  constructor
  · intro h i hi
    have h2 := hb i (by omega)
    rw [h] at h2
    simpa [hi, show 56 - 8 * k + i < 64 by omega] using h2.symm
  · intro h
    apply BitVec.eq_of_getLsbD_eq
    intro i hi
    rw [hb i hi]
    by_cases h8 : i < 8
    · rw [if_pos (by omega), h i h8]
      simp
    · simp [h8]
theorem sp_same (x : Int64) {k : Nat} (hk : k < 8) : sp_m x k = 0 ↔ sp_c x k = 0 := (sp_mz x hk).trans (sp_cz x hk).symm
/-- how many bytes come before the first 0 -/
def sp_cnt (x : Int64) : Nat → Nat → Nat
  | k, 0 => k
  | k, f + 1 => if sp_c x k = 0 then k else sp_cnt x (k + 1) f
theorem sp_cnt_le (x : Int64) : ∀ (f k : Nat), k ≤ sp_cnt x k f ∧ sp_cnt x k f ≤ k + f
  | 0, k => by simp [sp_cnt]
  | f + 1, k => by
    have ih := sp_cnt_le x f (k + 1)
    unfold sp_cnt
    split <;> omega
def sp_n (x : Int64) : Nat := sp_cnt x 0 8
theorem sp_n8 (x : Int64) : sp_n x ≤ 8 := (sp_cnt_le x 8 0).2
/-- the class puts a byte, the reference too -/
def sp_put (x : Int64) (i : Nat) (h : LH) : LH := (tf_up (tf_up h.1 252 (h.1 251 1 : Int32).toNatClampNeg (vp_nar .char (((sp_c x i : Int32).toUInt32 % 65536).toInt32))) 251 1 (((tf_up h.1 252 (h.1 251 1 : Int32).toNatClampNeg (vp_nar .char (((sp_c x i : Int32).toUInt32 % 65536).toInt32))) 251 1) + 1), h.2)
def sp_mput (x : Int64) (i : Nat) (h : LH) : LH := (tf_up (tf_up h.1 272 (h.1 271 (170 : Int32).toNatClampNeg : Int32).toNatClampNeg (vp_nar .byte (((x >>> ((56 - (8 * nI i) : Int32).toInt64 &&& 63) : Int64).toInt32 : Int32).toInt8.toInt32))) 271 (170 : Int32).toNatClampNeg (((tf_up h.1 272 (h.1 271 (170 : Int32).toNatClampNeg : Int32).toNatClampNeg (vp_nar .byte (((x >>> ((56 - (8 * nI i) : Int32).toInt64 &&& 63) : Int64).toInt32 : Int32).toInt8.toInt32))) 271 (170 : Int32).toNatClampNeg) + 1), h.2)
def sp_puts (x : Int64) : Nat → Nat → LH → LH
  | _, 0, h => h
  | i, f + 1, h => sp_puts x (i + 1) f (sp_put x i h)
def sp_mputs (x : Int64) : Nat → Nat → LH → LH
  | _, 0, h => h
  | i, f + 1, h => sp_mputs x (i + 1) f (sp_mput x i h)
theorem sp_put_len {x : Int64} {i n : Nat} {h : LH} (hn : h.1 251 1 = nI n) : (sp_put x i h).1 251 1 = nI (n + 1) := by
  simp [sp_put, tf_up, upd, hn, nI_1]
theorem sp_mput_len {x : Int64} {i n : Nat} {h : LH} (hn : h.1 271 (170 : Int32).toNatClampNeg = nI n) : (sp_mput x i h).1 271 (170 : Int32).toNatClampNeg = nI (n + 1) := by
  have hn2 : h.1 271 170 = nI n := hn
  simp [sp_mput, tf_up, upd, hn2, nI_1]
theorem sp_put_out {x : Int64} {i c : Nat} {h : LH} (hc : c ≠ 251 ∧ c ≠ 252) : (sp_put x i h).1 c = h.1 c := by
  simp [sp_put, tf_up, hc.1, hc.2]
theorem sp_puts_out {x : Int64} {c : Nat} (hc : c ≠ 251 ∧ c ≠ 252) : ∀ (f i : Nat) (h : LH), (sp_puts x i f h).1 c = h.1 c
  | 0, _, _ => rfl
  | f + 1, i, h => by rw [sp_puts, sp_puts_out hc f (i + 1), sp_put_out hc]
section SPX
variable {Q : tf_Q} {x : Int64}
theorem sp_l1 {h : LH} : ∀ (f k : Nat), k + f = 8 → lx_X8_spell 298 (tf_Cd 298 10) Q 22 [.ref 240, .long x, tf_z, .int (nI (sp_cnt x k f)), tf_z] [] h → lx_X8_spell 298 (tf_Cd 298 10) Q 2 [.ref 240, .long x, tf_z, .int (nI k), tf_z] [] h
  | 0, k, hk, q => by
    have : k = 8 := by omega
    subst this
    exact go_X8_spell_2 (by decide) ⟨fun _ => q, fun c => absurd (nI_le (a := 8) (b := 8) (Nat.le_refl 8) (by omega)) c⟩
  | f + 1, k, hk, q => by
    refine go_X8_spell_2 (by decide) ⟨fun c => absurd c (nI_ge (a := k) (b := 8) (by omega) (by omega)), fun _ => ?_⟩
    refine en_X8_byteOf (by decide) (go_X8_byteOf_0 (by decide) ?_)
    refine go_X8_spell_13 (by decide) ⟨fun c => ?_, fun c => ?_⟩
    · have e : sp_cnt x k (f + 1) = k := if_pos c
      rw [e] at q
      exact q
    · have e : sp_cnt x k (f + 1) = sp_cnt x (k + 1) f := if_neg c
      rw [e] at q
      rw [nI_1]
      exact sp_l1 f (k + 1) (by omega) q
theorem sp_l2 {n0 : Nat} (hn0 : n0 + sp_n x ≤ 400) : ∀ (f i : Nat) (h : LH), i + f = sp_n x → h.1 251 1 = nI (n0 + i) → Q (.int (nI (n0 + sp_n x))) (sp_puts x i f h) → lx_X8_spell 298 (tf_Cd 298 10) Q 42 [.ref 240, .long x, tf_z, .int (nI (sp_n x)), .int (nI i)] [] h
  | 0, i, h, hi, hl, q => by
    have h8 := sp_n8 x
    refine go_X8_spell_42 (by decide) ⟨fun _ => go_X8_spell_67 (by decide) ?_, fun c => absurd (nI_le (by omega) (by omega)) c⟩
    rw [hl, show n0 + i = n0 + sp_n x by omega]
    exact q
  | f + 1, i, h, hi, hl, q => by
    have h8 := sp_n8 x
    refine go_X8_spell_42 (by decide) ⟨fun c => absurd c (nI_ge (by omega) (by omega)), fun _ => ?_⟩
    refine en_X8_byteOf (by decide) (go_X8_byteOf_0 (by decide) ?_)
    refine go_X8_spell_58 (by decide) (by decide +kernel) ?_
    refine en_X2_put (by decide) (by decide +kernel) (go_X2_put_0 (by decide) (by decide +kernel) ⟨fun c => ?_, fun _ => ⟨?_, go_X2_put_31 (by decide) (by decide +kernel) ?_⟩⟩)
    · rw [hl] at c
      exact absurd c (nI_ge (a := n0 + i) (b := 400) (by omega) (by omega))
    · exact pk_in (n0 + i) 400 (by omega) hl
    · refine go_X8_spell_61 (by decide) ?_
      rw [nI_1]
      exact sp_l2 hn0 f (i + 1) (sp_put x i h) (by omega) (sp_put_len hl) q
theorem sp_ml1 {h : LH} : ∀ (f k : Nat), k + f = 8 → lx_X9_spell 298 (tf_Cd 298 10) Q 37 [.ref 270, .long x, tf_z, .int (nI (sp_cnt x k f)), tf_z] [] h → lx_X9_spell 298 (tf_Cd 298 10) Q 7 [.ref 270, .long x, tf_z, .int (nI k), tf_z] [] h
  | 0, k, hk, q => by
    have : k = 8 := by omega
    subst this
    exact go_X9_spell_7 (by decide) ⟨fun _ => q, fun c => absurd (nI_le (a := 8) (b := 8) (Nat.le_refl 8) (by omega)) c⟩
  | f + 1, k, hk, q => by
    refine go_X9_spell_7 (by decide) ⟨fun c => absurd c (nI_ge (a := k) (b := 8) (by omega) (by omega)), fun _ => ⟨fun c => ?_, fun c => ?_⟩⟩
    · have e : sp_cnt x k (f + 1) = k := if_pos ((sp_same x (by omega)).mp c)
      rw [e] at q
      exact q
    · have e : sp_cnt x k (f + 1) = sp_cnt x (k + 1) f := if_neg (fun z => c ((sp_same x (by omega)).mpr z))
      rw [e] at q
      rw [nI_1]
      exact sp_ml1 f (k + 1) (by omega) q
theorem sp_ml2 {n0 : Nat} (hn0 : n0 + sp_n x ≤ 400) : ∀ (f i : Nat) (h : LH), i + f = sp_n x → h.1 271 (170 : Int32).toNatClampNeg = nI (n0 + i) → Q (.int (nI (n0 + sp_n x))) (sp_mputs x i f h) → lx_X9_spell 298 (tf_Cd 298 10) Q 58 [.ref 270, .long x, tf_z, .int (nI (sp_n x)), .int (nI i)] [] h
  | 0, i, h, hi, hl, q => by
    have h8 := sp_n8 x
    refine go_X9_spell_58 (by decide) ⟨fun _ => go_X9_spell_107 (by decide) ?_, fun c => absurd (nI_le (by omega) (by omega)) c⟩
    rw [hl, show n0 + i = n0 + sp_n x by omega]
    exact q
  | f + 1, i, h, hi, hl, q => by
    have h8 := sp_n8 x
    refine go_X9_spell_58 (by decide) ⟨fun c => absurd c (nI_ge (by omega) (by omega)), fun _ => ⟨?_, ?_⟩⟩
    · exact pk_in (n0 + i) 1600 (by omega) hl
    · rw [nI_1]
      exact sp_ml2 hn0 f (i + 1) (sp_mput x i h) (by omega) (sp_mput_len hl) q
end SPX
/-- what spell answers when n bytes are there -/
def sp_ans (x : Int64) (n : Nat) : Int32 := if n + sp_n x ≤ 400 then nI (n + sp_n x) else -1
theorem sp_X {x : Int64} {n : Nat} {h : LH} (hn : n ≤ 400) (hl : h.1 251 1 = nI n) : tf_Rt 11 182 [.ref 240, .long x] h (.int (sp_ans x n)) (if n + sp_n x ≤ 400 then sp_puts x 0 (sp_n x) h else h) := by
  intro Q q
  have h8 := sp_n8 x
  refine en_X8_spell (by decide) (go_X8_spell_0 (by decide) (sp_l1 8 0 rfl (go_X8_spell_22 (by decide) ⟨fun c => ?_, fun c => ?_⟩)))
  · have c : h.1 251 1 + nI (sp_n x) ≤ (400 : Int32) := c
    rw [hl, nI_add] at c
    have hle : n + sp_n x ≤ 400 := (nI_leI (a := n + sp_n x) (b := 400) (by omega) (by omega)).mp c
    unfold sp_ans at q
    rw [if_pos hle, if_pos hle] at q
    exact go_X8_spell_39 (by decide) (sp_l2 hle (sp_n x) 0 h (by omega) hl q)
  · have c : ¬ h.1 251 1 + nI (sp_n x) ≤ (400 : Int32) := c
    rw [hl, nI_add] at c
    have hle : ¬ n + sp_n x ≤ 400 := fun z => c ((nI_leI (a := n + sp_n x) (b := 400) (by omega) (by omega)).mpr z)
    unfold sp_ans at q
    rw [if_neg hle, if_neg hle] at q
    exact q
theorem sp_M {x : Int64} {n : Nat} {h : LH} (hn : n ≤ 400) (hl : h.1 271 (170 : Int32).toNatClampNeg = nI n) : tf_Rt 11 9 [.ref 270, .long x] h (.int (sp_ans x n)) (if n + sp_n x ≤ 400 then sp_mputs x 0 (sp_n x) (tf_up h.1 270 0 0, h.2) else (tf_up h.1 270 0 0, h.2)) := by
  intro Q q
  have h8 := sp_n8 x
  have hl2 : (tf_up h.1 270 0 0, h.2).1 271 (170 : Int32).toNatClampNeg = nI n := by
    simp only [tf_up]
    exact hl
  refine en_X9_spell (by decide) (go_X9_spell_0 (by decide) (sp_ml1 8 0 rfl (go_X9_spell_37 (by decide) ⟨fun c => ?_, fun c => ?_⟩)))
  · have c : (tf_up h.1 270 0 0, h.2).1 271 (170 : Int32).toNatClampNeg + nI (sp_n x) ≤ (400 : Int32) := c
    rw [hl2, nI_add] at c
    have hle : n + sp_n x ≤ 400 := (nI_leI (a := n + sp_n x) (b := 400) (by omega) (by omega)).mp c
    unfold sp_ans at q
    rw [if_pos hle, if_pos hle] at q
    exact go_X9_spell_55 (by decide) (sp_ml2 hle (sp_n x) 0 _ (by omega) hl2 q)
  · have c : ¬ (tf_up h.1 270 0 0, h.2).1 271 (170 : Int32).toNatClampNeg + nI (sp_n x) ≤ (400 : Int32) := c
    rw [hl2, nI_add] at c
    have hle : ¬ n + sp_n x ≤ 400 := fun z => c ((nI_leI (a := n + sp_n x) (b := 400) (by omega) (by omega)).mpr z)
    unfold sp_ans at q
    rw [if_neg hle, if_neg hle] at q
    exact q
