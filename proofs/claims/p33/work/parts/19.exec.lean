/-! ===== an executable twin of the light machine, for concrete states ===== -/
abbrev tf_Rs : Type := (List Value × List Value × LH) ⊕ (Nat × List Value × List Value × LH) ⊕ (Value × LH)
def tf_cb (c : ClassFile.Cond) (x y : Int32) : Bool := match c with
  | .eq => decide (x = y)
  | .ne => !decide (x = y)
  | .lt => decide (x < y)
  | .ge => decide (y ≤ x)
  | .gt => decide (y < x)
  | .le => decide (x ≤ y)
theorem tf_cb_t {c : ClassFile.Cond} {x y : Int32} {T F : Prop} (h : tf_cb c x y = true) (t : T) : tf_br c x y T F := by
  cases c <;> simp only [tf_cb, decide_eq_true_eq, Bool.not_eq_true', decide_eq_false_iff_not] at h <;> simp only [tf_br]
  case ne => exact ⟨fun q => absurd q h, fun _ => t⟩
  all_goals exact ⟨fun _ => t, fun q => absurd h q⟩
theorem tf_cb_f {c : ClassFile.Cond} {x y : Int32} {T F : Prop} (h : ¬ tf_cb c x y = true) (f : F) : tf_br c x y T F := by
  cases c <;> simp only [tf_cb, decide_eq_true_eq, Bool.not_eq_true', decide_eq_false_iff_not] at h <;> simp only [tf_br]
  case ne => exact ⟨fun _ => f, fun q => absurd q h⟩
  all_goals exact ⟨fun q => absurd q h, fun _ => f⟩
theorem tf_sw_of {T : Int → Prop} {x : Int32} : ∀ (os : List Int) (lo : Int), (∀ (j : Nat) (o : Int), os[j]? = some o → x.toInt = lo + j → T o) → tf_sw T x lo os
  | [], _, _ => trivial
  | o :: r, lo, h => ⟨fun e => h 0 o rfl (by simpa using e), tf_sw_of r (lo + 1) (fun j o2 hj e => h (j + 1) o2 (by simpa using hj) (by rw [e]; simp; omega))⟩
def tf_xs (nc : Nat) (F : Nat → Option (Nat × Nat)) (M : Nat → Option (Nat × Nat × Bool)) (I : Nat → Option Value) (call : Nat → List Value → LH → Option (Value × LH)) (rk pc : Nat) (i : Instr) (L st : List Value) (h : LH) : Option tf_Rs := match i with
  | .iconst v => some (.inl (L, .int (Int32.ofInt v) :: st, h))
  | .bipush v => some (.inl (L, .int (Int8.ofInt v).toInt32 :: st, h))
  | .sipush v => some (.inl (L, .int (Int16.ofInt v).toInt32 :: st, h))
  | .lconst v => some (.inl (L, .long (Int64.ofNat (v : Nat)) :: st, h))
  | .aconst_null => some (.inl (L, .null :: st, h))
  | .ldc j => (match I j with | some (.int v) => some (.inl (L, .int v :: st, h)) | _ => none)
  | .ldc_w j => (match I j with | some (.int v) => some (.inl (L, .int v :: st, h)) | _ => none)
  | .ldc2_w j => (match I j with | some (.long v) => some (.inl (L, .long v :: st, h)) | _ => none)
  | .iload_n i => (match L[(i : Nat)]? with | some (.int x) => some (.inl (L, .int x :: st, h)) | _ => none)
  | .iload i => (match L[i]? with | some (.int x) => some (.inl (L, .int x :: st, h)) | _ => none)
  | .lload_n i => (match L[(i : Nat)]? with | some (.long x) => some (.inl (L, .long x :: st, h)) | _ => none)
  | .aload_n i => (match L[(i : Nat)]? with | some (.ref x) => some (.inl (L, .ref x :: st, h)) | some .null => some (.inl (L, .null :: st, h)) | _ => none)
  | .aload i => (match L[i]? with | some (.ref x) => some (.inl (L, .ref x :: st, h)) | some .null => some (.inl (L, .null :: st, h)) | _ => none)
  | .istore_n i => (match st with | .int x :: st => some (.inl (tf_s1 L (i : Nat) (.int x), st, h)) | _ => none)
  | .istore i => (match st with | .int x :: st => some (.inl (tf_s1 L i (.int x), st, h)) | _ => none)
  | .astore_n i => (match st with | .ref x :: st => some (.inl (tf_s1 L (i : Nat) (.ref x), st, h)) | _ => none)
  | .astore i => (match st with | .ref x :: st => some (.inl (tf_s1 L i (.ref x), st, h)) | _ => none)
  | .lstore_n i => (match st with | .long x :: st => some (.inl (tf_s2 L (i : Nat) (.long x), st, h)) | _ => none)
  | .iinc i v => (match L[i]? with | some (.int x) => some (.inl (tf_s1 L i (.int (x + Int32.ofInt v)), st, h)) | _ => none)
  | .iadd => (match st with | .int y :: .int x :: st => some (.inl (L, .int (x + y) :: st, h)) | _ => none)
  | .isub => (match st with | .int y :: .int x :: st => some (.inl (L, .int (x - y) :: st, h)) | _ => none)
  | .imul => (match st with | .int y :: .int x :: st => some (.inl (L, .int (x * y) :: st, h)) | _ => none)
  | .iand => (match st with | .int y :: .int x :: st => some (.inl (L, .int (x &&& y) :: st, h)) | _ => none)
  | .ior => (match st with | .int y :: .int x :: st => some (.inl (L, .int (x ||| y) :: st, h)) | _ => none)
  | .ishl => (match st with | .int y :: .int x :: st => some (.inl (L, .int (x <<< (y &&& 31)) :: st, h)) | _ => none)
  | .ishr => (match st with | .int y :: .int x :: st => some (.inl (L, .int (x >>> (y &&& 31)) :: st, h)) | _ => none)
  | .iushr => (match st with | .int y :: .int x :: st => some (.inl (L, .int ((x.toUInt32 >>> (y.toUInt32 &&& Int32.toUInt32 31)).toInt32) :: st, h)) | _ => none)
  | .ineg => (match st with | .int x :: st => some (.inl (L, .int (-x) :: st, h)) | _ => none)
  | .idiv => (match st with | .int y :: .int x :: st => if ¬ y = 0 then some (.inl (L, .int (x / y) :: st, h)) else none | _ => none)
  | .irem => (match st with | .int y :: .int x :: st => if ¬ y = 0 then some (.inl (L, .int (x - x / y * y) :: st, h)) else none | _ => none)
  | .lmul => (match st with | .long y :: .long x :: st => some (.inl (L, .long (x * y) :: st, h)) | _ => none)
  | .land => (match st with | .long y :: .long x :: st => some (.inl (L, .long (x &&& y) :: st, h)) | _ => none)
  | .lor => (match st with | .long y :: .long x :: st => some (.inl (L, .long (x ||| y) :: st, h)) | _ => none)
  | .lshl => (match st with | .int y :: .long x :: st => some (.inl (L, .long (x <<< (y.toInt64 &&& 63)) :: st, h)) | _ => none)
  | .lshr => (match st with | .int y :: .long x :: st => some (.inl (L, .long (x >>> (y.toInt64 &&& 63)) :: st, h)) | _ => none)
  | .lushr => (match st with | .int y :: .long x :: st => some (.inl (L, .long ((x.toUInt64 >>> (y.toInt64.toUInt64 &&& Int64.toUInt64 63)).toInt64) :: st, h)) | _ => none)
  | .lcmp => (match st with | .long y :: .long x :: st => some (.inl (L, .int (lg_cmp x y) :: st, h)) | _ => none)
  | .i2l => (match st with | .int x :: st => some (.inl (L, .long (x.toInt64) :: st, h)) | _ => none)
  | .l2i => (match st with | .long x :: st => some (.inl (L, .int (x.toInt32) :: st, h)) | _ => none)
  | .i2b => (match st with | .int x :: st => some (.inl (L, .int (x.toInt8.toInt32) :: st, h)) | _ => none)
  | .i2c => (match st with | .int x :: st => some (.inl (L, .int ((x.toUInt32 % 65536).toInt32) :: st, h)) | _ => none)
  | .dup => (match st with | .int x :: st => some (.inl (L, .int x :: .int x :: st, h)) | .ref x :: st => some (.inl (L, .ref x :: .ref x :: st, h)) | _ => none)
  | .pop => (match st with | .int x :: st => some (.inl (L, st, h)) | .ref x :: st => some (.inl (L, st, h)) | _ => none)
  | .dup2 => (match st with | .int x :: .ref y :: st => some (.inl (L, .int x :: .ref y :: .int x :: .ref y :: st, h)) | _ => none)
  | .goto o => some (.inr (.inl (tf_t pc o, L, st, h)))
  | .ifCond c o => (match st with | .int x :: st => if tf_cb c x 0 = true then some (.inr (.inl (tf_t pc o, L, st, h))) else some (.inl (L, st, h)) | _ => none)
  | .if_icmp c o => (match st with | .int y :: .int x :: st => if tf_cb c x y = true then some (.inr (.inl (tf_t pc o, L, st, h))) else some (.inl (L, st, h)) | _ => none)
  | .tableswitch d lo hi os => (match st with | .int x :: st => if x.toInt < lo ∨ hi < x.toInt ∨ hi ≠ lo + os.size - 1 then (if (x.toInt < lo ∨ hi < x.toInt) ∧ hi = lo + os.size - 1 then some (.inr (.inl (tf_t pc d, L, st, h))) else none) else (match os.toList[(x.toInt - lo).toNat]? with | some o => some (.inr (.inl (tf_t pc o, L, st, h))) | none => none) | _ => none)
  | .getfield j => (match F j, st with | some (ci, q), .ref x :: st => if tf_K x = ci ∧ x < nc then some (.inl (L, tf_gv h x ci q :: st, h)) else none | _, _ => none)
  | .putfield j => (match F j, st with | some (ci, q), .int v :: .ref x :: st => if tf_K x = ci ∧ x < nc ∧ tf_S ci q = 0 then some (.inl (L, st, (tf_up h.1 x q v, h.2))) else none | some (ci, q), .long v :: .ref x :: st => if tf_K x = ci ∧ x < nc ∧ tf_S ci q = 1 then some (.inl (L, st, (h.1, tf_upL h.2 x q v))) else none | _, _ => none)
  | .iaload => (match st with | .int i :: .ref x :: st => if tf_K x = 8 ∧ x < nc ∧ ¬ (i < 0 ∨ tf_N x ≤ i.toNatClampNeg) then some (.inl (L, .int (h.1 x i.toNatClampNeg) :: st, h)) else none | _ => none)
  | .caload => (match st with | .int i :: .ref x :: st => if tf_K x = 9 ∧ x < nc ∧ ¬ (i < 0 ∨ tf_N x ≤ i.toNatClampNeg) then some (.inl (L, .int (h.1 x i.toNatClampNeg) :: st, h)) else none | _ => none)
  | .baload => (match st with | .int i :: .ref x :: st => if (tf_K x = 10 ∨ tf_K x = 11) ∧ x < nc ∧ ¬ (i < 0 ∨ tf_N x ≤ i.toNatClampNeg) then some (.inl (L, .int (h.1 x i.toNatClampNeg) :: st, h)) else none | _ => none)
  | .laload => (match st with | .int i :: .ref x :: st => if tf_K x = 12 ∧ x < nc ∧ ¬ (i < 0 ∨ tf_N x ≤ i.toNatClampNeg) then some (.inl (L, .long (h.2 x i.toNatClampNeg) :: st, h)) else none | _ => none)
  | .aaload => (match st with | .int i :: .ref x :: st => if (tf_K x = 13 ∨ tf_K x = 14) ∧ x < nc ∧ ¬ (i < 0 ∨ tf_N x ≤ i.toNatClampNeg) then some (.inl (L, .ref (tf_R x i.toNatClampNeg) :: st, h)) else none | _ => none)
  | .iastore => (match st with | .int v :: .int i :: .ref x :: st => if tf_K x = 8 ∧ x < nc ∧ ¬ (i < 0 ∨ tf_N x ≤ i.toNatClampNeg) then some (.inl (L, st, (tf_up h.1 x i.toNatClampNeg v, h.2))) else none | _ => none)
  | .castore => (match st with | .int v :: .int i :: .ref x :: st => if tf_K x = 9 ∧ x < nc ∧ ¬ (i < 0 ∨ tf_N x ≤ i.toNatClampNeg) then some (.inl (L, st, (tf_up h.1 x i.toNatClampNeg (vp_nar .char v), h.2))) else none | _ => none)
  | .lastore => (match st with | .long v :: .int i :: .ref x :: st => if tf_K x = 12 ∧ x < nc ∧ ¬ (i < 0 ∨ tf_N x ≤ i.toNatClampNeg) then some (.inl (L, st, (h.1, tf_upL h.2 x i.toNatClampNeg v))) else none | _ => none)
  | .bastore => (match st with | .int v :: .int i :: .ref x :: st => if x < nc ∧ ¬ (i < 0 ∨ tf_N x ≤ i.toNatClampNeg) then (if tf_K x = 10 then some (.inl (L, st, (tf_up h.1 x i.toNatClampNeg (vp_nar .byte v), h.2))) else if tf_K x = 11 then some (.inl (L, st, (tf_up h.1 x i.toNatClampNeg (vp_nar .boolean v), h.2))) else none) else none | _ => none)
  | .invokevirtual j => (match M j with | some (kn, na, vd) => if na ≤ st.length ∧ ((st.drop na).map Value.category).sum ≤ 8 then (match call kn (st.take na).reverse h with | some (r, h) => some (.inl (L, (if vd = true then st.drop na else r :: st.drop na), h)) | none => none) else none | none => none)
  | .invokestatic j => (match M (j + 100000) with | some (kn, na, vd) => if na ≤ st.length ∧ ((st.drop na).map Value.category).sum ≤ 8 then (match call kn (st.take na).reverse h with | some (r, h) => some (.inl (L, (if vd = true then st.drop na else r :: st.drop na), h)) | none => none) else none | none => none)
  | .ireturn => (match st with | [.int v] => if rk = 1 ∨ (rk = 2 ∧ vp_nar .boolean v = v) then some (.inr (.inr (.int v, h))) else none | _ => none)
  | .return_ => (match st with | [] => if rk = 0 then some (.inr (.inr (tf_z, h))) else none | _ => none)
  | _ => none
def tf_xk (Q : tf_Q) (X : tf_X) (k : tf_Kt) (r : tf_Rs) : Prop := match r with
  | .inl (L, st, h) => k L st h
  | .inr (.inl (pc, L, st, h)) => X pc L st h
  | .inr (.inr (v, h)) => Q v h
set_option maxHeartbeats 2000000 in
theorem tf_xs_ok {nc : Nat} {C : tf_C} {F : Nat → Option (Nat × Nat)} {M : Nat → Option (Nat × Nat × Bool)} {I : Nat → Option Value} {call : Nat → List Value → LH → Option (Value × LH)} {rk : Nat} {Q : tf_Q} {X : tf_X} {k : tf_Kt} (hc : ∀ kn As h v h', call kn As h = some (v, h') → ∀ Q : tf_Q, Q v h' → C kn As h Q) {pc : Nat} {i : Instr} {L st : List Value} {h : LH} {r : tf_Rs} (hx : tf_xs nc F M I call rk pc i L st h = some r) (hr : tf_xk Q X k r) : tf_st nc C F M I rk Q X pc i L st h k := by
  cases i <;> try (exact absurd (show (none : Option tf_Rs) = some _ from hx) (by simp))
  case iconst v =>
    simp only [tf_xs] at hx
    simp only [tf_st]
    cases hx
    exact hr
  case bipush v =>
    simp only [tf_xs] at hx
    simp only [tf_st]
    cases hx
    exact hr
  case sipush v =>
    simp only [tf_xs] at hx
    simp only [tf_st]
    cases hx
    exact hr
  case lconst v =>
    simp only [tf_xs] at hx
    simp only [tf_st]
    cases hx
    exact hr
  case aconst_null =>
    simp only [tf_xs] at hx
    simp only [tf_st]
    cases hx
    exact hr
  case ldc j =>
    simp only [tf_xs] at hx
    simp only [tf_st]
    split at hx
    · rename_i he
      cases hx
      first | (rw [he]; exact hr) | exact hr
    · cases hx
  case ldc_w j =>
    simp only [tf_xs] at hx
    simp only [tf_st]
    split at hx
    · rename_i he
      cases hx
      first | (rw [he]; exact hr) | exact hr
    · cases hx
  case ldc2_w j =>
    simp only [tf_xs] at hx
    simp only [tf_st]
    split at hx
    · rename_i he
      cases hx
      first | (rw [he]; exact hr) | exact hr
    · cases hx
  case iload_n i =>
    simp only [tf_xs] at hx
    simp only [tf_st]
    split at hx
    · rename_i he
      cases hx
      first | (rw [he]; exact hr) | exact hr
    · cases hx
  case iload i =>
    simp only [tf_xs] at hx
    simp only [tf_st]
    split at hx
    · rename_i he
      cases hx
      first | (rw [he]; exact hr) | exact hr
    · cases hx
  case lload_n i =>
    simp only [tf_xs] at hx
    simp only [tf_st]
    split at hx
    · rename_i he
      cases hx
      first | (rw [he]; exact hr) | exact hr
    · cases hx
  case aload_n i =>
    simp only [tf_xs] at hx
    simp only [tf_st]
    split at hx
    · rename_i he
      cases hx
      rw [he]
      exact hr
    · rename_i he
      cases hx
      rw [he]
      exact hr
    · cases hx
  case aload i =>
    simp only [tf_xs] at hx
    simp only [tf_st]
    split at hx
    · rename_i he
      cases hx
      rw [he]
      exact hr
    · rename_i he
      cases hx
      rw [he]
      exact hr
    · cases hx
  case istore_n i =>
    simp only [tf_xs] at hx
    simp only [tf_st]
    split at hx
    · cases hx
      exact hr
    · cases hx
  case istore i =>
    simp only [tf_xs] at hx
    simp only [tf_st]
    split at hx
    · cases hx
      exact hr
    · cases hx
  case astore_n i =>
    simp only [tf_xs] at hx
    simp only [tf_st]
    split at hx
    · cases hx
      exact hr
    · cases hx
  case astore i =>
    simp only [tf_xs] at hx
    simp only [tf_st]
    split at hx
    · cases hx
      exact hr
    · cases hx
  case lstore_n i =>
    simp only [tf_xs] at hx
    simp only [tf_st]
    split at hx
    · cases hx
      exact hr
    · cases hx
  case iinc i v =>
    simp only [tf_xs] at hx
    simp only [tf_st]
    split at hx
    · rename_i he
      cases hx
      first | (rw [he]; exact hr) | exact hr
    · cases hx
  case iadd =>
    simp only [tf_xs] at hx
    simp only [tf_st]
    split at hx
    · cases hx
      exact hr
    · cases hx
  case isub =>
    simp only [tf_xs] at hx
    simp only [tf_st]
    split at hx
    · cases hx
      exact hr
    · cases hx
  case imul =>
    simp only [tf_xs] at hx
    simp only [tf_st]
    split at hx
    · cases hx
      exact hr
    · cases hx
  case iand =>
    simp only [tf_xs] at hx
    simp only [tf_st]
    split at hx
    · cases hx
      exact hr
    · cases hx
  case ior =>
    simp only [tf_xs] at hx
    simp only [tf_st]
    split at hx
    · cases hx
      exact hr
    · cases hx
  case ishl =>
    simp only [tf_xs] at hx
    simp only [tf_st]
    split at hx
    · cases hx
      exact hr
    · cases hx
  case ishr =>
    simp only [tf_xs] at hx
    simp only [tf_st]
    split at hx
    · cases hx
      exact hr
    · cases hx
  case iushr =>
    simp only [tf_xs] at hx
    simp only [tf_st]
    split at hx
    · cases hx
      exact hr
    · cases hx
  case ineg =>
    simp only [tf_xs] at hx
    simp only [tf_st]
    split at hx
    · cases hx
      exact hr
    · cases hx
  case idiv =>
    simp only [tf_xs] at hx
    simp only [tf_st]
    split at hx
    · split at hx
      · rename_i hq
        cases hx
        exact ⟨hq, hr⟩
      · cases hx
    · cases hx
  case irem =>
    simp only [tf_xs] at hx
    simp only [tf_st]
    split at hx
    · split at hx
      · rename_i hq
        cases hx
        exact ⟨hq, hr⟩
      · cases hx
    · cases hx
  case lmul =>
    simp only [tf_xs] at hx
    simp only [tf_st]
    split at hx
    · cases hx
      exact hr
    · cases hx
  case land =>
    simp only [tf_xs] at hx
    simp only [tf_st]
    split at hx
    · cases hx
      exact hr
    · cases hx
  case lor =>
    simp only [tf_xs] at hx
    simp only [tf_st]
    split at hx
    · cases hx
      exact hr
    · cases hx
  case lshl =>
    simp only [tf_xs] at hx
    simp only [tf_st]
    split at hx
    · cases hx
      exact hr
    · cases hx
  case lshr =>
    simp only [tf_xs] at hx
    simp only [tf_st]
    split at hx
    · cases hx
      exact hr
    · cases hx
  case lushr =>
    simp only [tf_xs] at hx
    simp only [tf_st]
    split at hx
    · cases hx
      exact hr
    · cases hx
  case lcmp =>
    simp only [tf_xs] at hx
    simp only [tf_st]
    split at hx
    · cases hx
      exact hr
    · cases hx
  case i2l =>
    simp only [tf_xs] at hx
    simp only [tf_st]
    split at hx
    · cases hx
      exact hr
    · cases hx
  case l2i =>
    simp only [tf_xs] at hx
    simp only [tf_st]
    split at hx
    · cases hx
      exact hr
    · cases hx
  case i2b =>
    simp only [tf_xs] at hx
    simp only [tf_st]
    split at hx
    · cases hx
      exact hr
    · cases hx
  case i2c =>
    simp only [tf_xs] at hx
    simp only [tf_st]
    split at hx
    · cases hx
      exact hr
    · cases hx
  case dup =>
    simp only [tf_xs] at hx
    simp only [tf_st]
    split at hx
    · cases hx
      exact hr
    · cases hx
      exact hr
    · cases hx
  case pop =>
    simp only [tf_xs] at hx
    simp only [tf_st]
    split at hx
    · cases hx
      exact hr
    · cases hx
      exact hr
    · cases hx
  case dup2 =>
    simp only [tf_xs] at hx
    simp only [tf_st]
    split at hx
    · cases hx
      exact hr
    · cases hx
  case goto o =>
    simp only [tf_xs] at hx
    simp only [tf_st]
    cases hx
    exact hr
  case ifCond c9 o =>
    simp only [tf_xs] at hx
    simp only [tf_st]
    split at hx
    · split at hx
      · rename_i hq
        cases hx
        exact tf_cb_t hq hr
      · rename_i hq
        cases hx
        exact tf_cb_f hq hr
    · cases hx
  case if_icmp c9 o =>
    simp only [tf_xs] at hx
    simp only [tf_st]
    split at hx
    · split at hx
      · rename_i hq
        cases hx
        exact tf_cb_t hq hr
      · rename_i hq
        cases hx
        exact tf_cb_f hq hr
    · cases hx
  case tableswitch d lo hi os =>
    simp only [tf_xs] at hx
    simp only [tf_st]
    split at hx
    · rename_i x st2
      split at hx
      · split at hx
        · rename_i hq
          cases hx
          refine ⟨fun _ => hr, tf_sw_of _ _ (fun j o2 hj e => ?_)⟩
          have hl := (List.getElem?_eq_some_iff.mp hj).1
          rw [Array.length_toList] at hl
          rcases hq.1 with q | q <;> omega
        · cases hx
      · rename_i hq
        split at hx
        · rename_i o2 ho
          cases hx
          refine ⟨fun q => absurd q (fun q => hq (q.elim Or.inl (fun z => Or.inr (Or.inl z)))), tf_sw_of _ _ (fun j o3 hj e => ?_)⟩
          have : (x.toInt - lo).toNat = j := by omega
          rw [this, hj] at ho
          cases ho
          exact hr
        · cases hx
    · cases hx
  case getfield j =>
    simp only [tf_xs] at hx
    simp only [tf_st]
    split at hx
    · rename_i hf
      split at hx
      · rename_i hq
        cases hx
        rw [hf]
        exact ⟨hq, hr⟩
      · cases hx
    · cases hx
  case putfield j =>
    simp only [tf_xs] at hx
    simp only [tf_st]
    split at hx
    · rename_i hf
      split at hx
      · rename_i hq
        cases hx
        rw [hf]
        exact ⟨hq, hr⟩
      · cases hx
    · rename_i hf
      split at hx
      · rename_i hq
        cases hx
        rw [hf]
        exact ⟨hq, hr⟩
      · cases hx
    · cases hx
  case iaload =>
    simp only [tf_xs] at hx
    simp only [tf_st]
    split at hx
    · split at hx
      · rename_i hq
        cases hx
        exact ⟨hq, hr⟩
      · cases hx
    · cases hx
  case caload =>
    simp only [tf_xs] at hx
    simp only [tf_st]
    split at hx
    · split at hx
      · rename_i hq
        cases hx
        exact ⟨hq, hr⟩
      · cases hx
    · cases hx
  case baload =>
    simp only [tf_xs] at hx
    simp only [tf_st]
    split at hx
    · split at hx
      · rename_i hq
        cases hx
        exact ⟨hq, hr⟩
      · cases hx
    · cases hx
  case laload =>
    simp only [tf_xs] at hx
    simp only [tf_st]
    split at hx
    · split at hx
      · rename_i hq
        cases hx
        exact ⟨hq, hr⟩
      · cases hx
    · cases hx
  case aaload =>
    simp only [tf_xs] at hx
    simp only [tf_st]
    split at hx
    · split at hx
      · rename_i hq
        cases hx
        exact ⟨hq, hr⟩
      · cases hx
    · cases hx
  case iastore =>
    simp only [tf_xs] at hx
    simp only [tf_st]
    split at hx
    · split at hx
      · rename_i hq
        cases hx
        exact ⟨hq, hr⟩
      · cases hx
    · cases hx
  case castore =>
    simp only [tf_xs] at hx
    simp only [tf_st]
    split at hx
    · split at hx
      · rename_i hq
        cases hx
        exact ⟨hq, hr⟩
      · cases hx
    · cases hx
  case lastore =>
    simp only [tf_xs] at hx
    simp only [tf_st]
    split at hx
    · split at hx
      · rename_i hq
        cases hx
        exact ⟨hq, hr⟩
      · cases hx
    · cases hx
  case bastore =>
    simp only [tf_xs] at hx
    simp only [tf_st]
    split at hx
    · split at hx
      · rename_i hq
        split at hx
        · rename_i hk
          cases hx
          exact ⟨hq, Or.inl ⟨hk, hr⟩⟩
        · split at hx
          · rename_i hk
            cases hx
            exact ⟨hq, Or.inr ⟨hk, hr⟩⟩
          · cases hx
      · cases hx
    · cases hx
  case invokevirtual j =>
    simp only [tf_xs] at hx
    simp only [tf_st]
    split at hx
    · rename_i hm
      split at hx
      · rename_i hq
        split at hx
        · rename_i hcl
          cases hx
          rw [hm]
          exact ⟨hq.1, hq.2, hc _ _ _ _ _ hcl _ hr⟩
        · cases hx
      · cases hx
    · cases hx
  case invokestatic j =>
    simp only [tf_xs] at hx
    simp only [tf_st]
    split at hx
    · rename_i hm
      split at hx
      · rename_i hq
        split at hx
        · rename_i hcl
          cases hx
          rw [hm]
          exact ⟨hq.1, hq.2, hc _ _ _ _ _ hcl _ hr⟩
        · cases hx
      · cases hx
    · cases hx
  case ireturn =>
    simp only [tf_xs] at hx
    simp only [tf_st]
    split at hx
    · split at hx
      · rename_i hq
        cases hx
        refine ⟨?_, hr⟩
        rcases hq with rfl | ⟨rfl, hq⟩
        · trivial
        · exact hq
      · cases hx
    · cases hx
  case return_ =>
    simp only [tf_xs] at hx
    simp only [tf_st]
    split at hx
    · split at hx
      · rename_i hq
        cases hx
        exact ⟨hq, hr⟩
      · cases hx
    · cases hx
def tf_xb (nc : Nat) (F : Nat → Option (Nat × Nat)) (M : Nat → Option (Nat × Nat × Bool)) (I : Nat → Option Value) (call : Nat → List Value → LH → Option (Value × LH)) (rk : Nat) : Nat → List (Instr × Nat) → List Value → List Value → LH → Option ((Nat × List Value × List Value × LH) ⊕ (Value × LH))
  | pc, [], L, st, h => some (.inl (pc, L, st, h))
  | pc, (i, n) :: r, L, st, h => match tf_xs nc F M I call rk pc i L st h with
    | some (.inl (L, st, h)) => tf_xb nc F M I call rk (pc + n) r L st h
    | some (.inr r) => some r
    | none => none
theorem tf_xb_ok {nc : Nat} {C : tf_C} {F : Nat → Option (Nat × Nat)} {M : Nat → Option (Nat × Nat × Bool)} {I : Nat → Option Value} {call : Nat → List Value → LH → Option (Value × LH)} {rk : Nat} {Q : tf_Q} {X : tf_X} (hc : ∀ kn As h v h', call kn As h = some (v, h') → ∀ Q : tf_Q, Q v h' → C kn As h Q) : ∀ (b : List (Instr × Nat)) (pc : Nat) (L st : List Value) (h : LH) (r : (Nat × List Value × List Value × LH) ⊕ (Value × LH)), tf_xb nc F M I call rk pc b L st h = some r → (match r with | .inl (pc, L, st, h) => X pc L st h | .inr (v, h) => Q v h) → tf_wp nc C F M I (fun _ => none) rk Q X pc b L st h
  | [], pc, L, st, h, r, hx, hr => by
    cases hx
    exact hr
  | (i, n) :: b, pc, L, st, h, r, hx, hr => by
    simp only [tf_xb] at hx
    simp only [tf_wp]
    split at hx
    · rename_i hs
      exact tf_xs_ok hc hs (tf_xb_ok hc b (pc + n) _ _ _ r hx hr)
    · rename_i hs
      cases hx
      refine tf_xs_ok hc hs ?_
      cases r with
      | inl q => exact hr
      | inr q => exact hr
    · cases hx
def tf_xr (nc : Nat) (F : Nat → Option (Nat × Nat)) (M : Nat → Option (Nat × Nat × Bool)) (I : Nat → Option Value) (call : Nat → List Value → LH → Option (Value × LH)) (rk : Nat) (B : tf_Bk) : Nat → Nat → List Value → List Value → LH → Option (Value × LH)
  | 0, _, _, _, _ => none
  | n + 1, pc, L, st, h => match tf_xb nc F M I call rk pc (tf_at B pc) L st h with
    | some (.inl (pc, L, st, h)) => tf_xr nc F M I call rk B n pc L st h
    | some (.inr r) => some r
    | none => none
theorem tf_xr_ok {nc : Nat} {C : tf_C} {F : Nat → Option (Nat × Nat)} {M : Nat → Option (Nat × Nat × Bool)} {I : Nat → Option Value} {call : Nat → List Value → LH → Option (Value × LH)} {rk : Nat} {B : tf_Bk} {Q : tf_Q} (hc : ∀ kn As h v h', call kn As h = some (v, h') → ∀ Q : tf_Q, Q v h' → C kn As h Q) : ∀ (n pc : Nat) (L st : List Value) (h : LH) (v : Value) (h' : LH), tf_xr nc F M I call rk B n pc L st h = some (v, h') → Q v h' → tf_LW nc C F M I (fun _ => none) rk B Q pc L st h
  | 0, _, _, _, _, _, _, hx, _ => by cases hx
  | n + 1, pc, L, st, h, v, h', hx, hq => by
    simp only [tf_xr] at hx
    refine tf_LW_go ?_
    split at hx
    · rename_i hs
      exact tf_xb_ok hc _ _ _ _ _ _ hs (tf_xr_ok hc n _ _ _ _ v h' hx hq)
    · rename_i r hs
      cases hx
      exact tf_xb_ok hc _ _ _ _ _ _ hs hq
    · cases hx
def tf_rcb (nc ci maxL : Nat) (As : List Value) : Bool := decide ((tf_ar As).length ≤ maxL) && (decide (ci = 99) || match As with
  | .ref b :: _ => decide (tf_K b = ci) && decide (b < nc)
  | _ => false)
theorem tf_rcb_ok {nc ci maxL : Nat} {As : List Value} (h : tf_rcb nc ci maxL As = true) : tf_rc nc ci maxL As := by
  unfold tf_rcb at h
  simp only [Bool.and_eq_true, Bool.or_eq_true, decide_eq_true_eq] at h
  refine ⟨h.1, h.2.imp id (fun q => ?_)⟩
  split at q
  · simp only [Bool.and_eq_true, decide_eq_true_eq] at q
    exact q
  · cases q
def tf_xe (nc kn : Nat) (As : List Value) (h : LH) : Option (Value × LH) := match kn - 1000, As with
  | 0, [.int x] => if kn = 1000 then some (.int (if 0 ≤ x then x else 0 - x), h) else none
  | 1, [.int x, .int y] => if kn = 1001 then some (.int (if x < y then y else x), h) else none
  | 2, [.int x, .int y] => if kn = 1002 then some (.int (if y < x then y else x), h) else none
  | 3, [.ref a, .int sp, .ref b, .int dp, .int n] => if kn = 1003 ∧ tf_K a = 8 ∧ tf_K b = 8 ∧ a < nc ∧ b < nc ∧ ¬ sp < 0 ∧ ¬ dp < 0 ∧ ¬ n < 0 ∧ sp.toNatClampNeg + n.toNatClampNeg ≤ tf_N a ∧ dp.toNatClampNeg + n.toNatClampNeg ≤ tf_N b then some (tf_z, (tf_cp h.1 a b sp.toNatClampNeg dp.toNatClampNeg n.toNatClampNeg, h.2)) else none
  | _, _ => none
set_option maxRecDepth 100000 in
theorem tf_xe_ok {nc kn : Nat} {As : List Value} {h : LH} {v : Value} {h' : LH} (hx : tf_xe nc kn As h = some (v, h')) (Q : tf_Q) (hq : Q v h') : tf_ext nc kn As h Q := by
  unfold tf_xe at hx
  unfold tf_ext
  split at hx
  · rename_i hk
    split at hx
    · rename_i hc
      cases hx
      rw [hk]
      exact ⟨hc, hq⟩
    · cases hx
  · rename_i hk
    split at hx
    · rename_i hc
      cases hx
      rw [hk]
      exact ⟨hc, hq⟩
    · cases hx
  · rename_i hk
    split at hx
    · rename_i hc
      cases hx
      rw [hk]
      exact ⟨hc, hq⟩
    · cases hx
  · rename_i hk
    split at hx
    · rename_i hc
      cases hx
      rw [hk]
      exact ⟨hc.1, hc.2, hq⟩
    · cases hx
  · cases hx
/-- method kn with d levels of calls, run -/
def tf_xd (nc fu : Nat) : Nat → Nat → List Value → LH → Option (Value × LH)
  | 0, kn, As, h => tf_xe nc kn As h
  | d + 1, kn, As, h => if kn < 1000 then (if kn < 222 ∧ tf_rcb nc (tf_mc kn) (tf_ml kn) As = true then tf_xr nc (tf_F (tf_mo kn)) (tf_M (tf_mo kn)) (tf_I (tf_mo kn)) (tf_xd nc fu d) (tf_rkOf (tf_mr kn)) (tf_B kn) fu 0 (tf_en (tf_ml kn) As) [] h else none) else tf_xe nc kn As h
set_option maxRecDepth 100000 in
theorem tf_xd_ok {nc fu : Nat} : ∀ (d kn : Nat) (As : List Value) (h : LH) (v : Value) (h' : LH), tf_xd nc fu d kn As h = some (v, h') → ∀ Q : tf_Q, Q v h' → tf_Cd nc d kn As h Q
  | 0, kn, As, h, v, h', hx, Q, hq => tf_xe_ok hx Q hq
  | d + 1, kn, As, h, v, h', hx, Q, hq => by
    simp only [tf_xd] at hx
    simp only [tf_Cd]
    split at hx
    · rename_i hk
      rw [if_pos hk]
      split at hx
      · rename_i hrc
        rw [tf_Eg_lo hrc.1]
        exact ⟨tf_rcb_ok hrc.2, tf_xr_ok (tf_xd_ok d) _ _ _ _ _ v h' hx hq⟩
      · cases hx
    · rename_i hk
      rw [if_neg hk]
      exact tf_xe_ok hx Q hq
