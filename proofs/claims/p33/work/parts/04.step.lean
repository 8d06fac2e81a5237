/-- what an int answer must be, by the kind of answer: 1 int, 2 boolean -/
def tf_rb (rk : Nat) (v : Int32) : Prop := match rk with
  | 1 => True
  | 2 => vp_nar .boolean v = v
  | _ => False
/-! ===== the light machine's step, as what must hold before it ===== -/
abbrev tf_X : Type := Nat → List Value → List Value → LH → Prop
abbrev tf_Q : Type := Value → LH → Prop
abbrev tf_C : Type := Nat → List Value → LH → tf_Q → Prop
abbrev tf_Kt : Type := List Value → List Value → LH → Prop
abbrev tf_Hk : Type := Nat → Option (List Value → List Value → LH → tf_Kt → tf_X → Prop)
def tf_t (pc : Nat) (off : Int) : Nat := ((pc : Int) + off).toNat
def tf_br (c : ClassFile.Cond) (x y : Int32) (T F : Prop) : Prop := match c with
  | .eq => (x = y → T) ∧ (¬ x = y → F)
  | .ne => (x = y → F) ∧ (¬ x = y → T)
  | .lt => (x < y → T) ∧ (¬ x < y → F)
  | .ge => (y ≤ x → T) ∧ (¬ y ≤ x → F)
  | .gt => (y < x → T) ∧ (¬ y < x → F)
  | .le => (x ≤ y → T) ∧ (¬ x ≤ y → F)
def tf_gv (h : LH) (c ci k : Nat) : Value := if tf_S ci k = 0 then .int (h.1 c k) else if tf_S ci k = 1 then .long (h.2 c k) else .ref (tf_R c k)
def tf_sw (T : Int → Prop) (x : Int32) : Int → List Int → Prop
  | _, [] => True
  | lo, o :: r => (x.toInt = lo → T o) ∧ tf_sw T x (lo + 1) r

def tf_st (nc : Nat) (C : tf_C) (F : Nat → Option (Nat × Nat)) (M : Nat → Option (Nat × Nat × Bool)) (I : Nat → Option Value) (rk : Nat) (Q : tf_Q) (X : tf_X) (pc : Nat) (i : Instr) (L st : List Value) (h : LH) (k : tf_Kt) : Prop := match i with
  | .iconst v => k L (.int (Int32.ofInt v) :: st) h
  | .bipush v => k L (.int (Int8.ofInt v).toInt32 :: st) h
  | .sipush v => k L (.int (Int16.ofInt v).toInt32 :: st) h
  | .lconst v => k L (.long (Int64.ofNat (v : Nat)) :: st) h
  | .ldc j => (match I j with | some (.int v) => k L (.int v :: st) h | _ => False)
  | .ldc_w j => (match I j with | some (.int v) => k L (.int v :: st) h | _ => False)
  | .ldc2_w j => (match I j with | some (.long v) => k L (.long v :: st) h | _ => False)
  | .iload_n i => (match L[(i : Nat)]? with | some (.int x) => k L (.int x :: st) h | _ => False)
  | .iload i => (match L[i]? with | some (.int x) => k L (.int x :: st) h | _ => False)
  | .lload_n i => (match L[(i : Nat)]? with | some (.long x) => k L (.long x :: st) h | _ => False)
  | .aload_n i => (match L[(i : Nat)]? with | some (.ref x) => k L (.ref x :: st) h | some .null => k L (.null :: st) h | _ => False)
  | .aload i => (match L[i]? with | some (.ref x) => k L (.ref x :: st) h | some .null => k L (.null :: st) h | _ => False)
  | .istore_n i => (match st with | .int x :: st => k (tf_s1 L (i : Nat) (.int x)) st h | _ => False)
  | .istore i => (match st with | .int x :: st => k (tf_s1 L i (.int x)) st h | _ => False)
  | .astore_n i => (match st with | .ref x :: st => k (tf_s1 L (i : Nat) (.ref x)) st h | _ => False)
  | .astore i => (match st with | .ref x :: st => k (tf_s1 L i (.ref x)) st h | _ => False)
  | .lstore_n i => (match st with | .long x :: st => k (tf_s2 L (i : Nat) (.long x)) st h | _ => False)
  | .iinc i v => (match L[i]? with | some (.int x) => k (tf_s1 L i (.int (x + Int32.ofInt v))) st h | _ => False)
  | .iadd => (match st with | .int y :: .int x :: st => k L (.int (x + y) :: st) h | _ => False)
  | .isub => (match st with | .int y :: .int x :: st => k L (.int (x - y) :: st) h | _ => False)
  | .imul => (match st with | .int y :: .int x :: st => k L (.int (x * y) :: st) h | _ => False)
  | .iand => (match st with | .int y :: .int x :: st => k L (.int (x &&& y) :: st) h | _ => False)
  | .ior => (match st with | .int y :: .int x :: st => k L (.int (x ||| y) :: st) h | _ => False)
  | .ishl => (match st with | .int y :: .int x :: st => k L (.int (x <<< (y &&& 31)) :: st) h | _ => False)
  | .ishr => (match st with | .int y :: .int x :: st => k L (.int (x >>> (y &&& 31)) :: st) h | _ => False)
  | .ineg => (match st with | .int x :: st => k L (.int (-x) :: st) h | _ => False)
  | .idiv => (match st with | .int y :: .int x :: st => (¬ y = 0) ∧ k L (.int (x / y) :: st) h | _ => False)
  | .irem => (match st with | .int y :: .int x :: st => (¬ y = 0) ∧ k L (.int (x - x / y * y) :: st) h | _ => False)
  | .lmul => (match st with | .long y :: .long x :: st => k L (.long (x * y) :: st) h | _ => False)
  | .land => (match st with | .long y :: .long x :: st => k L (.long (x &&& y) :: st) h | _ => False)
  | .lor => (match st with | .long y :: .long x :: st => k L (.long (x ||| y) :: st) h | _ => False)
  | .lshl => (match st with | .int y :: .long x :: st => k L (.long (x <<< (y.toInt64 &&& 63)) :: st) h | _ => False)
  | .lshr => (match st with | .int y :: .long x :: st => k L (.long (x >>> (y.toInt64 &&& 63)) :: st) h | _ => False)
  | .lushr => (match st with | .int y :: .long x :: st => k L (.long ((x.toUInt64 >>> (y.toInt64.toUInt64 &&& Int64.toUInt64 63)).toInt64) :: st) h | _ => False)
  | .iushr => (match st with | .int y :: .int x :: st => k L (.int ((x.toUInt32 >>> (y.toUInt32 &&& Int32.toUInt32 31)).toInt32) :: st) h | _ => False)
  | .lcmp => (match st with | .long y :: .long x :: st => k L (.int (lg_cmp x y) :: st) h | _ => False)
  | .i2l => (match st with | .int x :: st => k L (.long (x.toInt64) :: st) h | _ => False)
  | .l2i => (match st with | .long x :: st => k L (.int (x.toInt32) :: st) h | _ => False)
  | .i2b => (match st with | .int x :: st => k L (.int (x.toInt8.toInt32) :: st) h | _ => False)
  | .i2c => (match st with | .int x :: st => k L (.int ((x.toUInt32 % 65536).toInt32) :: st) h | _ => False)
  | .dup => (match st with | .int x :: st => k L (.int x :: .int x :: st) h | .ref x :: st => k L (.ref x :: .ref x :: st) h | _ => False)
  | .pop => (match st with | .int x :: st => k L st h | .ref x :: st => k L st h | _ => False)
  | .dup2 => (match st with | .int x :: .ref y :: st => k L (.int x :: .ref y :: .int x :: .ref y :: st) h | _ => False)
  | .aconst_null => k L (.null :: st) h
  | .goto o => X (tf_t pc o) L st h
  | .ifCond c o => (match st with | .int x :: st => tf_br c x 0 (X (tf_t pc o) L st h) (k L st h) | _ => False)
  | .if_icmp c o => (match st with | .int y :: .int x :: st => tf_br c x y (X (tf_t pc o) L st h) (k L st h) | _ => False)
  | .ifnull o => (match st with | .null :: st => X (tf_t pc o) L st h | .ref x :: st => k L st h | _ => False)
  | .tableswitch d lo hi os => (match st with | .int x :: st => ((x.toInt < lo ∨ hi < x.toInt) → X (tf_t pc d) L st h) ∧ tf_sw (fun o => X (tf_t pc o) L st h) x lo os.toList | _ => False)
  | .getfield j => (match F j, st with | some (ci, q), .ref x :: st => (tf_K x = ci ∧ x < nc) ∧ k L (tf_gv h x ci q :: st) h | _, _ => False)
  | .putfield j => (match F j, st with | some (ci, q), .int v :: .ref x :: st => (tf_K x = ci ∧ x < nc ∧ tf_S ci q = 0) ∧ k L st (tf_up h.1 x q v, h.2) | some (ci, q), .long v :: .ref x :: st => (tf_K x = ci ∧ x < nc ∧ tf_S ci q = 1) ∧ k L st (h.1, tf_upL h.2 x q v) | _, _ => False)
  | .iaload => (match st with | .int i :: .ref x :: st => (tf_K x = 8 ∧ x < nc ∧ vp_in i (tf_N x)) ∧ k L (.int (h.1 x i.toNatClampNeg) :: st) h | _ => False)
  | .caload => (match st with | .int i :: .ref x :: st => (tf_K x = 9 ∧ x < nc ∧ vp_in i (tf_N x)) ∧ k L (.int (h.1 x i.toNatClampNeg) :: st) h | _ => False)
  | .baload => (match st with | .int i :: .ref x :: st => ((tf_K x = 10 ∨ tf_K x = 11) ∧ x < nc ∧ vp_in i (tf_N x)) ∧ k L (.int (h.1 x i.toNatClampNeg) :: st) h | _ => False)
  | .laload => (match st with | .int i :: .ref x :: st => (tf_K x = 12 ∧ x < nc ∧ vp_in i (tf_N x)) ∧ k L (.long (h.2 x i.toNatClampNeg) :: st) h | _ => False)
  | .aaload => (match st with | .int i :: .ref x :: st => ((tf_K x = 13 ∨ tf_K x = 14) ∧ x < nc ∧ vp_in i (tf_N x)) ∧ k L (.ref (tf_R x i.toNatClampNeg) :: st) h | _ => False)
  | .iastore => (match st with | .int v :: .int i :: .ref x :: st => (tf_K x = 8 ∧ x < nc ∧ vp_in i (tf_N x)) ∧ k L st (tf_up h.1 x i.toNatClampNeg v, h.2) | _ => False)
  | .castore => (match st with | .int v :: .int i :: .ref x :: st => (tf_K x = 9 ∧ x < nc ∧ vp_in i (tf_N x)) ∧ k L st (tf_up h.1 x i.toNatClampNeg (vp_nar .char v), h.2) | _ => False)
  | .bastore => (match st with | .int v :: .int i :: .ref x :: st => (x < nc ∧ vp_in i (tf_N x)) ∧ ((tf_K x = 10 ∧ k L st (tf_up h.1 x i.toNatClampNeg (vp_nar .byte v), h.2)) ∨ (tf_K x = 11 ∧ k L st (tf_up h.1 x i.toNatClampNeg (vp_nar .boolean v), h.2))) | _ => False)
  | .lastore => (match st with | .long v :: .int i :: .ref x :: st => (tf_K x = 12 ∧ x < nc ∧ vp_in i (tf_N x)) ∧ k L st (h.1, tf_upL h.2 x i.toNatClampNeg v) | _ => False)
  | .invokevirtual j => (match M j with | some (kn, na, vd) => na ≤ st.length ∧ ((st.drop na).map Value.category).sum ≤ 8 ∧ C kn (st.take na).reverse h (fun r h => k L (if vd = true then st.drop na else r :: st.drop na) h) | none => False)
  | .invokestatic j => (match M (j + 100000) with | some (kn, na, vd) => na ≤ st.length ∧ ((st.drop na).map Value.category).sum ≤ 8 ∧ C kn (st.take na).reverse h (fun r h => k L (if vd = true then st.drop na else r :: st.drop na) h) | none => False)
  | .ireturn => (match st with | [.int v] => tf_rb rk v ∧ Q (.int v) h | _ => False)
  | .areturn => (match st with | [.ref v] => rk = 3 ∧ Q (.ref v) h | [.null] => rk = 3 ∧ Q .null h | _ => False)
  | .return_ => (match st with | [] => rk = 0 ∧ Q tf_z h | _ => False)
  | _ => False
/-- an instruction is as long as it says, its local is there, it jumps forward of 0 -/
def tf_ck (nL pc : Nat) (i : Instr) (n : Nat) : Bool := match i with
  | .iconst v => n == 1
  | .bipush v => n == 2
  | .sipush v => n == 3
  | .lconst v => n == 1
  | .ldc j => n == 2
  | .ldc_w j => n == 3
  | .ldc2_w j => n == 3
  | .iload_n i => n == 1
  | .iload i => n == 2
  | .lload_n i => n == 1
  | .aload_n i => n == 1
  | .aload i => n == 2
  | .istore_n i => n == 1 && decide ((i : Nat) < nL)
  | .istore i => n == 2 && decide (i < nL)
  | .astore_n i => n == 1 && decide ((i : Nat) < nL)
  | .astore i => n == 2 && decide (i < nL)
  | .lstore_n i => n == 1 && decide ((i : Nat) + 1 < nL)
  | .iinc i v => n == 3 && decide (i < nL)
  | .iadd => n == 1
  | .isub => n == 1
  | .imul => n == 1
  | .iand => n == 1
  | .ior => n == 1
  | .ishl => n == 1
  | .ishr => n == 1
  | .ineg => n == 1
  | .idiv => n == 1
  | .irem => n == 1
  | .lmul => n == 1
  | .land => n == 1
  | .lor => n == 1
  | .lshl => n == 1
  | .lshr => n == 1
  | .lushr => n == 1
  | .iushr => n == 1
  | .lcmp => n == 1
  | .i2l => n == 1
  | .l2i => n == 1
  | .i2b => n == 1
  | .i2c => n == 1
  | .dup => n == 1
  | .pop => n == 1
  | .dup2 => n == 1
  | .aconst_null => n == 1
  | .goto o => n == 3 && decide (0 ≤ (pc : Int) + o)
  | .ifCond c o => n == 3 && decide (0 ≤ (pc : Int) + o)
  | .if_icmp c o => n == 3 && decide (0 ≤ (pc : Int) + o)
  | .ifnull o => n == 3 && decide (0 ≤ (pc : Int) + o)
  | .tableswitch d lo hi os => decide (0 ≤ (pc : Int) + d) && os.toList.all (fun o => decide (0 ≤ (pc : Int) + o)) && decide (hi = lo + os.size - 1)
  | .getfield j => n == 3
  | .putfield j => n == 3
  | .iaload => n == 1
  | .caload => n == 1
  | .baload => n == 1
  | .laload => n == 1
  | .aaload => n == 1
  | .iastore => n == 1
  | .castore => n == 1
  | .bastore => n == 1
  | .lastore => n == 1
  | .invokevirtual j => n == 3 && decide (j < 100000)
  | .invokestatic j => n == 3 && decide (j < 100000)
  | .ireturn => n == 1
  | .areturn => n == 1
  | .return_ => n == 1
  | _ => true
theorem tf_tgt {pc : Nat} {o : Int} (h : 0 ≤ (pc : Int) + o) : (pc : Int) + o = ((tf_t pc o : Nat) : Int) := by
  unfold tf_t
  omega
theorem tf_sw_at {T : Int → Prop} {x : Int32} : ∀ {os : List Int} {lo : Int} {j : Nat} (_ : tf_sw T x lo os) (hj : j < os.length), x.toInt = lo + j → T os[j]
  | [], _, _, _, hj, _ => absurd hj (Nat.not_lt_zero _)
  | o :: r, lo, 0, h, _, e => h.1 (by simpa using e)
  | o :: r, lo, j + 1, h, hj, e => tf_sw_at (os := r) h.2 (by simpa using hj) (by rw [e]; simp; omega)
/-- where the machine stands: at pc, with these locals, this stack, this table -/
def tf_At (Wf : Heap → List Loc → JFrame → Prop) (m : MethodId) (H0 : Heap) (D : va_G) (cA : Nat → ClassId) (ad : Nat → Nat) (A : Nat → Prop) (nc nL pc : Nat) (L st : List Value) (h : LH) : Prop :=
  ∀ (H : Heap) (locs : List Loc) (ls : Array Slot), va_P D vwCl (tf_ws cA ad nc h) H → va_S A H0 H locs → tf_rel ad ls nL L → Wf H locs (F0 m pc ls (st.map (tf_tr ad)))
/-- what a field's place in the pool must be -/
def tf_Fok (own : String) (F : Nat → Option (Nat × Nat)) (Ts : List Jvm.Cond) : Prop := ∀ j ci q, F j = some (ci, q) → ∃ (C : String) (T : u_T) (N : Nat) (ty : Nat → FieldType), vwCl[ci]? = some (C, T, N) ∧ q < N ∧ N = tf_Wl ci ∧ ci < 8 ∧ Jvm.Cond.fieldLink own j (T q).1 (T q).2.1 (T q).2.2.1 ∈ Ts ∧ (∀ w ∈ u_ws C T N, w ∈ Ts) ∧ (∀ k, k < N → parseFieldDescriptor (T k).2.2.1 = some (ty k)) ∧ (∀ a, a < N → ∀ b, b < N → a ≠ b → (T a).2.1 ≠ (T b).2.1) ∧ (tf_S ci q = 0 → (T q).2.2.2 = false ∧ ty q = .int) ∧ (tf_S ci q = 1 → (T q).2.2.2 = false ∧ ty q = .long)
section TFS
variable {p : Program} {l : Launch} {e : Env} {R : Room} {s : State} {m : MethodId} {args : Array Value} {below : List Frame} {meth : Method} {c : Code} {cells slots : Nat} {QW : State → Prop}
variable {cc : ByteArray} {D : va_G} {cA : Nat → ClassId} {ad : Nat → Nat} {A : Nat → Prop} {nc nL : Nat} {own : String} {Ts : List Jvm.Cond}
variable {C : tf_C} {F : Nat → Option (Nat × Nat)} {M : Nat → Option (Nat × Nat × Bool)} {I : Nat → Option Value} {rk : Nat} {Q : tf_Q} {X : tf_X} {k : tf_Kt}

set_option maxHeartbeats 4000000 in
theorem tf_st_ok (hx : p.tables.exec = Jvm.exec) (hb : c.code = cc) (hown : s.vm.findClass own = some m.cls) (hts : ∀ w ∈ Ts, w.before args s = true) (hK : va_K D vwCl (tf_ty cA) s) (hj : tf_inj ad nc) (hA : ∀ d, d < nc → A (ad d))
    (hF : tf_Fok own F Ts) (hI : ∀ j v, I j = some (.int v) → (Jvm.Cond.constant own j v).before args s = true) (hJ : ∀ j v, I j = some (.long v) → (Jvm.Cond.constantLong own j v).before args s = true)
    (hC : ∀ (pc : Nat) (i : Instr) (j j2 kn na : Nat) (vd : Bool) (L st : List Value) (h : LH) (K : tf_Q), j < 100000 → ((i = .invokevirtual j ∧ j2 = j) ∨ (i = .invokestatic j ∧ j2 = j + 100000)) → decode cc pc = .ok (i, 3) → M j2 = some (kn, na, vd) → na ≤ st.length → ((st.drop na).map Value.category).sum ≤ 8 → C kn (st.take na).reverse h K → (∀ r h, K r h → tf_At (fun H locs g => W p l e R s m args below meth c H locs cells slots QW g) m s.heap D cA ad A nc nL (pc + 3) L (if vd = true then st.drop na else r :: st.drop na) h) → tf_At (fun H locs g => W p l e R s m args below meth c H locs cells slots QW g) m s.heap D cA ad A nc nL pc L st h)
    (hR1 : ∀ (v : Int32) (h : LH) (pc : Nat) (L : List Value), decode cc pc = .ok (.ireturn, 1) → (tf_rb rk v ∧ Q (.int v) h) → tf_At (fun H locs g => W p l e R s m args below meth c H locs cells slots QW g) m s.heap D cA ad A nc nL pc L [.int v] h)
    (hR0 : ∀ (h : LH) (pc : Nat) (L : List Value), decode cc pc = .ok (.return_, 1) → (rk = 0 ∧ Q tf_z h) → tf_At (fun H locs g => W p l e R s m args below meth c H locs cells slots QW g) m s.heap D cA ad A nc nL pc L [] h)
    (hRa : ∀ (v : Value) (h : LH) (pc : Nat) (L : List Value), decode cc pc = .ok (.areturn, 1) → (v = .null ∨ ∃ a, v = .ref a) → (rk = 3 ∧ Q v h) → tf_At (fun H locs g => W p l e R s m args below meth c H locs cells slots QW g) m s.heap D cA ad A nc nL pc L [v] h)
    {pc n : Nat} {i : Instr} {L st : List Value} {h : LH} (hd : decode cc pc = .ok (i, n)) (hck : tf_ck nL pc i n = true)
    (hst : tf_st nc C F M I rk Q X pc i L st h k) (hk : ∀ L st h, k L st h → tf_At (fun H locs g => W p l e R s m args below meth c H locs cells slots QW g) m s.heap D cA ad A nc nL (pc + n) L st h)
    (hX : ∀ pc L st h, X pc L st h → tf_At (fun H locs g => W p l e R s m args below meth c H locs cells slots QW g) m s.heap D cA ad A nc nL pc L st h) : tf_At (fun H locs g => W p l e R s m args below meth c H locs cells slots QW g) m s.heap D cA ad A nc nL pc L st h := by
  cases i <;> try exact False.elim hst
  case iconst v =>
    simp only [tf_ck, beq_iff_eq] at hck
    subst hck
    simp only [tf_st] at hst
    intro H locs ls hP hS hL
    exact lv_iconst hx hb hd rfl (hk _ _ _ hst H locs ls hP hS hL)
  case bipush v =>
    simp only [tf_ck, beq_iff_eq] at hck
    subst hck
    simp only [tf_st] at hst
    intro H locs ls hP hS hL
    exact lv_bipush hx hb hd rfl (hk _ _ _ hst H locs ls hP hS hL)
  case sipush v =>
    simp only [tf_ck, beq_iff_eq] at hck
    subst hck
    simp only [tf_st] at hst
    intro H locs ls hP hS hL
    exact lv_sipush hx hb hd rfl (hk _ _ _ hst H locs ls hP hS hL)
  case lconst v =>
    simp only [tf_ck, beq_iff_eq] at hck
    subst hck
    simp only [tf_st] at hst
    intro H locs ls hP hS hL
    exact lv_lconst hx hb hd rfl (hk _ _ _ hst H locs ls hP hS hL)
  case ldc j =>
    simp only [tf_ck, beq_iff_eq] at hck
    subst hck
    simp only [tf_st] at hst
    split at hst
    · rename_i x he
      intro H locs ls hP hS hL
      exact lv_ldc hx hb hown (hI _ _ he) hd (hk _ _ _ hst H locs ls hP hS hL)
    · exact hst.elim
  case ldc_w j =>
    simp only [tf_ck, beq_iff_eq] at hck
    subst hck
    simp only [tf_st] at hst
    split at hst
    · rename_i x he
      intro H locs ls hP hS hL
      exact lv_ldcw hx hb hown (hI _ _ he) hd (hk _ _ _ hst H locs ls hP hS hL)
    · exact hst.elim
  case ldc2_w j =>
    simp only [tf_ck, beq_iff_eq] at hck
    subst hck
    simp only [tf_st] at hst
    split at hst
    · rename_i x he
      intro H locs ls hP hS hL
      exact lv_ldc2 hx hb hown (hJ _ _ he) hd (hk _ _ _ hst H locs ls hP hS hL)
    · exact hst.elim
  case iload_n i =>
    simp only [tf_ck, beq_iff_eq] at hck
    subst hck
    simp only [tf_st] at hst
    split at hst
    · rename_i x he
      intro H locs ls hP hS hL
      exact lv_iload_n hx hb hd rfl (by simpa [tf_tr] using hL.2.2.2 _ _ he (by simp [tf_z])) (hk _ _ _ hst H locs ls hP hS hL)
    · exact hst.elim
  case iload i =>
    simp only [tf_ck, beq_iff_eq] at hck
    subst hck
    simp only [tf_st] at hst
    split at hst
    · rename_i x he
      intro H locs ls hP hS hL
      exact lv_iload hx hb hd (by simpa [tf_tr] using hL.2.2.2 _ _ he (by simp [tf_z])) (hk _ _ _ hst H locs ls hP hS hL)
    · exact hst.elim
  case lload_n i =>
    simp only [tf_ck, beq_iff_eq] at hck
    subst hck
    simp only [tf_st] at hst
    split at hst
    · rename_i x he
      intro H locs ls hP hS hL
      exact lv_lload_n hx hb hd rfl (by simpa [tf_tr] using hL.2.2.2 _ _ he (by simp [tf_z])) (hk _ _ _ hst H locs ls hP hS hL)
    · exact hst.elim
  case aload_n i =>
    simp only [tf_ck, beq_iff_eq] at hck
    subst hck
    simp only [tf_st] at hst
    split at hst
    · rename_i x he
      intro H locs ls hP hS hL
      exact lv_aload_n hx hb hd rfl (by simpa [tf_tr] using hL.2.2.2 _ _ he (by simp [tf_z])) (hk _ _ _ hst H locs ls hP hS hL)
    · rename_i he
      intro H locs ls hP hS hL
      exact lv_aload_nN hx hb hd rfl (by simpa [tf_tr] using hL.2.2.2 _ _ he (by simp [tf_z])) (hk _ _ _ hst H locs ls hP hS hL)
    · exact hst.elim
  case aload i =>
    simp only [tf_ck, beq_iff_eq] at hck
    subst hck
    simp only [tf_st] at hst
    split at hst
    · rename_i x he
      intro H locs ls hP hS hL
      exact lv_aload hx hb hd (by simpa [tf_tr] using hL.2.2.2 _ _ he (by simp [tf_z])) (hk _ _ _ hst H locs ls hP hS hL)
    · rename_i he
      intro H locs ls hP hS hL
      exact lv_aloadN hx hb hd (by simpa [tf_tr] using hL.2.2.2 _ _ he (by simp [tf_z])) (hk _ _ _ hst H locs ls hP hS hL)
    · exact hst.elim
  case istore_n i =>
    simp only [tf_ck, Bool.and_eq_true, beq_iff_eq, decide_eq_true_eq] at hck
    obtain ⟨rfl, hn⟩ := hck
    simp only [tf_st] at hst
    split at hst
    · intro H locs ls hP hS hL
      exact lv_istore_n hx hb hd rfl (tf_rel_has hL) hn rfl (fun ls' hl' => hk _ _ _ hst H locs ls' hP hS (tf_rel_s1 hL.2.2.1 hl'))
    · exact hst.elim
  case istore i =>
    simp only [tf_ck, Bool.and_eq_true, beq_iff_eq, decide_eq_true_eq] at hck
    obtain ⟨rfl, hn⟩ := hck
    simp only [tf_st] at hst
    split at hst
    · intro H locs ls hP hS hL
      exact lv_istore hx hb hd (tf_rel_has hL) hn rfl (fun ls' hl' => hk _ _ _ hst H locs ls' hP hS (tf_rel_s1 hL.2.2.1 hl'))
    · exact hst.elim
  case astore_n i =>
    simp only [tf_ck, Bool.and_eq_true, beq_iff_eq, decide_eq_true_eq] at hck
    obtain ⟨rfl, hn⟩ := hck
    simp only [tf_st] at hst
    split at hst
    · intro H locs ls hP hS hL
      exact lv_astore_n hx hb hd rfl (tf_rel_has hL) hn rfl (fun ls' hl' => hk _ _ _ hst H locs ls' hP hS (tf_rel_s1 hL.2.2.1 hl'))
    · exact hst.elim
  case astore i =>
    simp only [tf_ck, Bool.and_eq_true, beq_iff_eq, decide_eq_true_eq] at hck
    obtain ⟨rfl, hn⟩ := hck
    simp only [tf_st] at hst
    split at hst
    · intro H locs ls hP hS hL
      exact lv_astore hx hb hd (tf_rel_has hL) hn rfl (fun ls' hl' => hk _ _ _ hst H locs ls' hP hS (tf_rel_s1 hL.2.2.1 hl'))
    · exact hst.elim
  case lstore_n i =>
    simp only [tf_ck, Bool.and_eq_true, beq_iff_eq, decide_eq_true_eq] at hck
    obtain ⟨rfl, hn⟩ := hck
    simp only [tf_st] at hst
    split at hst
    · intro H locs ls hP hS hL
      exact lv_lstore_n hx hb hd rfl (tf_rel_has hL) hn rfl (fun ls' hl' => hk _ _ _ hst H locs ls' hP hS (tf_rel_s2 hL.2.2.1 hl'))
    · exact hst.elim
  case iinc i v =>
    simp only [tf_ck, Bool.and_eq_true, beq_iff_eq, decide_eq_true_eq] at hck
    obtain ⟨rfl, hn⟩ := hck
    simp only [tf_st] at hst
    split at hst
    · rename_i x he
      intro H locs ls hP hS hL
      have hm : (i, tf_tr ad (.int x)) ∈ tf_prs ad 0 L := (tf_prs_mem L 0 _).mpr ⟨i, _, he, by simp [tf_z], by simp⟩
      obtain ⟨q, hq⟩ := List.getElem?_of_mem hm
      exact lv_iinc hx hb hd (tf_rel_has hL) (k := q) hq rfl hn rfl (fun ls' hl' => hk _ _ _ hst H locs ls' hP hS (tf_rel_s1 (v := .int _) hL.2.2.1 hl'))
    · exact hst.elim
  case iadd =>
    simp only [tf_ck, beq_iff_eq] at hck
    subst hck
    simp only [tf_st] at hst
    split at hst
    · intro H locs ls hP hS hL
      exact lv_iadd hx hb hd (hk _ _ _ hst H locs ls hP hS hL)
    · exact hst.elim
  case isub =>
    simp only [tf_ck, beq_iff_eq] at hck
    subst hck
    simp only [tf_st] at hst
    split at hst
    · intro H locs ls hP hS hL
      exact lv_isub hx hb hd (hk _ _ _ hst H locs ls hP hS hL)
    · exact hst.elim
  case imul =>
    simp only [tf_ck, beq_iff_eq] at hck
    subst hck
    simp only [tf_st] at hst
    split at hst
    · intro H locs ls hP hS hL
      exact lv_imul hx hb hd (hk _ _ _ hst H locs ls hP hS hL)
    · exact hst.elim
  case iand =>
    simp only [tf_ck, beq_iff_eq] at hck
    subst hck
    simp only [tf_st] at hst
    split at hst
    · intro H locs ls hP hS hL
      exact lv_iand hx hb hd (hk _ _ _ hst H locs ls hP hS hL)
    · exact hst.elim
  case ior =>
    simp only [tf_ck, beq_iff_eq] at hck
    subst hck
    simp only [tf_st] at hst
    split at hst
    · intro H locs ls hP hS hL
      exact lv_ior hx hb hd (hk _ _ _ hst H locs ls hP hS hL)
    · exact hst.elim
  case ishl =>
    simp only [tf_ck, beq_iff_eq] at hck
    subst hck
    simp only [tf_st] at hst
    split at hst
    · intro H locs ls hP hS hL
      exact lv_ishl hx hb hd (hk _ _ _ hst H locs ls hP hS hL)
    · exact hst.elim
  case ishr =>
    simp only [tf_ck, beq_iff_eq] at hck
    subst hck
    simp only [tf_st] at hst
    split at hst
    · intro H locs ls hP hS hL
      exact lv_ishr hx hb hd (hk _ _ _ hst H locs ls hP hS hL)
    · exact hst.elim
  case ineg =>
    simp only [tf_ck, beq_iff_eq] at hck
    subst hck
    simp only [tf_st] at hst
    split at hst
    · intro H locs ls hP hS hL
      exact lv_ineg hx hb hd (hk _ _ _ hst H locs ls hP hS hL)
    · exact hst.elim
  case idiv =>
    simp only [tf_ck, beq_iff_eq] at hck
    subst hck
    simp only [tf_st] at hst
    split at hst
    · intro H locs ls hP hS hL
      exact lv_idiv hx hb hd hst.1 (hk _ _ _ hst.2 H locs ls hP hS hL)
    · exact hst.elim
  case irem =>
    simp only [tf_ck, beq_iff_eq] at hck
    subst hck
    simp only [tf_st] at hst
    split at hst
    · intro H locs ls hP hS hL
      exact lv_irem hx hb hd hst.1 (hk _ _ _ hst.2 H locs ls hP hS hL)
    · exact hst.elim
  case lmul =>
    simp only [tf_ck, beq_iff_eq] at hck
    subst hck
    simp only [tf_st] at hst
    split at hst
    · intro H locs ls hP hS hL
      exact lv_lmul hx hb hd (hk _ _ _ hst H locs ls hP hS hL)
    · exact hst.elim
  case land =>
    simp only [tf_ck, beq_iff_eq] at hck
    subst hck
    simp only [tf_st] at hst
    split at hst
    · intro H locs ls hP hS hL
      exact lv_land hx hb hd (hk _ _ _ hst H locs ls hP hS hL)
    · exact hst.elim
  case lor =>
    simp only [tf_ck, beq_iff_eq] at hck
    subst hck
    simp only [tf_st] at hst
    split at hst
    · intro H locs ls hP hS hL
      exact lv_lor hx hb hd (hk _ _ _ hst H locs ls hP hS hL)
    · exact hst.elim
  case lshl =>
    simp only [tf_ck, beq_iff_eq] at hck
    subst hck
    simp only [tf_st] at hst
    split at hst
    · intro H locs ls hP hS hL
      exact lv_lshl hx hb hd rfl (hk _ _ _ hst H locs ls hP hS hL)
    · exact hst.elim
  case lshr =>
    simp only [tf_ck, beq_iff_eq] at hck
    subst hck
    simp only [tf_st] at hst
    split at hst
    · intro H locs ls hP hS hL
      exact lv_lshr hx hb hd rfl (hk _ _ _ hst H locs ls hP hS hL)
    · exact hst.elim
  case lushr =>
    simp only [tf_ck, beq_iff_eq] at hck
    subst hck
    simp only [tf_st] at hst
    split at hst
    · intro H locs ls hP hS hL
      exact lv_lushr hx hb hd rfl (hk _ _ _ hst H locs ls hP hS hL)
    · exact hst.elim
  case iushr =>
    simp only [tf_ck, beq_iff_eq] at hck
    subst hck
    simp only [tf_st] at hst
    split at hst
    · intro H locs ls hP hS hL
      exact lv_iushr hx hb hd rfl (hk _ _ _ hst H locs ls hP hS hL)
    · exact hst.elim
  case lcmp =>
    simp only [tf_ck, beq_iff_eq] at hck
    subst hck
    simp only [tf_st] at hst
    split at hst
    · intro H locs ls hP hS hL
      exact W.lcmp hx hb hd (hk _ _ _ hst H locs ls hP hS hL)
    · exact hst.elim
  case i2l =>
    simp only [tf_ck, beq_iff_eq] at hck
    subst hck
    simp only [tf_st] at hst
    split at hst
    · intro H locs ls hP hS hL
      exact lv_i2l hx hb hd rfl (hk _ _ _ hst H locs ls hP hS hL)
    · exact hst.elim
  case l2i =>
    simp only [tf_ck, beq_iff_eq] at hck
    subst hck
    simp only [tf_st] at hst
    split at hst
    · intro H locs ls hP hS hL
      exact lv_l2i hx hb hd rfl (hk _ _ _ hst H locs ls hP hS hL)
    · exact hst.elim
  case i2b =>
    simp only [tf_ck, beq_iff_eq] at hck
    subst hck
    simp only [tf_st] at hst
    split at hst
    · intro H locs ls hP hS hL
      exact lv_i2b hx hb hd rfl (hk _ _ _ hst H locs ls hP hS hL)
    · exact hst.elim
  case i2c =>
    simp only [tf_ck, beq_iff_eq] at hck
    subst hck
    simp only [tf_st] at hst
    split at hst
    · intro H locs ls hP hS hL
      exact lv_i2c hx hb hd rfl (hk _ _ _ hst H locs ls hP hS hL)
    · exact hst.elim
  case dup =>
    simp only [tf_ck, beq_iff_eq] at hck
    subst hck
    simp only [tf_st] at hst
    split at hst
    · intro H locs ls hP hS hL
      exact lv_dup hx hb hd rfl (hk _ _ _ hst H locs ls hP hS hL)
    · intro H locs ls hP hS hL
      exact lv_dup hx hb hd rfl (hk _ _ _ hst H locs ls hP hS hL)
    · exact hst.elim
  case pop =>
    simp only [tf_ck, beq_iff_eq] at hck
    subst hck
    simp only [tf_st] at hst
    split at hst
    · intro H locs ls hP hS hL
      exact lv_pop hx hb hd rfl (hk _ _ _ hst H locs ls hP hS hL)
    · intro H locs ls hP hS hL
      exact lv_pop hx hb hd rfl (hk _ _ _ hst H locs ls hP hS hL)
    · exact hst.elim
  case dup2 =>
    simp only [tf_ck, beq_iff_eq] at hck
    subst hck
    simp only [tf_st] at hst
    split at hst
    · intro H locs ls hP hS hL
      exact lv_dup2_11 hx hb hd rfl rfl (hk _ _ _ hst H locs ls hP hS hL)
    · exact hst.elim
  case aconst_null =>
    simp only [tf_ck, beq_iff_eq] at hck
    subst hck
    simp only [tf_st] at hst
    intro H locs ls hP hS hL
    exact lv_null hx hb hd (hk _ _ _ hst H locs ls hP hS hL)
  case goto o =>
    simp only [tf_ck, Bool.and_eq_true, beq_iff_eq, decide_eq_true_eq] at hck
    obtain ⟨rfl, hn⟩ := hck
    simp only [tf_st] at hst
    intro H locs ls hP hS hL
    exact lv_goto hx hb hd (tf_tgt hn) (hX _ _ _ _ hst H locs ls hP hS hL)
  case ifCond c9 o =>
    simp only [tf_ck, Bool.and_eq_true, beq_iff_eq, decide_eq_true_eq] at hck
    obtain ⟨rfl, hn⟩ := hck
    simp only [tf_st] at hst
    split at hst
    · intro H locs ls hP hS hL
      cases c9 <;> simp only [tf_br] at hst
      case eq => exact lv_if_eq hx hb hd (tf_tgt hn) (fun q => hX _ _ _ _ (hst.1 q) H locs ls hP hS hL) (fun q => hk _ _ _ (hst.2 q) H locs ls hP hS hL)
      case ne => exact lv_if_ne hx hb hd (tf_tgt hn) (fun q => hX _ _ _ _ (hst.2 q) H locs ls hP hS hL) (fun q => hk _ _ _ (hst.1 q) H locs ls hP hS hL)
      case lt => exact lv_if_lt hx hb hd (tf_tgt hn) (fun q => hX _ _ _ _ (hst.1 q) H locs ls hP hS hL) (fun q => hk _ _ _ (hst.2 q) H locs ls hP hS hL)
      case ge => exact lv_if_ge hx hb hd (tf_tgt hn) (fun q => hX _ _ _ _ (hst.1 q) H locs ls hP hS hL) (fun q => hk _ _ _ (hst.2 q) H locs ls hP hS hL)
      case gt => exact lv_if_gt hx hb hd (tf_tgt hn) (fun q => hX _ _ _ _ (hst.1 q) H locs ls hP hS hL) (fun q => hk _ _ _ (hst.2 q) H locs ls hP hS hL)
      case le => exact lv_if_le hx hb hd (tf_tgt hn) (fun q => hX _ _ _ _ (hst.1 q) H locs ls hP hS hL) (fun q => hk _ _ _ (hst.2 q) H locs ls hP hS hL)
    · exact hst.elim
  case if_icmp c9 o =>
    simp only [tf_ck, Bool.and_eq_true, beq_iff_eq, decide_eq_true_eq] at hck
    obtain ⟨rfl, hn⟩ := hck
    simp only [tf_st] at hst
    split at hst
    · intro H locs ls hP hS hL
      cases c9 <;> simp only [tf_br] at hst
      case eq => exact lv_icmp_eq hx hb hd (tf_tgt hn) (fun q => hX _ _ _ _ (hst.1 q) H locs ls hP hS hL) (fun q => hk _ _ _ (hst.2 q) H locs ls hP hS hL)
      case ne => exact lv_icmp_ne hx hb hd (tf_tgt hn) (fun q => hX _ _ _ _ (hst.2 q) H locs ls hP hS hL) (fun q => hk _ _ _ (hst.1 q) H locs ls hP hS hL)
      case lt => exact lv_icmp_lt hx hb hd (tf_tgt hn) (fun q => hX _ _ _ _ (hst.1 q) H locs ls hP hS hL) (fun q => hk _ _ _ (hst.2 q) H locs ls hP hS hL)
      case ge => exact lv_icmp_ge hx hb hd (tf_tgt hn) (fun q => hX _ _ _ _ (hst.1 q) H locs ls hP hS hL) (fun q => hk _ _ _ (hst.2 q) H locs ls hP hS hL)
      case gt => exact lv_icmp_gt hx hb hd (tf_tgt hn) (fun q => hX _ _ _ _ (hst.1 q) H locs ls hP hS hL) (fun q => hk _ _ _ (hst.2 q) H locs ls hP hS hL)
      case le => exact lv_icmp_le hx hb hd (tf_tgt hn) (fun q => hX _ _ _ _ (hst.1 q) H locs ls hP hS hL) (fun q => hk _ _ _ (hst.2 q) H locs ls hP hS hL)
    · exact hst.elim
  case ifnull o =>
    simp only [tf_ck, Bool.and_eq_true, beq_iff_eq, decide_eq_true_eq] at hck
    obtain ⟨rfl, hn⟩ := hck
    simp only [tf_st] at hst
    split at hst
    · intro H locs ls hP hS hL
      exact lv_ifnullN hx hb hd (tf_tgt hn) (hX _ _ _ _ hst H locs ls hP hS hL)
    · intro H locs ls hP hS hL
      exact lv_ifnull hx hb hd (hk _ _ _ hst H locs ls hP hS hL)
    · exact hst.elim
  case tableswitch d lo hi os =>
    simp only [tf_st] at hst
    simp only [tf_ck, Bool.and_eq_true, decide_eq_true_eq, List.all_eq_true] at hck
    obtain ⟨⟨hn, hos⟩, hhi⟩ := hck
    split at hst
    · rename_i x st'
      intro H locs ls hP hS hL
      by_cases hout : x.toInt < lo ∨ hi < x.toInt
      · exact lv_tableOut hx hb hd hout (tf_tgt hn) (hX _ _ _ _ (hst.1 hout) H locs ls hP hS hL)
      · have h1 : ¬ x.toInt < lo := fun q => hout (Or.inl q)
        have h2 : ¬ hi < x.toInt := fun q => hout (Or.inr q)
        have hlt : (x.toInt - lo).toNat < os.toList.length := by rw [Array.length_toList]; omega
        have hget : os[(x.toInt - lo).toNat]? = some (os.toList[(x.toInt - lo).toNat]) := by rw [← Array.getElem?_toList]; exact List.getElem?_eq_getElem hlt
        have hsw := tf_sw_at (j := (x.toInt - lo).toNat) hst.2 hlt (by omega)
        exact lv_tableIn hx hb hd h1 h2 hget (tf_tgt (hos _ (List.getElem_mem hlt))) (hX _ _ _ _ hsw H locs ls hP hS hL)
    · exact hst.elim
  case getfield j =>
    simp only [tf_ck, beq_iff_eq] at hck
    subst hck
    simp only [tf_st] at hst
    split at hst
    · rename_i ci q x st' hf
      obtain ⟨⟨hkx, hxn⟩, hst⟩ := hst
      obtain ⟨CC, T, N, ty, h1, h2, h3, h4, h5, h6, h7, h8, h9, h10⟩ := hF _ _ _ hf
      intro H locs ls hP hS hL
      have hwe : (tf_ws cA ad nc h)[x]? = some (ad x, .inr (ci, (List.range (tf_Wl ci)).map (tf_fv ad h x))) := by rw [tf_ws_get hxn, tf_E, hkx, if_pos h4]
      refine va_get (D := D) (C := CC) (T := T) (N := N) hx hb hts h6 hown hK hP x hwe h1 q h2 (hts _ h5) (fun _ h => h) (v := tf_tr ad (tf_gv h x ci q)) ?_ hd (hk _ _ _ hst H locs ls hP hS hL)
      rw [List.getElem?_map, List.getElem?_range (by omega)]
      simp only [Option.map_some, tf_fv, tf_gv, hkx]
      split
      · rfl
      · split <;> rfl
    · exact hst.elim
  case putfield j =>
    simp only [tf_ck, beq_iff_eq] at hck
    subst hck
    simp only [tf_st] at hst
    split at hst
    · rename_i ci q v x st' hf
      obtain ⟨⟨hkx, hxn, hs0⟩, hst⟩ := hst
      obtain ⟨CC, T, N, ty, h1, h2, h3, h4, h5, h6, h7, h8, h9, h10⟩ := hF _ _ _ hf
      intro H locs ls hP hS hL
      have hwe : (tf_ws cA ad nc h)[x]? = some (ad x, .inr (ci, (List.range (tf_Wl ci)).map (tf_fv ad h x))) := by rw [tf_ws_get hxn, tf_E, hkx, if_pos h4]
      have hset : (tf_ws cA ad nc h).set x (ad x, .inr (ci, ((List.range (tf_Wl ci)).map (tf_fv ad h x)).set q (.int v))) = tf_ws cA ad nc (tf_up h.1 x q v, h.2) := by
        refine tf_ws_set ?_ (fun d hd => tf_E_up hd)
        have := tf_put_i (cA := cA) (ad := ad) (h := h) (c := x) (k := q) (v := v) (by rw [hkx]; exact h4) (by rw [hkx]; exact hs0)
        rw [hkx] at this
        exact this
      refine va_put (D := D) (v := .int v) (ty := .int) (C := CC) (T := T) (N := N) hx hb hts h6 ty h7 h8 hown hK hP (tf_ws_D hj hA) hS x hwe h1 q h2 (hts _ h5) (fun _ h => h) (h9 hs0).1 (by rw [h7 q h2, (h9 hs0).2]) rfl rfl (by simp; omega) hd (fun H1 locs1 hP1 hD1 hS1 => ?_)
      rw [hset] at hP1
      exact hk _ _ _ hst H1 locs1 ls hP1 hS1 hL
    · rename_i ci q v x st' hf
      obtain ⟨⟨hkx, hxn, hs0⟩, hst⟩ := hst
      obtain ⟨CC, T, N, ty, h1, h2, h3, h4, h5, h6, h7, h8, h9, h10⟩ := hF _ _ _ hf
      intro H locs ls hP hS hL
      have hwe : (tf_ws cA ad nc h)[x]? = some (ad x, .inr (ci, (List.range (tf_Wl ci)).map (tf_fv ad h x))) := by rw [tf_ws_get hxn, tf_E, hkx, if_pos h4]
      have hset : (tf_ws cA ad nc h).set x (ad x, .inr (ci, ((List.range (tf_Wl ci)).map (tf_fv ad h x)).set q (.long v))) = tf_ws cA ad nc (h.1, tf_upL h.2 x q v) := by
        refine tf_ws_set ?_ (fun d hd => tf_E_upL hd)
        have := tf_put_l (cA := cA) (ad := ad) (h := h) (c := x) (k := q) (v := v) (by rw [hkx]; exact h4) (by rw [hkx]; exact hs0)
        rw [hkx] at this
        exact this
      refine va_put (D := D) (v := .long v) (ty := .long) (C := CC) (T := T) (N := N) hx hb hts h6 ty h7 h8 hown hK hP (tf_ws_D hj hA) hS x hwe h1 q h2 (hts _ h5) (fun _ h => h) (h10 hs0).1 (by rw [h7 q h2, (h10 hs0).2]) rfl rfl (by simp; omega) hd (fun H1 locs1 hP1 hD1 hS1 => ?_)
      rw [hset] at hP1
      exact hk _ _ _ hst H1 locs1 ls hP1 hS1 hL
    · exact hst.elim
  case iaload =>
    simp only [tf_ck, beq_iff_eq] at hck
    subst hck
    simp only [tf_st] at hst
    split at hst
    · rename_i i x st'
      obtain ⟨⟨hkx, hxn, hin⟩, hst⟩ := hst
      intro H locs ls hP hS hL
      exact va_iald hx hb hK hP x 0 (n := tf_N x) (f := h.1 x) (cA := cA 8) (by rw [tf_ws_get hxn, tf_E, hkx]; rfl) rfl hin hd (hk _ _ _ hst H locs ls hP hS hL)
    · exact hst.elim
  case caload =>
    simp only [tf_ck, beq_iff_eq] at hck
    subst hck
    simp only [tf_st] at hst
    split at hst
    · rename_i i x st'
      obtain ⟨⟨hkx, hxn, hin⟩, hst⟩ := hst
      intro H locs ls hP hS hL
      exact va_cald hx hb hK hP x 1 (n := tf_N x) (f := h.1 x) (cA := cA 9) (by rw [tf_ws_get hxn, tf_E, hkx]; rfl) rfl hin hd (hk _ _ _ hst H locs ls hP hS hL)
    · exact hst.elim
  case baload =>
    simp only [tf_ck, beq_iff_eq] at hck
    subst hck
    simp only [tf_st] at hst
    split at hst
    · rename_i i x st'
      obtain ⟨⟨hkx, hxn, hin⟩, hst⟩ := hst
      intro H locs ls hP hS hL
      rcases hkx with hkx | hkx
      · exact va_bald hx hb hK hP x 2 (n := tf_N x) (f := h.1 x) (cA := cA 10) (by rw [tf_ws_get hxn, tf_E, hkx]; rfl) rfl hin hd (hk _ _ _ hst H locs ls hP hS hL)
      · exact va_zald hx hb hK hP x 3 (n := tf_N x) (f := h.1 x) (cA := cA 11) (by rw [tf_ws_get hxn, tf_E, hkx]; rfl) rfl hin hd (hk _ _ _ hst H locs ls hP hS hL)
    · exact hst.elim
  case laload =>
    simp only [tf_ck, beq_iff_eq] at hck
    subst hck
    simp only [tf_st] at hst
    split at hst
    · rename_i i x st'
      obtain ⟨⟨hkx, hxn, hin⟩, hst⟩ := hst
      intro H locs ls hP hS hL
      exact va_lald hx hb hK hP x 4 (n := tf_N x) (f := h.2 x) (cA := cA 12) (by rw [tf_ws_get hxn, tf_E, hkx]; rfl) rfl hin hd (hk _ _ _ hst H locs ls hP hS hL)
    · exact hst.elim
  case aaload =>
    simp only [tf_ck, beq_iff_eq] at hck
    subst hck
    simp only [tf_st] at hst
    split at hst
    · rename_i i x st'
      obtain ⟨⟨hkx, hxn, hin⟩, hst⟩ := hst
      intro H locs ls hP hS hL
      rcases hkx with hkx | hkx
      · exact va_aldq hx hb hK hP x 5 (n := tf_N x) (f := fun i => some (ad (tf_R x i))) (cA := cA 13) (by rw [tf_ws_get hxn, tf_E, hkx]; rfl) rfl hin hd (hk _ _ _ hst H locs ls hP hS hL)
      · exact va_aldq hx hb hK hP x 6 (n := tf_N x) (f := fun i => some (ad (tf_R x i))) (cA := cA 14) (by rw [tf_ws_get hxn, tf_E, hkx]; rfl) rfl hin hd (hk _ _ _ hst H locs ls hP hS hL)
    · exact hst.elim
  case iastore =>
    simp only [tf_ck, beq_iff_eq] at hck
    subst hck
    simp only [tf_st] at hst
    split at hst
    · rename_i v i x st'
      obtain ⟨⟨hkx, hxn, hin⟩, hst⟩ := hst
      intro H locs ls hP hS hL
      refine va_iast hx hb hK hP (tf_ws_D hj hA) hS x 0 (n := tf_N x) (f := h.1 x) (cA := cA 8) (by rw [tf_ws_get hxn, tf_E, hkx]; rfl) rfl hin hd (fun H1 locs1 hP1 hD1 hS1 => hk _ _ _ hst H1 locs1 ls ?_ hS1 hL)
      rw [tf_ws_set (h' := (tf_up h.1 x i.toNatClampNeg _, h.2)) (by rw [tf_E, hkx]; simp [tf_up]; rfl) (fun d hd => tf_E_up hd)] at hP1
      exact hP1
    · exact hst.elim
  case castore =>
    simp only [tf_ck, beq_iff_eq] at hck
    subst hck
    simp only [tf_st] at hst
    split at hst
    · rename_i v i x st'
      obtain ⟨⟨hkx, hxn, hin⟩, hst⟩ := hst
      intro H locs ls hP hS hL
      refine va_cast hx hb hK hP (tf_ws_D hj hA) hS x 1 (n := tf_N x) (f := h.1 x) (cA := cA 9) (by rw [tf_ws_get hxn, tf_E, hkx]; rfl) rfl hin hd (fun H1 locs1 hP1 hD1 hS1 => hk _ _ _ hst H1 locs1 ls ?_ hS1 hL)
      rw [tf_ws_set (h' := (tf_up h.1 x i.toNatClampNeg _, h.2)) (by rw [tf_E, hkx]; simp [tf_up]; rfl) (fun d hd => tf_E_up hd)] at hP1
      exact hP1
    · exact hst.elim
  case bastore =>
    simp only [tf_ck, beq_iff_eq] at hck
    subst hck
    simp only [tf_st] at hst
    split at hst
    · rename_i v i x st'
      obtain ⟨⟨hxn, hin⟩, ⟨hkx, hst⟩ | ⟨hkx, hst⟩⟩ := hst
      · intro H locs ls hP hS hL
        refine va_bast hx hb hK hP (tf_ws_D hj hA) hS x 2 (n := tf_N x) (f := h.1 x) (cA := cA 10) (by rw [tf_ws_get hxn, tf_E, hkx]; rfl) rfl hin hd (fun H1 locs1 hP1 hD1 hS1 => hk _ _ _ hst H1 locs1 ls ?_ hS1 hL)
        rw [tf_ws_set (h' := (tf_up h.1 x i.toNatClampNeg _, h.2)) (by rw [tf_E, hkx]; simp [tf_up]; rfl) (fun d hd => tf_E_up hd)] at hP1
        exact hP1
      · intro H locs ls hP hS hL
        refine va_zast hx hb hK hP (tf_ws_D hj hA) hS x 3 (n := tf_N x) (f := h.1 x) (cA := cA 11) (by rw [tf_ws_get hxn, tf_E, hkx]; rfl) rfl hin hd (fun H1 locs1 hP1 hD1 hS1 => hk _ _ _ hst H1 locs1 ls ?_ hS1 hL)
        rw [tf_ws_set (h' := (tf_up h.1 x i.toNatClampNeg _, h.2)) (by rw [tf_E, hkx]; simp [tf_up]; rfl) (fun d hd => tf_E_up hd)] at hP1
        exact hP1
    · exact hst.elim
  case lastore =>
    simp only [tf_ck, beq_iff_eq] at hck
    subst hck
    simp only [tf_st] at hst
    split at hst
    · rename_i v i x st'
      obtain ⟨⟨hkx, hxn, hin⟩, hst⟩ := hst
      intro H locs ls hP hS hL
      refine va_last hx hb hK hP (tf_ws_D hj hA) hS x 4 (n := tf_N x) (f := h.2 x) (cA := cA 12) (by rw [tf_ws_get hxn, tf_E, hkx]; rfl) rfl hin hd (fun H1 locs1 hP1 hD1 hS1 => hk _ _ _ hst H1 locs1 ls ?_ hS1 hL)
      rw [tf_ws_set (h' := (h.1, tf_upL h.2 x i.toNatClampNeg _)) (by rw [tf_E, hkx]; simp [tf_upL]; rfl) (fun d hd => tf_E_upL hd)] at hP1
      exact hP1
    · exact hst.elim
  case invokevirtual j =>
    simp only [tf_ck, Bool.and_eq_true, beq_iff_eq, decide_eq_true_eq] at hck
    obtain ⟨rfl, hn⟩ := hck
    simp only [tf_st] at hst
    split at hst
    · rename_i kn na vd hm
      exact hC pc _ j _ kn na vd L st h _ hn (by first | exact Or.inl ⟨rfl, rfl⟩ | exact Or.inr ⟨rfl, rfl⟩) hd hm hst.1 hst.2.1 hst.2.2 (fun r h hkr => hk _ _ _ hkr)
    · exact hst.elim
  case invokestatic j =>
    simp only [tf_ck, Bool.and_eq_true, beq_iff_eq, decide_eq_true_eq] at hck
    obtain ⟨rfl, hn⟩ := hck
    simp only [tf_st] at hst
    split at hst
    · rename_i kn na vd hm
      exact hC pc _ j _ kn na vd L st h _ hn (by first | exact Or.inl ⟨rfl, rfl⟩ | exact Or.inr ⟨rfl, rfl⟩) hd hm hst.1 hst.2.1 hst.2.2 (fun r h hkr => hk _ _ _ hkr)
    · exact hst.elim
  case ireturn =>
    simp only [tf_ck, beq_iff_eq] at hck
    subst hck
    simp only [tf_st] at hst
    split at hst
    · intro H locs ls hP hS hL
      exact hR1 _ _ _ _ hd hst H locs ls hP hS hL
    · exact hst.elim
  case areturn =>
    simp only [tf_ck, beq_iff_eq] at hck
    subst hck
    simp only [tf_st] at hst
    split at hst
    · intro H locs ls hP hS hL
      exact hRa _ _ _ _ hd (Or.inr ⟨_, rfl⟩) hst H locs ls hP hS hL
    · intro H locs ls hP hS hL
      exact hRa _ _ _ _ hd (Or.inl rfl) hst H locs ls hP hS hL
    · exact hst.elim
  case return_ =>
    simp only [tf_ck, beq_iff_eq] at hck
    subst hck
    simp only [tf_st] at hst
    split at hst
    · intro H locs ls hP hS hL
      exact hR0 _ _ _ hd hst H locs ls hP hS hL
    · exact hst.elim
end TFS
