/-! ===== a twin in which ints of the arguments may be ranges, and a long unknown ===== -/
abbrev tf_av : Type := Value ⊕ ((Int × Int) ⊕ Unit)
def tf_g : tf_av → Value → Prop
  | .inl v, w => w = v
  | .inr (.inl q), w => ∃ x : Int32, w = .int x ∧ q.1 ≤ x.toInt ∧ x.toInt ≤ q.2
  | .inr (.inr _), w => ∃ x : Int64, w = .long x
theorem tf_gk (v : Value) : tf_g (.inl v) v := rfl
def tf_gl : List tf_av → List Value → Prop
  | [], [] => True
  | a :: r, v :: s => tf_g a v ∧ tf_gl r s
  | _, _ => False
theorem tf_gl_cons {a : tf_av} {r : List tf_av} {s : List Value} (h : tf_gl (a :: r) s) : ∃ v t, s = v :: t ∧ tf_g a v ∧ tf_gl r t := by
  cases s with
  | nil => exact h.elim
  | cons v t => exact ⟨v, t, rfl, h.1, h.2⟩
theorem tf_glk {w : Value} {r : List tf_av} {s : List Value} (h : tf_gl (.inl w :: r) s) : ∃ t, s = w :: t ∧ tf_gl r t := by
  obtain ⟨v, t, rfl, h1, h2⟩ := tf_gl_cons h
  cases h1
  exact ⟨t, rfl, h2⟩
theorem tf_glr {q : Int × Int} {r : List tf_av} {s : List Value} (h : tf_gl (.inr (.inl q) :: r) s) : ∃ (x : Int32) (t : List Value), s = .int x :: t ∧ (q.1 ≤ x.toInt ∧ x.toInt ≤ q.2) ∧ tf_gl r t := by
  obtain ⟨v, t, rfl, ⟨x, rfl, h1⟩, h2⟩ := tf_gl_cons h
  exact ⟨x, t, rfl, h1, h2⟩
theorem tf_gll {q : Unit} {r : List tf_av} {s : List Value} (h : tf_gl (.inr (.inr q) :: r) s) : ∃ (x : Int64) (t : List Value), s = .long x :: t ∧ tf_gl r t := by
  obtain ⟨v, t, rfl, ⟨x, rfl⟩, h2⟩ := tf_gl_cons h
  exact ⟨x, t, rfl, h2⟩
theorem tf_gl_nil {s : List Value} (h : tf_gl [] s) : s = [] := by
  cases s with
  | nil => rfl
  | cons v t => exact h.elim
theorem tf_gl_len : ∀ {l : List tf_av} {s : List Value}, tf_gl l s → l.length = s.length
  | [], s, h => by rw [tf_gl_nil h]; rfl
  | a :: r, s, h => by
    obtain ⟨v, t, rfl, h1, h2⟩ := tf_gl_cons h
    simp only [List.length_cons, tf_gl_len h2]
theorem tf_gl_get : ∀ {l : List tf_av} {s : List Value}, tf_gl l s → ∀ {i : Nat} {a : tf_av}, l[i]? = some a → ∃ v, s[i]? = some v ∧ tf_g a v
  | [], s, h, i, a, e => by simp at e
  | b :: r, s, h, i, a, e => by
    obtain ⟨v, t, rfl, h1, h2⟩ := tf_gl_cons h
    cases i with
    | zero => cases e; exact ⟨v, rfl, h1⟩
    | succ i => exact tf_gl_get (l := r) h2 (i := i) (by simpa using e)
theorem tf_gl_set : ∀ {l : List tf_av} {s : List Value}, tf_gl l s → ∀ {i : Nat} {a : tf_av} {v : Value}, tf_g a v → tf_gl (l.set i a) (s.set i v)
  | [], s, h, i, a, v, hg => by rw [tf_gl_nil h]; exact trivial
  | b :: r, s, h, i, a, v, hg => by
    obtain ⟨w, t, rfl, h1, h2⟩ := tf_gl_cons h
    cases i with
    | zero => exact ⟨hg, h2⟩
    | succ i => exact ⟨h1, tf_gl_set h2 hg⟩
theorem tf_gl_drop : ∀ {n : Nat} {l : List tf_av} {s : List Value}, tf_gl l s → tf_gl (l.drop n) (s.drop n)
  | 0, l, s, h => by simpa using h
  | n + 1, [], s, h => by rw [tf_gl_nil h]; exact trivial
  | n + 1, a :: r, s, h => by
    obtain ⟨w, t, rfl, h1, h2⟩ := tf_gl_cons h
    simpa using tf_gl_drop (n := n) h2
theorem tf_gl_take : ∀ {n : Nat} {l : List tf_av} {s : List Value}, tf_gl l s → tf_gl (l.take n) (s.take n)
  | 0, l, s, h => by simp [tf_gl]
  | n + 1, [], s, h => by rw [tf_gl_nil h]; exact trivial
  | n + 1, a :: r, s, h => by
    obtain ⟨w, t, rfl, h1, h2⟩ := tf_gl_cons h
    exact ⟨h1, tf_gl_take (n := n) h2⟩
theorem tf_gl_app : ∀ {l k : List tf_av} {s t : List Value}, tf_gl l s → tf_gl k t → tf_gl (l ++ k) (s ++ t)
  | [], k, s, t, h, g => by rw [tf_gl_nil h]; exact g
  | a :: r, k, s, t, h, g => by
    obtain ⟨w, u, rfl, h1, h2⟩ := tf_gl_cons h
    exact ⟨h1, tf_gl_app h2 g⟩
theorem tf_gl_rev : ∀ {l : List tf_av} {s : List Value}, tf_gl l s → tf_gl l.reverse s.reverse
  | [], s, h => by rw [tf_gl_nil h]; exact trivial
  | a :: r, s, h => by
    obtain ⟨w, u, rfl, h1, h2⟩ := tf_gl_cons h
    rw [List.reverse_cons, List.reverse_cons]
    exact tf_gl_app (tf_gl_rev h2) ⟨h1, trivial⟩
theorem tf_gl_rep {a : tf_av} {v : Value} (h : tf_g a v) : ∀ n : Nat, tf_gl (List.replicate n a) (List.replicate n v)
  | 0 => trivial
  | n + 1 => ⟨h, tf_gl_rep h n⟩
def tf_ca : tf_av → Nat
  | .inl v => v.category
  | .inr (.inl _) => 1
  | .inr (.inr _) => 2
theorem tf_ca_ok {a : tf_av} {v : Value} (h : tf_g a v) : tf_ca a = v.category := by
  rcases a with w | q | u
  · cases h
    rfl
  · obtain ⟨x, rfl, -⟩ := h
    rfl
  · obtain ⟨x, rfl⟩ := h
    rfl
theorem tf_gl_cat : ∀ {l : List tf_av} {s : List Value}, tf_gl l s → (l.map tf_ca).sum = (s.map Value.category).sum
  | [], s, h => by rw [tf_gl_nil h]; rfl
  | a :: r, s, h => by
    obtain ⟨w, u, rfl, h1, h2⟩ := tf_gl_cons h
    simp only [List.map_cons, List.sum_cons, tf_ca_ok h1, tf_gl_cat h2]
def tf_a1 (L : List tf_av) (i : Nat) (v : tf_av) : List tf_av := match i with
  | 0 => L.set 0 v
  | j + 1 => match L[j]? with
    | some (.inl (.long _)) => (L.set j (.inl tf_z)).set (j + 1) v
    | some (.inl (.double _)) => (L.set j (.inl tf_z)).set (j + 1) v
    | some (.inr (.inr _)) => (L.set j (.inl tf_z)).set (j + 1) v
    | _ => L.set (j + 1) v
theorem tf_a1_ok {L : List tf_av} {L' : List Value} {i : Nat} {a : tf_av} {v : Value} (hL : tf_gl L L') (hg : tf_g a v) : tf_gl (tf_a1 L i a) (tf_s1 L' i v) := by
  cases i with
  | zero => exact tf_gl_set hL hg
  | succ j =>
    unfold tf_a1 tf_s1
    simp only
    cases hj : L[j]? with
    | none =>
      have : L'[j]? = none := by
        rw [List.getElem?_eq_none_iff] at hj ⊢
        rw [← tf_gl_len hL]
        exact hj
      rw [this]
      exact tf_gl_set hL hg
    | some b =>
      obtain ⟨w, hw, hb⟩ := tf_gl_get hL hj
      rw [hw]
      rcases b with u | q | u
      · cases hb
        cases w
        case long x => exact tf_gl_set (tf_gl_set hL (tf_gk tf_z)) hg
        case double x => exact tf_gl_set (tf_gl_set hL (tf_gk tf_z)) hg
        all_goals exact tf_gl_set hL hg
      · obtain ⟨x, rfl, -⟩ := hb
        exact tf_gl_set hL hg
      · obtain ⟨x, rfl⟩ := hb
        exact tf_gl_set (tf_gl_set hL (tf_gk tf_z)) hg
abbrev tf_Ys : Type := (List tf_av × List tf_av × LH) ⊕ (Nat × List tf_av × List tf_av × LH) ⊕ (Value × LH)
def tf_wr (lo hi : Int) : Option (Int × Int) := if -2147483648 ≤ lo ∧ hi ≤ 2147483647 then some (lo, hi) else if hi < -2147483648 then some (lo + 4294967296, hi + 4294967296) else if 2147483647 < lo then some (lo - 4294967296, hi - 4294967296) else none
theorem tf_wr_in {a b lo hi : Int} {r : Int × Int} (hw : tf_wr lo hi = some r) (hl : lo ≤ a) (hh : a ≤ hi) (h1 : -4294967296 ≤ a) (h2 : a ≤ 4294967295) (hb : b = a.bmod 4294967296) : r.1 ≤ b ∧ b ≤ r.2 := by
  unfold tf_wr at hw
  rw [Int.bmod_def] at hb
  split at hw
  · cases hw
    simp only
    split at hb <;> omega
  · split at hw
    · cases hw
      simp only
      split at hb <;> omega
    · split at hw
      · cases hw
        simp only
        split at hb <;> omega
      · cases hw
theorem tf_i32r (x : Int32) : -2147483648 ≤ x.toInt ∧ x.toInt ≤ 2147483647 := by
  have h1 := Int32.le_toInt x
  have h2 := Int32.toInt_lt x
  omega
theorem tf_wr_iadd {q : Int × Int} {x y : Int32} {r : Int × Int} (hw : tf_wr (q.1 + y.toInt) (q.2 + y.toInt) = some r) (h : q.1 ≤ x.toInt ∧ x.toInt ≤ q.2) : r.1 ≤ (x + y).toInt ∧ (x + y).toInt ≤ r.2 := by
  have hx := tf_i32r x
  have hy := tf_i32r y
  exact tf_wr_in (a := x.toInt + y.toInt) hw (by omega) (by omega) (by omega) (by omega) (Int32.toInt_add x y)
theorem tf_wr_isub {q : Int × Int} {x y : Int32} {r : Int × Int} (hw : tf_wr (q.1 - y.toInt) (q.2 - y.toInt) = some r) (h : q.1 ≤ x.toInt ∧ x.toInt ≤ q.2) : r.1 ≤ (x - y).toInt ∧ (x - y).toInt ≤ r.2 := by
  have hx := tf_i32r x
  have hy := tf_i32r y
  exact tf_wr_in (a := x.toInt - y.toInt) hw (by omega) (by omega) (by omega) (by omega) (Int32.toInt_sub x y)
def tf_ceq (a b : Int × Int) : Option Bool := if a.2 < b.1 ∨ b.2 < a.1 then some false else if a.1 = a.2 ∧ b.1 = b.2 ∧ a.1 = b.1 then some true else none
def tf_clt (a b : Int × Int) : Option Bool := if a.2 < b.1 then some true else if b.2 ≤ a.1 then some false else none
def tf_cr (c : ClassFile.Cond) (a b : Int × Int) : Option Bool := match c with
  | .eq => tf_ceq a b
  | .ne => (tf_ceq a b).map (fun t => !t)
  | .lt => tf_clt a b
  | .ge => (tf_clt a b).map (fun t => !t)
  | .gt => tf_clt b a
  | .le => (tf_clt b a).map (fun t => !t)
theorem tf_ceq_ok {a b : Int × Int} {x y : Int32} {t : Bool} (h : tf_ceq a b = some t) (ha : a.1 ≤ x.toInt ∧ x.toInt ≤ a.2) (hb : b.1 ≤ y.toInt ∧ y.toInt ≤ b.2) : decide (x = y) = t := by
  unfold tf_ceq at h
  split at h
  · cases h
    refine decide_eq_false (fun e => ?_)
    subst e
    omega
  · split at h
    · cases h
      refine decide_eq_true (Int32.toInt_inj.mp ?_)
      omega
    · cases h
theorem tf_clt_ok {a b : Int × Int} {x y : Int32} {t : Bool} (h : tf_clt a b = some t) (ha : a.1 ≤ x.toInt ∧ x.toInt ≤ a.2) (hb : b.1 ≤ y.toInt ∧ y.toInt ≤ b.2) : decide (x < y) = t := by
  unfold tf_clt at h
  split at h
  · cases h
    refine decide_eq_true (Int32.lt_iff_toInt_lt.mpr ?_)
    omega
  · split at h
    · cases h
      refine decide_eq_false (fun e => ?_)
      have := Int32.lt_iff_toInt_lt.mp e
      omega
    · cases h
theorem tf_le_lt {x y : Int32} : decide (x ≤ y) = !decide (y < x) := by
  by_cases h : y < x
  · rw [decide_eq_true h]
    refine decide_eq_false (fun e => ?_)
    have := Int32.lt_iff_toInt_lt.mp h
    have := Int32.le_iff_toInt_le.mp e
    omega
  · rw [decide_eq_false h]
    refine decide_eq_true (Int32.le_iff_toInt_le.mpr ?_)
    have : ¬ y.toInt < x.toInt := fun e => h (Int32.lt_iff_toInt_lt.mpr e)
    omega
theorem tf_cr_ok {c : ClassFile.Cond} {a b : Int × Int} {x y : Int32} {t : Bool} (h : tf_cr c a b = some t) (ha : a.1 ≤ x.toInt ∧ x.toInt ≤ a.2) (hb : b.1 ≤ y.toInt ∧ y.toInt ≤ b.2) : tf_cb c x y = t := by
  cases c <;> simp only [tf_cr, Option.map_eq_some_iff] at h <;> simp only [tf_cb]
  case eq => exact tf_ceq_ok h ha hb
  case ne =>
    obtain ⟨u, hu, rfl⟩ := h
    rw [tf_ceq_ok hu ha hb]
  case lt => exact tf_clt_ok h ha hb
  case ge =>
    obtain ⟨u, hu, rfl⟩ := h
    rw [tf_le_lt, tf_clt_ok hu ha hb]
  case gt => exact tf_clt_ok h hb ha
  case le =>
    obtain ⟨u, hu, rfl⟩ := h
    rw [tf_le_lt, tf_clt_ok hu hb ha]
theorem tf_cr_t {c : ClassFile.Cond} {a b : Int × Int} {x y : Int32} (h : tf_cr c a b = some true) (ha : a.1 ≤ x.toInt ∧ x.toInt ≤ a.2) (hb : b.1 ≤ y.toInt ∧ y.toInt ≤ b.2) : tf_cb c x y = true := tf_cr_ok h ha hb
theorem tf_cr_f {c : ClassFile.Cond} {a b : Int × Int} {x y : Int32} (h : tf_cr c a b = some false) (ha : a.1 ≤ x.toInt ∧ x.toInt ≤ a.2) (hb : b.1 ≤ y.toInt ∧ y.toInt ≤ b.2) : ¬ tf_cb c x y = true := by
  rw [tf_cr_ok h ha hb]
  decide

def tf_ys (nc : Nat) (F : Nat → Option (Nat × Nat)) (M : Nat → Option (Nat × Nat × Bool)) (I : Nat → Option Value) (call : Nat → List tf_av → LH → Option (Value × LH)) (rk pc : Nat) (i : Instr) (L st : List tf_av) (h : LH) : Option tf_Ys := match i with
  | .iconst v => some (.inl (L, .inl (.int (Int32.ofInt v)) :: st, h))
  | .bipush v => some (.inl (L, .inl (.int (Int8.ofInt v).toInt32) :: st, h))
  | .sipush v => some (.inl (L, .inl (.int (Int16.ofInt v).toInt32) :: st, h))
  | .lconst v => some (.inl (L, .inl (.long (Int64.ofNat (v : Nat))) :: st, h))
  | .aconst_null => some (.inl (L, .inl (.null) :: st, h))
  | .ldc j => (match I j with | some (.int v) => some (.inl (L, .inl (.int v) :: st, h)) | _ => none)
  | .ldc_w j => (match I j with | some (.int v) => some (.inl (L, .inl (.int v) :: st, h)) | _ => none)
  | .ldc2_w j => (match I j with | some (.long v) => some (.inl (L, .inl (.long v) :: st, h)) | _ => none)
  | .iload_n i => (match L[(i : Nat)]? with | some (.inl (.int x)) => some (.inl (L, .inl (.int x) :: st, h)) | some (.inr (.inl q)) => some (.inl (L, .inr (.inl q) :: st, h)) | _ => none)
  | .iload i => (match L[i]? with | some (.inl (.int x)) => some (.inl (L, .inl (.int x) :: st, h)) | some (.inr (.inl q)) => some (.inl (L, .inr (.inl q) :: st, h)) | _ => none)
  | .lload_n i => (match L[(i : Nat)]? with | some (.inl (.long x)) => some (.inl (L, .inl (.long x) :: st, h)) | _ => none)
  | .aload_n i => (match L[(i : Nat)]? with | some (.inl (.ref x)) => some (.inl (L, .inl (.ref x) :: st, h)) | some (.inl .null) => some (.inl (L, .inl .null :: st, h)) | _ => none)
  | .aload i => (match L[i]? with | some (.inl (.ref x)) => some (.inl (L, .inl (.ref x) :: st, h)) | some (.inl .null) => some (.inl (L, .inl .null :: st, h)) | _ => none)
  | .istore_n i => (match st with | .inl (.int x) :: st => some (.inl (tf_a1 L (i : Nat) (.inl (.int x)), st, h)) | .inr (.inl q) :: st => some (.inl (tf_a1 L (i : Nat) (.inr (.inl q)), st, h)) | _ => none)
  | .istore i => (match st with | .inl (.int x) :: st => some (.inl (tf_a1 L i (.inl (.int x)), st, h)) | .inr (.inl q) :: st => some (.inl (tf_a1 L i (.inr (.inl q)), st, h)) | _ => none)
  | .astore_n i => (match st with | .inl (.ref x) :: st => some (.inl (tf_a1 L (i : Nat) (.inl (.ref x)), st, h)) | _ => none)
  | .astore i => (match st with | .inl (.ref x) :: st => some (.inl (tf_a1 L i (.inl (.ref x)), st, h)) | _ => none)
  | .lstore_n i => (match st with | .inl (.long x) :: st => some (.inl ((tf_a1 L (i : Nat) (.inl (.long x))).set ((i : Nat) + 1) (.inl tf_z), st, h)) | _ => none)
  | .iinc i v => (match L[i]? with | some (.inl (.int x)) => some (.inl (tf_a1 L i (.inl (.int (x + Int32.ofInt v))), st, h)) | _ => none)
  | .iadd => (match st with | .inl (.int y) :: .inl (.int x) :: st => some (.inl (L, .inl (.int (x + y)) :: st, h)) | .inl (.int y) :: .inr (.inl q) :: st => (match tf_wr (q.1 + y.toInt) (q.2 + y.toInt) with | some r => some (.inl (L, .inr (.inl r) :: st, h)) | none => none) | _ => none)
  | .isub => (match st with | .inl (.int y) :: .inl (.int x) :: st => some (.inl (L, .inl (.int (x - y)) :: st, h)) | .inl (.int y) :: .inr (.inl q) :: st => (match tf_wr (q.1 - y.toInt) (q.2 - y.toInt) with | some r => some (.inl (L, .inr (.inl r) :: st, h)) | none => none) | _ => none)
  | .imul => (match st with | .inl (.int y) :: .inl (.int x) :: st => some (.inl (L, .inl (.int (x * y)) :: st, h)) | _ => none)
  | .iand => (match st with | .inl (.int y) :: .inl (.int x) :: st => some (.inl (L, .inl (.int (x &&& y)) :: st, h)) | _ => none)
  | .ior => (match st with | .inl (.int y) :: .inl (.int x) :: st => some (.inl (L, .inl (.int (x ||| y)) :: st, h)) | _ => none)
  | .ishl => (match st with | .inl (.int y) :: .inl (.int x) :: st => some (.inl (L, .inl (.int (x <<< (y &&& 31))) :: st, h)) | _ => none)
  | .ishr => (match st with | .inl (.int y) :: .inl (.int x) :: st => some (.inl (L, .inl (.int (x >>> (y &&& 31))) :: st, h)) | _ => none)
  | .iushr => (match st with | .inl (.int y) :: .inl (.int x) :: st => some (.inl (L, .inl (.int ((x.toUInt32 >>> (y.toUInt32 &&& Int32.toUInt32 31)).toInt32)) :: st, h)) | _ => none)
  | .ineg => (match st with | .inl (.int x) :: st => some (.inl (L, .inl (.int (-x)) :: st, h)) | _ => none)
  | .idiv => (match st with | .inl (.int y) :: .inl (.int x) :: st => if ¬ y = 0 then some (.inl (L, .inl (.int (x / y)) :: st, h)) else none | _ => none)
  | .irem => (match st with | .inl (.int y) :: .inl (.int x) :: st => if ¬ y = 0 then some (.inl (L, .inl (.int (x - x / y * y)) :: st, h)) else none | _ => none)
  | .lmul => (match st with | .inl (.long y) :: .inl (.long x) :: st => some (.inl (L, .inl (.long (x * y)) :: st, h)) | .inr (.inr _) :: .inl (.long x) :: st => if x = 0 then some (.inl (L, .inl (.long 0) :: st, h)) else none | _ => none)
  | .land => (match st with | .inl (.long y) :: .inl (.long x) :: st => some (.inl (L, .inl (.long (x &&& y)) :: st, h)) | _ => none)
  | .lor => (match st with | .inl (.long y) :: .inl (.long x) :: st => some (.inl (L, .inl (.long (x ||| y)) :: st, h)) | _ => none)
  | .lshl => (match st with | .inl (.int y) :: .inl (.long x) :: st => some (.inl (L, .inl (.long (x <<< (y.toInt64 &&& 63))) :: st, h)) | _ => none)
  | .lshr => (match st with | .inl (.int y) :: .inl (.long x) :: st => some (.inl (L, .inl (.long (x >>> (y.toInt64 &&& 63))) :: st, h)) | _ => none)
  | .lushr => (match st with | .inl (.int y) :: .inl (.long x) :: st => some (.inl (L, .inl (.long ((x.toUInt64 >>> (y.toInt64.toUInt64 &&& Int64.toUInt64 63)).toInt64)) :: st, h)) | _ => none)
  | .lcmp => (match st with | .inl (.long y) :: .inl (.long x) :: st => some (.inl (L, .inl (.int (lg_cmp x y)) :: st, h)) | _ => none)
  | .i2l => (match st with | .inl (.int x) :: st => some (.inl (L, .inl (.long x.toInt64) :: st, h)) | .inr (.inl _) :: st => some (.inl (L, .inr (.inr ()) :: st, h)) | _ => none)
  | .l2i => (match st with | .inl (.long x) :: st => some (.inl (L, .inl (.int (x.toInt32)) :: st, h)) | _ => none)
  | .i2b => (match st with | .inl (.int x) :: st => some (.inl (L, .inl (.int (x.toInt8.toInt32)) :: st, h)) | _ => none)
  | .i2c => (match st with | .inl (.int x) :: st => some (.inl (L, .inl (.int ((x.toUInt32 % 65536).toInt32)) :: st, h)) | _ => none)
  | .dup => (match st with | .inl (.int x) :: st => some (.inl (L, .inl (.int x) :: .inl (.int x) :: st, h)) | .inl (.ref x) :: st => some (.inl (L, .inl (.ref x) :: .inl (.ref x) :: st, h)) | _ => none)
  | .pop => (match st with | .inl (.int x) :: st => some (.inl (L, st, h)) | .inl (.ref x) :: st => some (.inl (L, st, h)) | _ => none)
  | .dup2 => (match st with | .inl (.int x) :: .inl (.ref y) :: st => some (.inl (L, .inl (.int x) :: .inl (.ref y) :: .inl (.int x) :: .inl (.ref y) :: st, h)) | _ => none)
  | .goto o => some (.inr (.inl (tf_t pc o, L, st, h)))
  | .ifCond c o => (match st with | .inl (.int x) :: st => if tf_cb c x 0 = true then some (.inr (.inl (tf_t pc o, L, st, h))) else some (.inl (L, st, h)) | .inr (.inl q) :: st => (match tf_cr c q (0, 0) with | some true => some (.inr (.inl (tf_t pc o, L, st, h))) | some false => some (.inl (L, st, h)) | none => none) | _ => none)
  | .if_icmp c o => (match st with | .inl (.int y) :: .inl (.int x) :: st => if tf_cb c x y = true then some (.inr (.inl (tf_t pc o, L, st, h))) else some (.inl (L, st, h)) | .inl (.int y) :: .inr (.inl q) :: st => (match tf_cr c q (y.toInt, y.toInt) with | some true => some (.inr (.inl (tf_t pc o, L, st, h))) | some false => some (.inl (L, st, h)) | none => none) | .inr (.inl q) :: .inl (.int x) :: st => (match tf_cr c (x.toInt, x.toInt) q with | some true => some (.inr (.inl (tf_t pc o, L, st, h))) | some false => some (.inl (L, st, h)) | none => none) | _ => none)
  | .tableswitch d lo hi os => (match st with | .inl (.int x) :: st => if x.toInt < lo ∨ hi < x.toInt ∨ hi ≠ lo + os.size - 1 then (if (x.toInt < lo ∨ hi < x.toInt) ∧ hi = lo + os.size - 1 then some (.inr (.inl (tf_t pc d, L, st, h))) else none) else (match os.toList[(x.toInt - lo).toNat]? with | some o => some (.inr (.inl (tf_t pc o, L, st, h))) | none => none) | .inr (.inl q) :: st => if (q.2 < lo ∨ hi < q.1) ∧ hi = lo + os.size - 1 then some (.inr (.inl (tf_t pc d, L, st, h))) else none | _ => none)
  | .getfield j => (match F j, st with | some (ci, q), .inl (.ref x) :: st => if tf_K x = ci ∧ x < nc then some (.inl (L, .inl (tf_gv h x ci q) :: st, h)) else none | _, _ => none)
  | .putfield j => (match F j, st with | some (ci, q), .inl (.int v) :: .inl (.ref x) :: st => if tf_K x = ci ∧ x < nc ∧ tf_S ci q = 0 then some (.inl (L, st, (tf_up h.1 x q v, h.2))) else none | some (ci, q), .inl (.long v) :: .inl (.ref x) :: st => if tf_K x = ci ∧ x < nc ∧ tf_S ci q = 1 then some (.inl (L, st, (h.1, tf_upL h.2 x q v))) else none | _, _ => none)
  | .iaload => (match st with | .inl (.int i) :: .inl (.ref x) :: st => if tf_K x = 8 ∧ x < nc ∧ ¬ (i < 0 ∨ tf_N x ≤ i.toNatClampNeg) then some (.inl (L, .inl (.int (h.1 x i.toNatClampNeg)) :: st, h)) else none | _ => none)
  | .caload => (match st with | .inl (.int i) :: .inl (.ref x) :: st => if tf_K x = 9 ∧ x < nc ∧ ¬ (i < 0 ∨ tf_N x ≤ i.toNatClampNeg) then some (.inl (L, .inl (.int (h.1 x i.toNatClampNeg)) :: st, h)) else none | _ => none)
  | .baload => (match st with | .inl (.int i) :: .inl (.ref x) :: st => if (tf_K x = 10 ∨ tf_K x = 11) ∧ x < nc ∧ ¬ (i < 0 ∨ tf_N x ≤ i.toNatClampNeg) then some (.inl (L, .inl (.int (h.1 x i.toNatClampNeg)) :: st, h)) else none | _ => none)
  | .laload => (match st with | .inl (.int i) :: .inl (.ref x) :: st => if tf_K x = 12 ∧ x < nc ∧ ¬ (i < 0 ∨ tf_N x ≤ i.toNatClampNeg) then some (.inl (L, .inl (.long (h.2 x i.toNatClampNeg)) :: st, h)) else none | _ => none)
  | .aaload => (match st with | .inl (.int i) :: .inl (.ref x) :: st => if (tf_K x = 13 ∨ tf_K x = 14) ∧ x < nc ∧ ¬ (i < 0 ∨ tf_N x ≤ i.toNatClampNeg) then some (.inl (L, .inl (.ref (tf_R x i.toNatClampNeg)) :: st, h)) else none | _ => none)
  | .iastore => (match st with | .inl (.int v) :: .inl (.int i) :: .inl (.ref x) :: st => if tf_K x = 8 ∧ x < nc ∧ ¬ (i < 0 ∨ tf_N x ≤ i.toNatClampNeg) then some (.inl (L, st, (tf_up h.1 x i.toNatClampNeg v, h.2))) else none | _ => none)
  | .castore => (match st with | .inl (.int v) :: .inl (.int i) :: .inl (.ref x) :: st => if tf_K x = 9 ∧ x < nc ∧ ¬ (i < 0 ∨ tf_N x ≤ i.toNatClampNeg) then some (.inl (L, st, (tf_up h.1 x i.toNatClampNeg (vp_nar .char v), h.2))) else none | _ => none)
  | .lastore => (match st with | .inl (.long v) :: .inl (.int i) :: .inl (.ref x) :: st => if tf_K x = 12 ∧ x < nc ∧ ¬ (i < 0 ∨ tf_N x ≤ i.toNatClampNeg) then some (.inl (L, st, (h.1, tf_upL h.2 x i.toNatClampNeg v))) else none | _ => none)
  | .bastore => (match st with | .inl (.int v) :: .inl (.int i) :: .inl (.ref x) :: st => if x < nc ∧ ¬ (i < 0 ∨ tf_N x ≤ i.toNatClampNeg) then (if tf_K x = 10 then some (.inl (L, st, (tf_up h.1 x i.toNatClampNeg (vp_nar .byte v), h.2))) else if tf_K x = 11 then some (.inl (L, st, (tf_up h.1 x i.toNatClampNeg (vp_nar .boolean v), h.2))) else none) else none | _ => none)
  | .invokevirtual j => (match M j with | some (kn, na, vd) => if na ≤ st.length ∧ ((st.drop na).map tf_ca).sum ≤ 8 then (match call kn (st.take na).reverse h with | some (r, h) => some (.inl (L, (if vd = true then st.drop na else .inl r :: st.drop na), h)) | none => none) else none | none => none)
  | .invokestatic j => (match M (j + 100000) with | some (kn, na, vd) => if na ≤ st.length ∧ ((st.drop na).map tf_ca).sum ≤ 8 then (match call kn (st.take na).reverse h with | some (r, h) => some (.inl (L, (if vd = true then st.drop na else .inl r :: st.drop na), h)) | none => none) else none | none => none)
  | .ireturn => (match st with | [.inl (.int v)] => if rk = 1 ∨ (rk = 2 ∧ vp_nar .boolean v = v) then some (.inr (.inr (.int v, h))) else none | _ => none)
  | .return_ => (match st with | [] => if rk = 0 then some (.inr (.inr (tf_z, h))) else none | _ => none)
  | _ => none
def tf_yk (Q : tf_Q) (X : tf_X) (k : tf_Kt) (r : tf_Ys) : Prop := match r with
  | .inl (L, st, h) => ∀ L' st', tf_gl L L' → tf_gl st st' → k L' st' h
  | .inr (.inl (pc, L, st, h)) => ∀ L' st', tf_gl L L' → tf_gl st st' → X pc L' st' h
  | .inr (.inr (v, h)) => Q v h
set_option maxHeartbeats 4000000 in
theorem tf_ys_ok {nc : Nat} {C : tf_C} {F : Nat → Option (Nat × Nat)} {M : Nat → Option (Nat × Nat × Bool)} {I : Nat → Option Value} {call : Nat → List tf_av → LH → Option (Value × LH)} {rk : Nat} {Q : tf_Q} {X : tf_X} {k : tf_Kt} (hc : ∀ kn As As' h v h', call kn As h = some (v, h') → tf_gl As As' → ∀ Q : tf_Q, Q v h' → C kn As' h Q) {pc : Nat} {i : Instr} {L st : List tf_av} {L' st' : List Value} {h : LH} {r : tf_Ys} (hL : tf_gl L L') (hS : tf_gl st st') (hx : tf_ys nc F M I call rk pc i L st h = some r) (hr : tf_yk Q X k r) : tf_st nc C F M I rk Q X pc i L' st' h k := by
  cases i <;> try (exact absurd (show (none : Option tf_Ys) = some _ from hx) (by simp))
  case iconst v =>
    simp only [tf_ys] at hx
    simp only [tf_st]
    cases hx
    exact hr _ _ hL ⟨rfl, hS⟩
  case bipush v =>
    simp only [tf_ys] at hx
    simp only [tf_st]
    cases hx
    exact hr _ _ hL ⟨rfl, hS⟩
  case sipush v =>
    simp only [tf_ys] at hx
    simp only [tf_st]
    cases hx
    exact hr _ _ hL ⟨rfl, hS⟩
  case lconst v =>
    simp only [tf_ys] at hx
    simp only [tf_st]
    cases hx
    exact hr _ _ hL ⟨rfl, hS⟩
  case aconst_null =>
    simp only [tf_ys] at hx
    simp only [tf_st]
    cases hx
    exact hr _ _ hL ⟨rfl, hS⟩
  case ldc j =>
    simp only [tf_ys] at hx
    simp only [tf_st]
    split at hx
    · rename_i he
      cases hx
      rw [he]
      exact hr _ _ hL ⟨rfl, hS⟩
    · cases hx
  case ldc_w j =>
    simp only [tf_ys] at hx
    simp only [tf_st]
    split at hx
    · rename_i he
      cases hx
      rw [he]
      exact hr _ _ hL ⟨rfl, hS⟩
    · cases hx
  case ldc2_w j =>
    simp only [tf_ys] at hx
    simp only [tf_st]
    split at hx
    · rename_i he
      cases hx
      rw [he]
      exact hr _ _ hL ⟨rfl, hS⟩
    · cases hx
  case iload_n i =>
    simp only [tf_ys] at hx
    simp only [tf_st]
    split at hx
    · rename_i he
      cases hx
      obtain ⟨w, hw, hg⟩ := tf_gl_get hL he
      cases hg
      rw [hw]
      exact hr _ _ hL ⟨rfl, hS⟩
    · rename_i he
      cases hx
      obtain ⟨w, hw, hg⟩ := tf_gl_get hL he
      obtain ⟨x9, rfl, hq9⟩ := id hg
      rw [hw]
      exact hr _ _ hL ⟨hg, hS⟩
    · cases hx
  case iload i =>
    simp only [tf_ys] at hx
    simp only [tf_st]
    split at hx
    · rename_i he
      cases hx
      obtain ⟨w, hw, hg⟩ := tf_gl_get hL he
      cases hg
      rw [hw]
      exact hr _ _ hL ⟨rfl, hS⟩
    · rename_i he
      cases hx
      obtain ⟨w, hw, hg⟩ := tf_gl_get hL he
      obtain ⟨x9, rfl, hq9⟩ := id hg
      rw [hw]
      exact hr _ _ hL ⟨hg, hS⟩
    · cases hx
  case lload_n i =>
    simp only [tf_ys] at hx
    simp only [tf_st]
    split at hx
    · rename_i he
      cases hx
      obtain ⟨w, hw, hg⟩ := tf_gl_get hL he
      cases hg
      rw [hw]
      exact hr _ _ hL ⟨rfl, hS⟩
    · cases hx
  case aload_n i =>
    simp only [tf_ys] at hx
    simp only [tf_st]
    split at hx
    · rename_i he
      cases hx
      obtain ⟨w, hw, hg⟩ := tf_gl_get hL he
      cases hg
      rw [hw]
      exact hr _ _ hL ⟨rfl, hS⟩
    · rename_i he
      cases hx
      obtain ⟨w, hw, hg⟩ := tf_gl_get hL he
      cases hg
      rw [hw]
      exact hr _ _ hL ⟨rfl, hS⟩
    · cases hx
  case aload i =>
    simp only [tf_ys] at hx
    simp only [tf_st]
    split at hx
    · rename_i he
      cases hx
      obtain ⟨w, hw, hg⟩ := tf_gl_get hL he
      cases hg
      rw [hw]
      exact hr _ _ hL ⟨rfl, hS⟩
    · rename_i he
      cases hx
      obtain ⟨w, hw, hg⟩ := tf_gl_get hL he
      cases hg
      rw [hw]
      exact hr _ _ hL ⟨rfl, hS⟩
    · cases hx
  case istore_n i =>
    simp only [tf_ys] at hx
    simp only [tf_st]
    split at hx
    · obtain ⟨s1, e1, hS1⟩ := tf_glk hS; subst e1; clear hS; have hS := hS1; clear hS1
      cases hx
      exact hr _ _ (tf_a1_ok hL (tf_gk _)) hS
    · obtain ⟨x9, s9, e1, hq9, hS1⟩ := tf_glr hS; subst e1; clear hS; have hS := hS1; clear hS1
      cases hx
      exact hr _ _ (tf_a1_ok hL ⟨x9, rfl, hq9⟩) hS
    · cases hx
  case istore i =>
    simp only [tf_ys] at hx
    simp only [tf_st]
    split at hx
    · obtain ⟨s1, e1, hS1⟩ := tf_glk hS; subst e1; clear hS; have hS := hS1; clear hS1
      cases hx
      exact hr _ _ (tf_a1_ok hL (tf_gk _)) hS
    · obtain ⟨x9, s9, e1, hq9, hS1⟩ := tf_glr hS; subst e1; clear hS; have hS := hS1; clear hS1
      cases hx
      exact hr _ _ (tf_a1_ok hL ⟨x9, rfl, hq9⟩) hS
    · cases hx
  case astore_n i =>
    simp only [tf_ys] at hx
    simp only [tf_st]
    split at hx
    · obtain ⟨s1, e1, hS1⟩ := tf_glk hS; subst e1; clear hS; have hS := hS1; clear hS1
      cases hx
      exact hr _ _ (tf_a1_ok hL (tf_gk _)) hS
    · cases hx
  case astore i =>
    simp only [tf_ys] at hx
    simp only [tf_st]
    split at hx
    · obtain ⟨s1, e1, hS1⟩ := tf_glk hS; subst e1; clear hS; have hS := hS1; clear hS1
      cases hx
      exact hr _ _ (tf_a1_ok hL (tf_gk _)) hS
    · cases hx
  case lstore_n i =>
    simp only [tf_ys] at hx
    simp only [tf_st]
    split at hx
    · obtain ⟨s1, e1, hS1⟩ := tf_glk hS; subst e1; clear hS; have hS := hS1; clear hS1
      cases hx
      exact hr _ _ (tf_gl_set (tf_a1_ok hL (tf_gk _)) (tf_gk _)) hS
    · cases hx
  case iinc i v =>
    simp only [tf_ys] at hx
    simp only [tf_st]
    split at hx
    · rename_i he
      cases hx
      obtain ⟨w, hw, hg⟩ := tf_gl_get hL he
      cases hg
      rw [hw]
      exact hr _ _ (tf_a1_ok hL (tf_gk _)) hS
    · cases hx
  case iadd =>
    simp only [tf_ys] at hx
    simp only [tf_st]
    split at hx
    · obtain ⟨s1, e1, hS1⟩ := tf_glk hS; subst e1; clear hS; have hS := hS1; clear hS1
      obtain ⟨s2, e1, hS1⟩ := tf_glk hS; subst e1; clear hS; have hS := hS1; clear hS1
      cases hx
      exact hr _ _ hL ⟨rfl, hS⟩
    · obtain ⟨s1, e1, hS1⟩ := tf_glk hS; subst e1; clear hS; have hS := hS1; clear hS1
      obtain ⟨x9, s9, e1, hq9, hS1⟩ := tf_glr hS; subst e1; clear hS; have hS := hS1; clear hS1
      split at hx
      · rename_i hw
        cases hx
        exact hr _ _ hL ⟨⟨_, rfl, tf_wr_iadd hw hq9⟩, hS⟩
      · cases hx
    · cases hx
  case isub =>
    simp only [tf_ys] at hx
    simp only [tf_st]
    split at hx
    · obtain ⟨s1, e1, hS1⟩ := tf_glk hS; subst e1; clear hS; have hS := hS1; clear hS1
      obtain ⟨s2, e1, hS1⟩ := tf_glk hS; subst e1; clear hS; have hS := hS1; clear hS1
      cases hx
      exact hr _ _ hL ⟨rfl, hS⟩
    · obtain ⟨s1, e1, hS1⟩ := tf_glk hS; subst e1; clear hS; have hS := hS1; clear hS1
      obtain ⟨x9, s9, e1, hq9, hS1⟩ := tf_glr hS; subst e1; clear hS; have hS := hS1; clear hS1
      split at hx
      · rename_i hw
        cases hx
        exact hr _ _ hL ⟨⟨_, rfl, tf_wr_isub hw hq9⟩, hS⟩
      · cases hx
    · cases hx
  case imul =>
    simp only [tf_ys] at hx
    simp only [tf_st]
    split at hx
    · obtain ⟨s1, e1, hS1⟩ := tf_glk hS; subst e1; clear hS; have hS := hS1; clear hS1
      obtain ⟨s2, e1, hS1⟩ := tf_glk hS; subst e1; clear hS; have hS := hS1; clear hS1
      cases hx
      exact hr _ _ hL ⟨rfl, hS⟩
    · cases hx
  case iand =>
    simp only [tf_ys] at hx
    simp only [tf_st]
    split at hx
    · obtain ⟨s1, e1, hS1⟩ := tf_glk hS; subst e1; clear hS; have hS := hS1; clear hS1
      obtain ⟨s2, e1, hS1⟩ := tf_glk hS; subst e1; clear hS; have hS := hS1; clear hS1
      cases hx
      exact hr _ _ hL ⟨rfl, hS⟩
    · cases hx
  case ior =>
    simp only [tf_ys] at hx
    simp only [tf_st]
    split at hx
    · obtain ⟨s1, e1, hS1⟩ := tf_glk hS; subst e1; clear hS; have hS := hS1; clear hS1
      obtain ⟨s2, e1, hS1⟩ := tf_glk hS; subst e1; clear hS; have hS := hS1; clear hS1
      cases hx
      exact hr _ _ hL ⟨rfl, hS⟩
    · cases hx
  case ishl =>
    simp only [tf_ys] at hx
    simp only [tf_st]
    split at hx
    · obtain ⟨s1, e1, hS1⟩ := tf_glk hS; subst e1; clear hS; have hS := hS1; clear hS1
      obtain ⟨s2, e1, hS1⟩ := tf_glk hS; subst e1; clear hS; have hS := hS1; clear hS1
      cases hx
      exact hr _ _ hL ⟨rfl, hS⟩
    · cases hx
  case ishr =>
    simp only [tf_ys] at hx
    simp only [tf_st]
    split at hx
    · obtain ⟨s1, e1, hS1⟩ := tf_glk hS; subst e1; clear hS; have hS := hS1; clear hS1
      obtain ⟨s2, e1, hS1⟩ := tf_glk hS; subst e1; clear hS; have hS := hS1; clear hS1
      cases hx
      exact hr _ _ hL ⟨rfl, hS⟩
    · cases hx
  case iushr =>
    simp only [tf_ys] at hx
    simp only [tf_st]
    split at hx
    · obtain ⟨s1, e1, hS1⟩ := tf_glk hS; subst e1; clear hS; have hS := hS1; clear hS1
      obtain ⟨s2, e1, hS1⟩ := tf_glk hS; subst e1; clear hS; have hS := hS1; clear hS1
      cases hx
      exact hr _ _ hL ⟨rfl, hS⟩
    · cases hx
  case ineg =>
    simp only [tf_ys] at hx
    simp only [tf_st]
    split at hx
    · obtain ⟨s1, e1, hS1⟩ := tf_glk hS; subst e1; clear hS; have hS := hS1; clear hS1
      cases hx
      exact hr _ _ hL ⟨rfl, hS⟩
    · cases hx
  case idiv =>
    simp only [tf_ys] at hx
    simp only [tf_st]
    split at hx
    · obtain ⟨s1, e1, hS1⟩ := tf_glk hS; subst e1; clear hS; have hS := hS1; clear hS1
      obtain ⟨s2, e1, hS1⟩ := tf_glk hS; subst e1; clear hS; have hS := hS1; clear hS1
      split at hx
      · rename_i hq
        cases hx
        exact ⟨hq, hr _ _ hL ⟨rfl, hS⟩⟩
      · cases hx
    · cases hx
  case irem =>
    simp only [tf_ys] at hx
    simp only [tf_st]
    split at hx
    · obtain ⟨s1, e1, hS1⟩ := tf_glk hS; subst e1; clear hS; have hS := hS1; clear hS1
      obtain ⟨s2, e1, hS1⟩ := tf_glk hS; subst e1; clear hS; have hS := hS1; clear hS1
      split at hx
      · rename_i hq
        cases hx
        exact ⟨hq, hr _ _ hL ⟨rfl, hS⟩⟩
      · cases hx
    · cases hx
  case lmul =>
    simp only [tf_ys] at hx
    simp only [tf_st]
    split at hx
    · obtain ⟨s1, e1, hS1⟩ := tf_glk hS; subst e1; clear hS; have hS := hS1; clear hS1
      obtain ⟨s2, e1, hS1⟩ := tf_glk hS; subst e1; clear hS; have hS := hS1; clear hS1
      cases hx
      exact hr _ _ hL ⟨rfl, hS⟩
    · obtain ⟨x8, s8, e1, hS1⟩ := tf_gll hS; subst e1; clear hS; have hS := hS1; clear hS1
      obtain ⟨s1, e1, hS1⟩ := tf_glk hS; subst e1; clear hS; have hS := hS1; clear hS1
      split at hx
      · rename_i h0
        cases hx
        subst h0
        have h1 : (0 : Int64) * x8 = 0 := by simp
        refine hr _ _ hL ⟨?_, hS⟩
        rw [h1]
        rfl
      · cases hx
    · cases hx
  case land =>
    simp only [tf_ys] at hx
    simp only [tf_st]
    split at hx
    · obtain ⟨s1, e1, hS1⟩ := tf_glk hS; subst e1; clear hS; have hS := hS1; clear hS1
      obtain ⟨s2, e1, hS1⟩ := tf_glk hS; subst e1; clear hS; have hS := hS1; clear hS1
      cases hx
      exact hr _ _ hL ⟨rfl, hS⟩
    · cases hx
  case lor =>
    simp only [tf_ys] at hx
    simp only [tf_st]
    split at hx
    · obtain ⟨s1, e1, hS1⟩ := tf_glk hS; subst e1; clear hS; have hS := hS1; clear hS1
      obtain ⟨s2, e1, hS1⟩ := tf_glk hS; subst e1; clear hS; have hS := hS1; clear hS1
      cases hx
      exact hr _ _ hL ⟨rfl, hS⟩
    · cases hx
  case lshl =>
    simp only [tf_ys] at hx
    simp only [tf_st]
    split at hx
    · obtain ⟨s1, e1, hS1⟩ := tf_glk hS; subst e1; clear hS; have hS := hS1; clear hS1
      obtain ⟨s2, e1, hS1⟩ := tf_glk hS; subst e1; clear hS; have hS := hS1; clear hS1
      cases hx
      exact hr _ _ hL ⟨rfl, hS⟩
    · cases hx
  case lshr =>
    simp only [tf_ys] at hx
    simp only [tf_st]
    split at hx
    · obtain ⟨s1, e1, hS1⟩ := tf_glk hS; subst e1; clear hS; have hS := hS1; clear hS1
      obtain ⟨s2, e1, hS1⟩ := tf_glk hS; subst e1; clear hS; have hS := hS1; clear hS1
      cases hx
      exact hr _ _ hL ⟨rfl, hS⟩
    · cases hx
  case lushr =>
    simp only [tf_ys] at hx
    simp only [tf_st]
    split at hx
    · obtain ⟨s1, e1, hS1⟩ := tf_glk hS; subst e1; clear hS; have hS := hS1; clear hS1
      obtain ⟨s2, e1, hS1⟩ := tf_glk hS; subst e1; clear hS; have hS := hS1; clear hS1
      cases hx
      exact hr _ _ hL ⟨rfl, hS⟩
    · cases hx
  case lcmp =>
    simp only [tf_ys] at hx
    simp only [tf_st]
    split at hx
    · obtain ⟨s1, e1, hS1⟩ := tf_glk hS; subst e1; clear hS; have hS := hS1; clear hS1
      obtain ⟨s2, e1, hS1⟩ := tf_glk hS; subst e1; clear hS; have hS := hS1; clear hS1
      cases hx
      exact hr _ _ hL ⟨rfl, hS⟩
    · cases hx
  case i2l =>
    simp only [tf_ys] at hx
    simp only [tf_st]
    split at hx
    · obtain ⟨s1, e1, hS1⟩ := tf_glk hS; subst e1; clear hS; have hS := hS1; clear hS1
      cases hx
      exact hr _ _ hL ⟨rfl, hS⟩
    · obtain ⟨x9, s9, e1, hq9, hS1⟩ := tf_glr hS; subst e1; clear hS; have hS := hS1; clear hS1
      cases hx
      exact hr _ _ hL ⟨⟨_, rfl⟩, hS⟩
    · cases hx
  case l2i =>
    simp only [tf_ys] at hx
    simp only [tf_st]
    split at hx
    · obtain ⟨s1, e1, hS1⟩ := tf_glk hS; subst e1; clear hS; have hS := hS1; clear hS1
      cases hx
      exact hr _ _ hL ⟨rfl, hS⟩
    · cases hx
  case i2b =>
    simp only [tf_ys] at hx
    simp only [tf_st]
    split at hx
    · obtain ⟨s1, e1, hS1⟩ := tf_glk hS; subst e1; clear hS; have hS := hS1; clear hS1
      cases hx
      exact hr _ _ hL ⟨rfl, hS⟩
    · cases hx
  case i2c =>
    simp only [tf_ys] at hx
    simp only [tf_st]
    split at hx
    · obtain ⟨s1, e1, hS1⟩ := tf_glk hS; subst e1; clear hS; have hS := hS1; clear hS1
      cases hx
      exact hr _ _ hL ⟨rfl, hS⟩
    · cases hx
  case dup =>
    simp only [tf_ys] at hx
    simp only [tf_st]
    split at hx
    · obtain ⟨s1, e1, hS1⟩ := tf_glk hS; subst e1; clear hS; have hS := hS1; clear hS1
      cases hx
      exact hr _ _ hL ⟨rfl, rfl, hS⟩
    · obtain ⟨s1, e1, hS1⟩ := tf_glk hS; subst e1; clear hS; have hS := hS1; clear hS1
      cases hx
      exact hr _ _ hL ⟨rfl, rfl, hS⟩
    · cases hx
  case pop =>
    simp only [tf_ys] at hx
    simp only [tf_st]
    split at hx
    · obtain ⟨s1, e1, hS1⟩ := tf_glk hS; subst e1; clear hS; have hS := hS1; clear hS1
      cases hx
      exact hr _ _ hL hS
    · obtain ⟨s1, e1, hS1⟩ := tf_glk hS; subst e1; clear hS; have hS := hS1; clear hS1
      cases hx
      exact hr _ _ hL hS
    · cases hx
  case dup2 =>
    simp only [tf_ys] at hx
    simp only [tf_st]
    split at hx
    · obtain ⟨s1, e1, hS1⟩ := tf_glk hS; subst e1; clear hS; have hS := hS1; clear hS1
      obtain ⟨s2, e1, hS1⟩ := tf_glk hS; subst e1; clear hS; have hS := hS1; clear hS1
      cases hx
      exact hr _ _ hL ⟨rfl, rfl, rfl, rfl, hS⟩
    · cases hx
  case goto o =>
    simp only [tf_ys] at hx
    simp only [tf_st]
    cases hx
    exact hr _ _ hL hS
  case ifCond c9 o =>
    simp only [tf_ys] at hx
    simp only [tf_st]
    split at hx
    · obtain ⟨s1, e1, hS1⟩ := tf_glk hS; subst e1; clear hS; have hS := hS1; clear hS1
      split at hx
      · rename_i hq
        cases hx
        exact tf_cb_t hq (hr _ _ hL hS)
      · rename_i hq
        cases hx
        exact tf_cb_f hq (hr _ _ hL hS)
    · obtain ⟨x9, s9, e1, hq9, hS1⟩ := tf_glr hS; subst e1; clear hS; have hS := hS1; clear hS1
      split at hx
      · rename_i hq
        cases hx
        exact tf_cb_t (tf_cr_t hq hq9 ⟨Int.le_refl _, Int.le_refl _⟩) (hr _ _ hL hS)
      · rename_i hq
        cases hx
        exact tf_cb_f (tf_cr_f hq hq9 ⟨Int.le_refl _, Int.le_refl _⟩) (hr _ _ hL hS)
      · cases hx
    · cases hx
  case if_icmp c9 o =>
    simp only [tf_ys] at hx
    simp only [tf_st]
    split at hx
    · obtain ⟨s1, e1, hS1⟩ := tf_glk hS; subst e1; clear hS; have hS := hS1; clear hS1
      obtain ⟨s2, e1, hS1⟩ := tf_glk hS; subst e1; clear hS; have hS := hS1; clear hS1
      split at hx
      · rename_i hq
        cases hx
        exact tf_cb_t hq (hr _ _ hL hS)
      · rename_i hq
        cases hx
        exact tf_cb_f hq (hr _ _ hL hS)
    · obtain ⟨s1, e1, hS1⟩ := tf_glk hS; subst e1; clear hS; have hS := hS1; clear hS1
      obtain ⟨x9, s9, e1, hq9, hS1⟩ := tf_glr hS; subst e1; clear hS; have hS := hS1; clear hS1
      split at hx
      · rename_i hq
        cases hx
        exact tf_cb_t (tf_cr_t hq hq9 ⟨Int.le_refl _, Int.le_refl _⟩) (hr _ _ hL hS)
      · rename_i hq
        cases hx
        exact tf_cb_f (tf_cr_f hq hq9 ⟨Int.le_refl _, Int.le_refl _⟩) (hr _ _ hL hS)
      · cases hx
    · obtain ⟨x9, s9, e1, hq9, hS1⟩ := tf_glr hS; subst e1; clear hS; have hS := hS1; clear hS1
      obtain ⟨s1, e1, hS1⟩ := tf_glk hS; subst e1; clear hS; have hS := hS1; clear hS1
      split at hx
      · rename_i hq
        cases hx
        exact tf_cb_t (tf_cr_t hq ⟨Int.le_refl _, Int.le_refl _⟩ hq9) (hr _ _ hL hS)
      · rename_i hq
        cases hx
        exact tf_cb_f (tf_cr_f hq ⟨Int.le_refl _, Int.le_refl _⟩ hq9) (hr _ _ hL hS)
      · cases hx
    · cases hx
  case tableswitch d lo hi os =>
    simp only [tf_ys] at hx
    simp only [tf_st]
    split at hx
    · rename_i x st2
      obtain ⟨s1, e1, hS1⟩ := tf_glk hS; subst e1; clear hS; have hS := hS1; clear hS1
      split at hx
      · split at hx
        · rename_i hq
          cases hx
          refine ⟨fun _ => hr _ _ hL hS, tf_sw_of _ _ (fun j o2 hj e => ?_)⟩
          have hl := (List.getElem?_eq_some_iff.mp hj).1
          rw [Array.length_toList] at hl
          rcases hq.1 with q | q <;> omega
        · cases hx
      · rename_i hq
        split at hx
        · rename_i o2 ho
          cases hx
          refine ⟨fun q => absurd q (fun q => hq (q.elim Or.inl (fun z => Or.inr (Or.inl z)))), tf_sw_of _ _ (fun j o3 hj e => ?_)⟩
          have : (x.toInt - lo).toNat = j := by omega
          rw [this, hj] at ho
          cases ho
          exact hr _ _ hL hS
        · cases hx
    · rename_i q9 st2
      obtain ⟨x9, s9, e1, hq9, hS1⟩ := tf_glr hS; subst e1; clear hS; have hS := hS1; clear hS1
      split at hx
      · rename_i hq
        cases hx
        refine ⟨fun _ => hr _ _ hL hS, tf_sw_of _ _ (fun j o2 hj e => ?_)⟩
        have hl := (List.getElem?_eq_some_iff.mp hj).1
        rw [Array.length_toList] at hl
        rcases hq.1 with q | q <;> omega
      · cases hx
    · cases hx
  case getfield j =>
    simp only [tf_ys] at hx
    simp only [tf_st]
    split at hx
    · rename_i hf
      obtain ⟨s1, e1, hS1⟩ := tf_glk hS; subst e1; clear hS; have hS := hS1; clear hS1
      split at hx
      · rename_i hq
        cases hx
        rw [hf]
        exact ⟨hq, hr _ _ hL ⟨rfl, hS⟩⟩
      · cases hx
    · cases hx
  case putfield j =>
    simp only [tf_ys] at hx
    simp only [tf_st]
    split at hx
    · rename_i hf
      obtain ⟨s1, e1, hS1⟩ := tf_glk hS; subst e1; clear hS; have hS := hS1; clear hS1
      obtain ⟨s2, e1, hS1⟩ := tf_glk hS; subst e1; clear hS; have hS := hS1; clear hS1
      split at hx
      · rename_i hq
        cases hx
        rw [hf]
        exact ⟨hq, hr _ _ hL hS⟩
      · cases hx
    · rename_i hf
      obtain ⟨s1, e1, hS1⟩ := tf_glk hS; subst e1; clear hS; have hS := hS1; clear hS1
      obtain ⟨s2, e1, hS1⟩ := tf_glk hS; subst e1; clear hS; have hS := hS1; clear hS1
      split at hx
      · rename_i hq
        cases hx
        rw [hf]
        exact ⟨hq, hr _ _ hL hS⟩
      · cases hx
    · cases hx
  case iaload =>
    simp only [tf_ys] at hx
    simp only [tf_st]
    split at hx
    · obtain ⟨s1, e1, hS1⟩ := tf_glk hS; subst e1; clear hS; have hS := hS1; clear hS1
      obtain ⟨s2, e1, hS1⟩ := tf_glk hS; subst e1; clear hS; have hS := hS1; clear hS1
      split at hx
      · rename_i hq
        cases hx
        exact ⟨hq, hr _ _ hL ⟨rfl, hS⟩⟩
      · cases hx
    · cases hx
  case caload =>
    simp only [tf_ys] at hx
    simp only [tf_st]
    split at hx
    · obtain ⟨s1, e1, hS1⟩ := tf_glk hS; subst e1; clear hS; have hS := hS1; clear hS1
      obtain ⟨s2, e1, hS1⟩ := tf_glk hS; subst e1; clear hS; have hS := hS1; clear hS1
      split at hx
      · rename_i hq
        cases hx
        exact ⟨hq, hr _ _ hL ⟨rfl, hS⟩⟩
      · cases hx
    · cases hx
  case baload =>
    simp only [tf_ys] at hx
    simp only [tf_st]
    split at hx
    · obtain ⟨s1, e1, hS1⟩ := tf_glk hS; subst e1; clear hS; have hS := hS1; clear hS1
      obtain ⟨s2, e1, hS1⟩ := tf_glk hS; subst e1; clear hS; have hS := hS1; clear hS1
      split at hx
      · rename_i hq
        cases hx
        exact ⟨hq, hr _ _ hL ⟨rfl, hS⟩⟩
      · cases hx
    · cases hx
  case laload =>
    simp only [tf_ys] at hx
    simp only [tf_st]
    split at hx
    · obtain ⟨s1, e1, hS1⟩ := tf_glk hS; subst e1; clear hS; have hS := hS1; clear hS1
      obtain ⟨s2, e1, hS1⟩ := tf_glk hS; subst e1; clear hS; have hS := hS1; clear hS1
      split at hx
      · rename_i hq
        cases hx
        exact ⟨hq, hr _ _ hL ⟨rfl, hS⟩⟩
      · cases hx
    · cases hx
  case aaload =>
    simp only [tf_ys] at hx
    simp only [tf_st]
    split at hx
    · obtain ⟨s1, e1, hS1⟩ := tf_glk hS; subst e1; clear hS; have hS := hS1; clear hS1
      obtain ⟨s2, e1, hS1⟩ := tf_glk hS; subst e1; clear hS; have hS := hS1; clear hS1
      split at hx
      · rename_i hq
        cases hx
        exact ⟨hq, hr _ _ hL ⟨rfl, hS⟩⟩
      · cases hx
    · cases hx
  case iastore =>
    simp only [tf_ys] at hx
    simp only [tf_st]
    split at hx
    · obtain ⟨s1, e1, hS1⟩ := tf_glk hS; subst e1; clear hS; have hS := hS1; clear hS1
      obtain ⟨s2, e1, hS1⟩ := tf_glk hS; subst e1; clear hS; have hS := hS1; clear hS1
      obtain ⟨s3, e1, hS1⟩ := tf_glk hS; subst e1; clear hS; have hS := hS1; clear hS1
      split at hx
      · rename_i hq
        cases hx
        exact ⟨hq, hr _ _ hL hS⟩
      · cases hx
    · cases hx
  case castore =>
    simp only [tf_ys] at hx
    simp only [tf_st]
    split at hx
    · obtain ⟨s1, e1, hS1⟩ := tf_glk hS; subst e1; clear hS; have hS := hS1; clear hS1
      obtain ⟨s2, e1, hS1⟩ := tf_glk hS; subst e1; clear hS; have hS := hS1; clear hS1
      obtain ⟨s3, e1, hS1⟩ := tf_glk hS; subst e1; clear hS; have hS := hS1; clear hS1
      split at hx
      · rename_i hq
        cases hx
        exact ⟨hq, hr _ _ hL hS⟩
      · cases hx
    · cases hx
  case lastore =>
    simp only [tf_ys] at hx
    simp only [tf_st]
    split at hx
    · obtain ⟨s1, e1, hS1⟩ := tf_glk hS; subst e1; clear hS; have hS := hS1; clear hS1
      obtain ⟨s2, e1, hS1⟩ := tf_glk hS; subst e1; clear hS; have hS := hS1; clear hS1
      obtain ⟨s3, e1, hS1⟩ := tf_glk hS; subst e1; clear hS; have hS := hS1; clear hS1
      split at hx
      · rename_i hq
        cases hx
        exact ⟨hq, hr _ _ hL hS⟩
      · cases hx
    · cases hx
  case bastore =>
    simp only [tf_ys] at hx
    simp only [tf_st]
    split at hx
    · obtain ⟨s1, e1, hS1⟩ := tf_glk hS; subst e1; clear hS; have hS := hS1; clear hS1
      obtain ⟨s2, e1, hS1⟩ := tf_glk hS; subst e1; clear hS; have hS := hS1; clear hS1
      obtain ⟨s3, e1, hS1⟩ := tf_glk hS; subst e1; clear hS; have hS := hS1; clear hS1
      split at hx
      · rename_i hq
        split at hx
        · rename_i hk
          cases hx
          exact ⟨hq, Or.inl ⟨hk, hr _ _ hL hS⟩⟩
        · split at hx
          · rename_i hk
            cases hx
            exact ⟨hq, Or.inr ⟨hk, hr _ _ hL hS⟩⟩
          · cases hx
      · cases hx
    · cases hx
  case invokevirtual j =>
    simp only [tf_ys] at hx
    simp only [tf_st]
    split at hx
    · rename_i kn na vd hm
      split at hx
      · rename_i hq
        split at hx
        · rename_i hcl
          cases hx
          rw [hm]
          refine ⟨by rw [← tf_gl_len hS]; exact hq.1, by rw [← tf_gl_cat (tf_gl_drop hS)]; exact hq.2, hc _ _ _ _ _ _ hcl (tf_gl_rev (tf_gl_take hS)) _ ?_⟩
          refine hr _ _ hL ?_
          cases vd
          · exact ⟨rfl, tf_gl_drop hS⟩
          · exact tf_gl_drop hS
        · cases hx
      · cases hx
    · cases hx
  case invokestatic j =>
    simp only [tf_ys] at hx
    simp only [tf_st]
    split at hx
    · rename_i kn na vd hm
      split at hx
      · rename_i hq
        split at hx
        · rename_i hcl
          cases hx
          rw [hm]
          refine ⟨by rw [← tf_gl_len hS]; exact hq.1, by rw [← tf_gl_cat (tf_gl_drop hS)]; exact hq.2, hc _ _ _ _ _ _ hcl (tf_gl_rev (tf_gl_take hS)) _ ?_⟩
          refine hr _ _ hL ?_
          cases vd
          · exact ⟨rfl, tf_gl_drop hS⟩
          · exact tf_gl_drop hS
        · cases hx
      · cases hx
    · cases hx
  case ireturn =>
    simp only [tf_ys] at hx
    simp only [tf_st]
    split at hx
    · obtain ⟨s1, e1, hS1⟩ := tf_glk hS; subst e1; clear hS; have hS := hS1; clear hS1
      have e1 := tf_gl_nil hS; subst e1
      split at hx
      · rename_i hq
        cases hx
        refine ⟨?_, hr⟩
        rcases hq with rfl | ⟨rfl, hq⟩
        · trivial
        · exact hq
      · cases hx
    · cases hx
  case return_ =>
    simp only [tf_ys] at hx
    simp only [tf_st]
    split at hx
    · have e1 := tf_gl_nil hS; subst e1
      split at hx
      · rename_i hq
        cases hx
        exact ⟨hq, hr⟩
      · cases hx
    · cases hx
def tf_yb (nc : Nat) (F : Nat → Option (Nat × Nat)) (M : Nat → Option (Nat × Nat × Bool)) (I : Nat → Option Value) (call : Nat → List tf_av → LH → Option (Value × LH)) (rk : Nat) : Nat → List (Instr × Nat) → List tf_av → List tf_av → LH → Option ((Nat × List tf_av × List tf_av × LH) ⊕ (Value × LH))
  | pc, [], L, st, h => some (.inl (pc, L, st, h))
  | pc, (i, n) :: r, L, st, h => match tf_ys nc F M I call rk pc i L st h with
    | some (.inl (L, st, h)) => tf_yb nc F M I call rk (pc + n) r L st h
    | some (.inr r) => some r
    | none => none
theorem tf_yb_ok {nc : Nat} {C : tf_C} {F : Nat → Option (Nat × Nat)} {M : Nat → Option (Nat × Nat × Bool)} {I : Nat → Option Value} {call : Nat → List tf_av → LH → Option (Value × LH)} {rk : Nat} {Q : tf_Q} {X : tf_X} (hc : ∀ kn As As' h v h', call kn As h = some (v, h') → tf_gl As As' → ∀ Q : tf_Q, Q v h' → C kn As' h Q) : ∀ (b : List (Instr × Nat)) (pc : Nat) (L st : List tf_av) (L' st' : List Value) (h : LH) (r : (Nat × List tf_av × List tf_av × LH) ⊕ (Value × LH)), tf_gl L L' → tf_gl st st' → tf_yb nc F M I call rk pc b L st h = some r → (match r with | .inl (pc, L, st, h) => ∀ L' st', tf_gl L L' → tf_gl st st' → X pc L' st' h | .inr (v, h) => Q v h) → tf_wp nc C F M I (fun _ => none) rk Q X pc b L' st' h
  | [], pc, L, st, L', st', h, r, hL, hS, hx, hr => by
    cases hx
    exact hr _ _ hL hS
  | (i, n) :: b, pc, L, st, L', st', h, r, hL, hS, hx, hr => by
    simp only [tf_yb] at hx
    simp only [tf_wp]
    split at hx
    · rename_i hs
      exact tf_ys_ok hc hL hS hs (fun L2 st2 hL2 hS2 => tf_yb_ok hc b (pc + n) _ _ L2 st2 _ r hL2 hS2 hx hr)
    · rename_i hs
      cases hx
      refine tf_ys_ok hc hL hS hs ?_
      cases r with
      | inl q => exact hr
      | inr q => exact hr
    · cases hx
def tf_yr (nc : Nat) (F : Nat → Option (Nat × Nat)) (M : Nat → Option (Nat × Nat × Bool)) (I : Nat → Option Value) (call : Nat → List tf_av → LH → Option (Value × LH)) (rk : Nat) (B : tf_Bk) : Nat → Nat → List tf_av → List tf_av → LH → Option (Value × LH)
  | 0, _, _, _, _ => none
  | n + 1, pc, L, st, h => match tf_yb nc F M I call rk pc (tf_at B pc) L st h with
    | some (.inl (pc, L, st, h)) => tf_yr nc F M I call rk B n pc L st h
    | some (.inr r) => some r
    | none => none
theorem tf_yr_ok {nc : Nat} {C : tf_C} {F : Nat → Option (Nat × Nat)} {M : Nat → Option (Nat × Nat × Bool)} {I : Nat → Option Value} {call : Nat → List tf_av → LH → Option (Value × LH)} {rk : Nat} {B : tf_Bk} {Q : tf_Q} (hc : ∀ kn As As' h v h', call kn As h = some (v, h') → tf_gl As As' → ∀ Q : tf_Q, Q v h' → C kn As' h Q) : ∀ (n pc : Nat) (L st : List tf_av) (L' st' : List Value) (h : LH) (v : Value) (h' : LH), tf_gl L L' → tf_gl st st' → tf_yr nc F M I call rk B n pc L st h = some (v, h') → Q v h' → tf_LW nc C F M I (fun _ => none) rk B Q pc L' st' h
  | 0, _, _, _, _, _, _, _, _, _, _, hx, _ => by cases hx
  | n + 1, pc, L, st, L', st', h, v, h', hL, hS, hx, hq => by
    simp only [tf_yr] at hx
    refine tf_LW_go ?_
    split at hx
    · rename_i hs
      exact tf_yb_ok hc _ _ _ _ _ _ _ _ hL hS hs (fun L2 st2 hL2 hS2 => tf_yr_ok hc n _ _ _ L2 st2 _ v h' hL2 hS2 hx hq)
    · rename_i r hs
      cases hx
      exact tf_yb_ok hc _ _ _ _ _ _ _ _ hL hS hs hq
    · cases hx
def tf_ara : List tf_av → List tf_av
  | [] => []
  | v :: r => if tf_ca v = 2 then v :: .inl tf_z :: tf_ara r else v :: tf_ara r
theorem tf_ara_ok : ∀ {l : List tf_av} {s : List Value}, tf_gl l s → tf_gl (tf_ara l) (tf_ar s)
  | [], s, h => by rw [tf_gl_nil h]; exact trivial
  | a :: r, s, h => by
    obtain ⟨w, u, rfl, h1, h2⟩ := tf_gl_cons h
    have ih := tf_ara_ok h2
    simp only [tf_ara, tf_ar, tf_ca_ok h1]
    split
    · exact ⟨h1, rfl, ih⟩
    · exact ⟨h1, ih⟩
def tf_ena (n : Nat) (As : List tf_av) : List tf_av := tf_ara As ++ List.replicate (n - (tf_ara As).length) (.inl tf_z)
theorem tf_ena_ok {n : Nat} {l : List tf_av} {s : List Value} (h : tf_gl l s) : tf_gl (tf_ena n l) (tf_en n s) := by
  unfold tf_ena tf_en
  rw [tf_gl_len (tf_ara_ok h)]
  exact tf_gl_app (tf_ara_ok h) (tf_gl_rep (tf_gk _) _)
def tf_rca (nc ci maxL : Nat) (As : List tf_av) : Bool := decide ((tf_ara As).length ≤ maxL) && (decide (ci = 99) || match As with
  | .inl (.ref b) :: _ => decide (tf_K b = ci) && decide (b < nc)
  | _ => false)
theorem tf_rca_ok {nc ci maxL : Nat} {As : List tf_av} {s : List Value} (h : tf_rca nc ci maxL As = true) (hg : tf_gl As s) : tf_rc nc ci maxL s := by
  unfold tf_rca at h
  simp only [Bool.and_eq_true, Bool.or_eq_true, decide_eq_true_eq] at h
  refine ⟨by rw [← tf_gl_len (tf_ara_ok hg)]; exact h.1, h.2.imp id (fun q => ?_)⟩
  split at q
  · obtain ⟨t, rfl, -⟩ := tf_glk hg
    simp only [Bool.and_eq_true, decide_eq_true_eq] at q
    exact q
  · cases q
def tf_kn : List tf_av → Option (List Value)
  | [] => some []
  | .inl v :: r => (match tf_kn r with | some s => some (v :: s) | none => none)
  | _ :: _ => none
theorem tf_kn_ok : ∀ {l : List tf_av} {s t : List Value}, tf_kn l = some s → tf_gl l t → t = s
  | [], s, t, h, g => by cases h; exact tf_gl_nil g
  | .inl v :: r, s, t, h, g => by
    obtain ⟨u, rfl, g2⟩ := tf_glk g
    simp only [tf_kn] at h
    split at h
    · rename_i hs
      cases h
      rw [tf_kn_ok hs g2]
    · cases h
  | .inr q :: r, s, t, h, g => by cases h
def tf_ye (nc kn : Nat) (As : List Value) (h : LH) : Option (Value × LH) := match kn - 1000, As with
  | 4, [.ref a, .int sp, .ref b, .int dp, .int n] => if kn = 1004 ∧ (tf_K a = 9 ∧ tf_K b = 9 ∧ a < nc ∧ b < nc ∧ ¬ sp < 0 ∧ ¬ dp < 0 ∧ ¬ n < 0 ∧ sp.toNatClampNeg + n.toNatClampNeg ≤ tf_N a ∧ dp.toNatClampNeg + n.toNatClampNeg ≤ tf_N b) ∧ (List.range n.toNatClampNeg).all (fun i => fits .char (.int (h.1 a (sp.toNatClampNeg + i)))) = true then some (tf_z, (tf_cp h.1 a b sp.toNatClampNeg dp.toNatClampNeg n.toNatClampNeg, h.2)) else none
  | _, _ => tf_xe nc kn As h
set_option maxRecDepth 100000 in
theorem tf_ye_ok {nc kn : Nat} {As : List Value} {h : LH} {v : Value} {h' : LH} (hx : tf_ye nc kn As h = some (v, h')) (Q : tf_Q) (hq : Q v h') : tf_ext nc kn As h Q := by
  unfold tf_ye at hx
  split at hx
  · rename_i hk
    split at hx
    · rename_i hc
      cases hx
      unfold tf_ext
      rw [hk]
      exact ⟨hc.1, ⟨hc.2.1, fun i hi => tf_rng hc.2.2 hi⟩, hq⟩
    · cases hx
  · exact tf_xe_ok hx Q hq
/-- method kn with d levels of calls, run, with ranges -/
def tf_yd (nc fu : Nat) : Nat → Nat → List tf_av → LH → Option (Value × LH)
  | 0, kn, As, h => (match tf_kn As with | some Bs => tf_ye nc kn Bs h | none => none)
  | d + 1, kn, As, h => if kn < 1000 then (if tf_rca nc (tf_mc kn) (tf_ml kn) As = true then tf_yr nc (tf_F (tf_mo kn)) (tf_M (tf_mo kn)) (tf_I (tf_mo kn)) (tf_yd nc fu d) (tf_rkOf (tf_mr kn)) (tf_B kn) fu 0 (tf_ena (tf_ml kn) As) [] h else none) else (match tf_kn As with | some Bs => tf_ye nc kn Bs h | none => none)
set_option maxRecDepth 100000 in
theorem tf_yd_ok {nc fu : Nat} : ∀ (d kn : Nat) (As : List tf_av) (As' : List Value) (h : LH) (v : Value) (h' : LH), tf_yd nc fu d kn As h = some (v, h') → tf_gl As As' → ∀ Q : tf_Q, Q v h' → tf_Cd nc d kn As' h Q
  | 0, kn, As, As', h, v, h', hx, hg, Q, hq => by
    simp only [tf_yd] at hx
    split at hx
    · rename_i hk
      rw [tf_kn_ok hk hg]
      exact tf_ye_ok hx Q hq
    · cases hx
  | d + 1, kn, As, As', h, v, h', hx, hg, Q, hq => by
    simp only [tf_yd] at hx
    simp only [tf_Cd]
    split at hx
    · rename_i hk
      rw [if_pos hk]
      split at hx
      · rename_i hrc
        exact ⟨tf_rca_ok hrc hg, tf_yr_ok (tf_yd_ok d) _ _ _ [] _ [] _ v h' (tf_ena_ok hg) trivial hx hq⟩
      · cases hx
    · rename_i hk
      rw [if_neg hk]
      split at hx
      · rename_i hk
        rw [tf_kn_ok hk hg]
        exact tf_ye_ok hx Q hq
      · cases hx

