/-! ===== blocks, loops, methods of the light machine ===== -/
def tf_wp (nc : Nat) (C : tf_C) (F : Nat → Option (Nat × Nat)) (M : Nat → Option (Nat × Nat × Bool)) (I : Nat → Option Value) (E : tf_Hk) (rk : Nat) (Q : tf_Q) (X : tf_X) : Nat → List (Instr × Nat) → List Value → List Value → LH → Prop
  | pc, [], L, st, h => X pc L st h
  | pc, (i, n) :: r, L, st, h => match E pc with
    | some f => f L st h (fun L st h => tf_wp nc C F M I E rk Q X (pc + n) r L st h) X
    | none => tf_st nc C F M I rk Q X pc i L st h (fun L st h => tf_wp nc C F M I E rk Q X (pc + n) r L st h)
abbrev tf_Bk : Type := List (Nat × List (Instr × Nat))
def tf_at (B : tf_Bk) (pc : Nat) : List (Instr × Nat) := (B.lookup pc).getD []
/-- the least that holds along the blocks -/
def tf_LW (nc : Nat) (C : tf_C) (F : Nat → Option (Nat × Nat)) (M : Nat → Option (Nat × Nat × Bool)) (I : Nat → Option Value) (E : tf_Hk) (rk : Nat) (B : tf_Bk) (Q : tf_Q) : tf_X := fun pc L st h =>
  ∀ X : tf_X, (∀ (Y : tf_X) (pc : Nat) (L st : List Value) (h : LH), (∀ pc L st h, Y pc L st h → X pc L st h) → tf_wp nc C F M I E rk Q Y pc (tf_at B pc) L st h → X pc L st h) → X pc L st h
theorem tf_LW_go {nc : Nat} {C : tf_C} {F : Nat → Option (Nat × Nat)} {M : Nat → Option (Nat × Nat × Bool)} {I : Nat → Option Value} {E : tf_Hk} {rk : Nat} {B : tf_Bk} {Q : tf_Q} {pc : Nat} {L st : List Value} {h : LH} (hw : tf_wp nc C F M I E rk Q (tf_LW nc C F M I E rk B Q) pc (tf_at B pc) L st h) : tf_LW nc C F M I E rk B Q pc L st h :=
  fun X hX => hX (tf_LW nc C F M I E rk B Q) pc L st h (fun _ _ _ _ q => q X hX) hw
def tf_bck (cc : ByteArray) (nL : Nat) : Nat → List (Instr × Nat) → Bool
  | _, [] => true
  | pc, (i, n) :: r => decide (decode cc pc = .ok (i, n)) && tf_ck nL pc i n && tf_bck cc nL (pc + n) r
def tf_Bck (cc : ByteArray) (nL : Nat) (B : tf_Bk) : Bool := B.all (fun q => tf_bck cc nL q.1 q.2)
theorem tf_at_ck {cc : ByteArray} {nL : Nat} : ∀ {B : tf_Bk} (_ : tf_Bck cc nL B = true) (pc : Nat), tf_bck cc nL pc (tf_at B pc) = true
  | [], _, pc => rfl
  | (q, b) :: r, h, pc => by
    simp only [tf_Bck, List.all_cons, Bool.and_eq_true] at h
    unfold tf_at
    by_cases hq : pc = q
    · subst hq
      simp [List.lookup, h.1]
    · have h2 := tf_at_ck (B := r) (cc := cc) (nL := nL) h.2 pc
      unfold tf_at at h2
      have hb : (pc == q) = false := by simpa using hq
      simp only [List.lookup, hb]
      exact h2
section TFW
variable {p : Program} {l : Launch} {e : Env} {R : Room} {s : State} {m : MethodId} {args : Array Value} {below : List Frame} {meth : Method} {c : Code} {cells slots : Nat} {QW : State → Prop}
variable {cc : ByteArray} {D : va_G} {cA : Nat → ClassId} {ad : Nat → Nat} {A : Nat → Prop} {nc nL : Nat} {own : String} {Ts : List Jvm.Cond}
variable {C : tf_C} {F : Nat → Option (Nat × Nat)} {M : Nat → Option (Nat × Nat × Bool)} {I : Nat → Option Value} {E : tf_Hk} {rk : Nat} {Q : tf_Q} {B : tf_Bk}
set_option maxHeartbeats 1000000 in
theorem tf_LW_ok (hx : p.tables.exec = Jvm.exec) (hb : c.code = cc) (hown : s.vm.findClass own = some m.cls) (hts : ∀ w ∈ Ts, w.before args s = true) (hK : va_K D vwCl (tf_ty cA) s) (hj : tf_inj ad nc) (hA : ∀ d, d < nc → A (ad d))
    (hF : tf_Fok own F Ts) (hI : ∀ j v, I j = some (.int v) → (Jvm.Cond.constant own j v).before args s = true) (hJ : ∀ j v, I j = some (.long v) → (Jvm.Cond.constantLong own j v).before args s = true)
    (hC : ∀ (pc : Nat) (i : Instr) (j j2 kn na : Nat) (vd : Bool) (L st : List Value) (h : LH) (K : tf_Q), j < 100000 → ((i = .invokevirtual j ∧ j2 = j) ∨ (i = .invokestatic j ∧ j2 = j + 100000)) → decode cc pc = .ok (i, 3) → M j2 = some (kn, na, vd) → na ≤ st.length → ((st.drop na).map Value.category).sum ≤ 8 → C kn (st.take na).reverse h K → (∀ r h, K r h → tf_At (fun H locs g => W p l e R s m args below meth c H locs cells slots QW g) m s.heap D cA ad A nc nL (pc + 3) L (if vd = true then st.drop na else r :: st.drop na) h) → tf_At (fun H locs g => W p l e R s m args below meth c H locs cells slots QW g) m s.heap D cA ad A nc nL pc L st h)
    (hE : ∀ (pc n : Nat) (i : Instr) (f : List Value → List Value → LH → tf_Kt → tf_X → Prop) (L st : List Value) (h : LH) (k : tf_Kt) (X : tf_X), E pc = some f → decode cc pc = .ok (i, n) → f L st h k X → (∀ L st h, k L st h → tf_At (fun H locs g => W p l e R s m args below meth c H locs cells slots QW g) m s.heap D cA ad A nc nL (pc + n) L st h) → (∀ pc L st h, X pc L st h → tf_At (fun H locs g => W p l e R s m args below meth c H locs cells slots QW g) m s.heap D cA ad A nc nL pc L st h) → tf_At (fun H locs g => W p l e R s m args below meth c H locs cells slots QW g) m s.heap D cA ad A nc nL pc L st h)
    (hR1 : ∀ (v : Int32) (h : LH) (pc : Nat) (L : List Value), decode cc pc = .ok (.ireturn, 1) → (tf_rb rk v ∧ Q (.int v) h) → tf_At (fun H locs g => W p l e R s m args below meth c H locs cells slots QW g) m s.heap D cA ad A nc nL pc L [.int v] h)
    (hR0 : ∀ (h : LH) (pc : Nat) (L : List Value), decode cc pc = .ok (.return_, 1) → (rk = 0 ∧ Q tf_z h) → tf_At (fun H locs g => W p l e R s m args below meth c H locs cells slots QW g) m s.heap D cA ad A nc nL pc L [] h)
    (hRa : ∀ (v : Value) (h : LH) (pc : Nat) (L : List Value), decode cc pc = .ok (.areturn, 1) → (v = .null ∨ ∃ a, v = .ref a) → (rk = 3 ∧ Q v h) → tf_At (fun H locs g => W p l e R s m args below meth c H locs cells slots QW g) m s.heap D cA ad A nc nL pc L [v] h)
    (hB : tf_Bck cc nL B = true) {pc : Nat} {L st : List Value} {h : LH} (hw : tf_LW nc C F M I E rk B Q pc L st h) : tf_At (fun H locs g => W p l e R s m args below meth c H locs cells slots QW g) m s.heap D cA ad A nc nL pc L st h := by
  refine hw (fun pc L st h => tf_At (fun H locs g => W p l e R s m args below meth c H locs cells slots QW g) m s.heap D cA ad A nc nL pc L st h) ?_
  intro Y pc L st h hY
  have key : ∀ (b : List (Instr × Nat)) (pc : Nat) (L st : List Value) (h : LH), tf_bck cc nL pc b = true → tf_wp nc C F M I E rk Q Y pc b L st h → tf_At (fun H locs g => W p l e R s m args below meth c H locs cells slots QW g) m s.heap D cA ad A nc nL pc L st h := by
    intro b
    induction b with
    | nil =>
      intro pc L st h _ hq
      exact hY _ _ _ _ hq
    | cons a r ih =>
      obtain ⟨i, n⟩ := a
      intro pc L st h hb2 hq
      simp only [tf_bck, Bool.and_eq_true, decide_eq_true_eq] at hb2
      obtain ⟨⟨hd, hck⟩, hr⟩ := hb2
      rw [tf_wp] at hq
      cases hEp : E pc with
      | some f =>
        rw [hEp] at hq
        exact hE pc n i f L st h _ Y hEp hd hq (fun L st h hk => ih (pc + n) L st h hr hk) hY
      | none =>
        rw [hEp] at hq
        exact tf_st_ok hx hb hown hts hK hj hA hF hI hJ hC hR1 hR0 hRa hd hck hq (fun L st h hk => ih (pc + n) L st h hr hk) hY
  exact key _ _ _ _ _ (tf_at_ck hB pc)
end TFW
/-! what lies outside the world and stands still: the links to a nest mate's private methods, the statics (tf_SY) -/
/-- the words of texts: their names, how many numbers follow, their letters -/
def tv_nm : List String := ["POINTS", "ARC", "GAIN", "SUPPLY", "WANT", "BLOCK", "TAKE_FIRST", "TAKE_STEEP", "TAKE_ROUND", "PIVOT", "SHIFT", "OPEN", "WIDEN", "CHARGE", "COLD"]
def tv_g : List Int32 := [1, 4, 4, 2, 2, 1, 0, 0, 0, -1, -1, -1, -1, -1, -1]
def tv_o : List Int32 := [-1, -1, 2, -1, -1, 1, 0, 0, 0, 1, 3, 1, 2, 2, 0]
def tv_ord : List Int32 := [0, 1, 2, 3, 4, 5, 6, 7, 8, 9, 10, 11, 12, 13, 14]
def tv_F : List (String × String × String × List Int32) := [("java/lang/Enum", "ordinal", "I", tv_ord), ("TreeFlows$Verb", "inGrid", "I", tv_g), ("TreeFlows$Verb", "inOrders", "I", tv_o)]
def tv_sm : List Int32 := [1, 2, 3, 4, 5, 6, 12, 13, 14, 7, 8, 9, 10, 11, 15]
def tv_len : List Nat := [6, 3, 4, 6, 4, 5, 5, 5, 5, 5, 5, 4, 5, 6, 4]
def tv_byt : List (List Int32) := [[112, 111, 105, 110, 116, 115], [97, 114, 99], [103, 97, 105, 110], [115, 117, 112, 112, 108, 121], [119, 97, 110, 116], [98, 108, 111, 99, 107], [102, 105, 114, 115, 116], [115, 116, 101, 101, 112], [114, 111, 117, 110, 100], [112, 105, 118, 111, 116], [115, 104, 105, 102, 116], [111, 112, 101, 110], [119, 105, 100, 101, 110], [99, 104, 97, 114, 103, 101], [99, 111, 108, 100]]
/-- the words as Strings (430 ..), their letters (450 ..) -/
def tv_S (ad : Nat → Nat) (A : Nat → Prop) (U : State) (H : Heap) : Prop := vk_S 15 tv_len tv_byt (fun i => ad (430 + i)) (fun i => ad (450 + i)) A U H ∧ va_Z "java/lang/String" "COMPACT_STRINGS" "Z" (.int 1) A U H ∧ va_Zq "jdk/internal/util/Preconditions" "SIOOBE_FORMATTER" "Ljava/util/function/BiFunction;" A U H
/-- the verbs (400 ..), their row (420), the switch's row (421) -/
def tv_V (ad : Nat → Nat) (A : Nat → Prop) (U : State) (H : Heap) : Prop := va_En "TreeFlows$Verb" "LTreeFlows$Verb;" tv_nm tv_F (fun i => ad (400 + i)) A U H ∧ va_Ef 15 "TreeFlows$Verb" "word" "Ljava/lang/String;" (fun i => .ref (ad (430 + i))) (fun i => ad (400 + i)) A U H ∧ (va_Z "TreeFlows$Verb" "ALL" "[LTreeFlows$Verb;" (.ref (ad 420)) A U H ∧ va_T (.object "TreeFlows$Verb") (ad 420) 15 (fun i => .ref (ad (400 + i))) A U H) ∧ va_Z "TreeFlows$1" "$SwitchMap$TreeFlows$Verb" "[I" (.ref (ad 421)) A U H ∧ va_T .int (ad 421) 15 (fun i => .int (tv_sm.getD i 0)) A U H
def tv_K (ad : Nat → Nat) (A : Nat → Prop) (U : State) (H : Heap) : Prop := tv_V ad A U H ∧ tv_S ad A U H
theorem tv_S.moved {ad : Nat → Nat} {A : Nat → Prop} {u U : State} {H : Heap} (hvm : u.vm.Alike U.vm) (h : tv_S ad A u H) : tv_S ad A U H := ⟨vk_S.moved hvm h.1, va_Z.moved hvm h.2.1, va_Zq.moved hvm h.2.2⟩
theorem tv_S.kept {ad : Nat → Nat} {A : Nat → Prop} {U : State} {H H1 : Heap} (h : tv_S ad A U H) (hq : ∀ a : Nat, a < H.size → ¬ A a → H1[a]? = H[a]?) : tv_S ad A U H1 := ⟨h.1.kept hq, h.2.1.kept hq, h.2.2.kept hq⟩
theorem tv_S.narrow {ad : Nat → Nat} {A B : Nat → Prop} {U : State} {H : Heap} (h : tv_S ad A U H) (hAB : ∀ q, B q → A q) : tv_S ad B U H := ⟨h.1.narrow hAB, h.2.1.narrow hAB, h.2.2.narrow hAB⟩
theorem tv_V.moved {ad : Nat → Nat} {A : Nat → Prop} {u U : State} {H : Heap} (hvm : u.vm.Alike U.vm) (h : tv_V ad A u H) : tv_V ad A U H := ⟨va_En.moved hvm h.1, va_Ef.moved hvm h.2.1, ⟨va_Z.moved hvm h.2.2.1.1, va_T.moved hvm h.2.2.1.2⟩, va_Z.moved hvm h.2.2.2.1, va_T.moved hvm h.2.2.2.2⟩
theorem tv_V.kept {ad : Nat → Nat} {A : Nat → Prop} {U : State} {H H1 : Heap} (h : tv_V ad A U H) (hq : ∀ a : Nat, a < H.size → ¬ A a → H1[a]? = H[a]?) : tv_V ad A U H1 := ⟨h.1.kept hq, h.2.1.kept hq, ⟨h.2.2.1.1.kept hq, h.2.2.1.2.kept hq⟩, h.2.2.2.1.kept hq, h.2.2.2.2.kept hq⟩
theorem tv_V.narrow {ad : Nat → Nat} {A B : Nat → Prop} {U : State} {H : Heap} (h : tv_V ad A U H) (hAB : ∀ q, B q → A q) : tv_V ad B U H := ⟨h.1.narrow hAB, h.2.1.narrow hAB, ⟨h.2.2.1.1.narrow hAB, h.2.2.1.2.narrow hAB⟩, h.2.2.2.1.narrow hAB, h.2.2.2.2.narrow hAB⟩
/-- once the law runs (all its cells are there), the verbs and the words stand as told -/
def tf_SY (nc : Nat) (ad : Nat → Nat) (A : Nat → Prop) (U : State) (H : Heap) : Prop := nc = 298 → tv_K ad A U H
def tf_w1 : Jvm.Cond := .methodLinkNest RX1 73 yX8_isRule RX8
def tf_w2 : Jvm.Cond := .methodLinkNest RX3 106 yX8_toldEdge RX8
def tf_w3 : Jvm.Cond := .methodLinkNest RX5 40 yX8_toldEdge RX8
def tf_w4 : Jvm.Cond := .fieldLinkNest RX4 85 "TreeFlows$Verb" "ALL" "[LTreeFlows$Verb;" RX8
def tf_SX (nc : Nat) (ad : Nat → Nat) (A : Nat → Prop) (U : State) (H : Heap) : Prop := (va_Nw tf_w1 U ∧ va_Nw tf_w2 U ∧ va_Nw tf_w3 U) ∧ (nc = 298 → va_Nw tf_w4 U) ∧ tf_SY nc ad A U H
theorem tf_SY.moved {nc : Nat} {ad : Nat → Nat} {A : Nat → Prop} {u U : State} {H : Heap} (hvm : u.vm.Alike U.vm) (h : tf_SY nc ad A u H) : tf_SY nc ad A U H := fun z => ⟨tv_V.moved hvm (h z).1, tv_S.moved hvm (h z).2⟩
theorem tf_SY.kept {nc : Nat} {ad : Nat → Nat} {A : Nat → Prop} {U : State} {H H1 : Heap} (h : tf_SY nc ad A U H) (hq : ∀ a : Nat, a < H.size → ¬ A a → H1[a]? = H[a]?) : tf_SY nc ad A U H1 := fun z => ⟨(h z).1.kept hq, (h z).2.kept hq⟩
theorem tf_SY.narrow {nc : Nat} {ad : Nat → Nat} {A B : Nat → Prop} {U : State} {H : Heap} (h : tf_SY nc ad A U H) (hAB : ∀ q, B q → A q) : tf_SY nc ad B U H := fun z => ⟨(h z).1.narrow hAB, (h z).2.narrow hAB⟩
theorem tf_SX.warm {nc : Nat} {ad : Nat → Nat} {A : Nat → Prop} {u U : State} {H : Heap} (hW : u.WarmedH U.vm) (h : tf_SX nc ad A u H) : tf_SX nc ad A U H := ⟨⟨h.1.1.warmM hW, h.1.2.1.warmM hW, h.1.2.2.warmM hW⟩, fun z => (h.2.1 z).warmF hW, h.2.2.moved hW.alike⟩
theorem tf_SX.same {nc : Nat} {ad : Nat → Nat} {A : Nat → Prop} {u U : State} {H : Heap} (hv : u.vm = U.vm) (h : tf_SX nc ad A u H) : tf_SX nc ad A U H := ⟨⟨h.1.1.same rfl hv, h.1.2.1.same rfl hv, h.1.2.2.same rfl hv⟩, fun z => (h.2.1 z).same rfl hv, h.2.2.moved (by rw [hv]; exact Vm.Alike.refl _)⟩
theorem tf_SX.kept {nc : Nat} {ad : Nat → Nat} {A : Nat → Prop} {U : State} {H H1 : Heap} (h : tf_SX nc ad A U H) (hq : ∀ a : Nat, a < H.size → ¬ A a → H1[a]? = H[a]?) : tf_SX nc ad A U H1 := ⟨h.1, h.2.1, h.2.2.kept hq⟩
theorem tf_SX.narrow {nc : Nat} {ad : Nat → Nat} {A B : Nat → Prop} {U : State} {H : Heap} (h : tf_SX nc ad A U H) (hAB : ∀ q, B q → A q) : tf_SX nc ad B U H := ⟨h.1, h.2.1, h.2.2.narrow hAB⟩
/-! ===== contracts ===== -/
def tf_rm (d : Nat) : Room := { frames := d, cells := 0, slots := 0, locals := 32 * d }
/-- the world at a call -/
def tf_Pc (D : va_G) (cA : Nat → ClassId) (ad : Nat → Nat) (nc : Nat) (As : List Value) (h : LH) (sz : Nat) : Array Value → State → Prop := va_Pc (As.map (tf_tr ad)) (fun U => U.heap.size = sz ∧ va_P D vwCl (tf_ws cA ad nc h) U.heap ∧ va_K D vwCl (tf_ty cA) U ∧ tf_SX nc ad (va_A (tf_ws cA ad nc h) sz) U U.heap)
def tf_out (ad : Nat → Nat) (ret : Option FieldType) (v : Value) : Option Value := match ret with
  | none => none
  | some _ => some (tf_tr ad v)
/-- the world behind it: an answer and a table for which Q holds -/
def tf_Qc (D : va_G) (cA : Nat → ClassId) (ad : Nat → Nat) (nc : Nat) (ret : Option FieldType) (Q : tf_Q) (A : Nat → Prop) : Array Value → State → Outcome → State → Prop := fun _ st oc t => (∃ (v : Value) (h : LH), oc = .returned (tf_out ad ret v) ∧ Q v h ∧ va_P D vwCl (tf_ws cA ad nc h) t.heap) ∧ va_F A st t
/-- a method's contract: whatever the light machine's spec Cs promises -/
def tf_Met (l : Launch) (D : va_G) (cA : Nat → ClassId) (ad : Nat → Nat) (nc : Nat) (y : MethodName) (ws : List Jvm.Cond) (rm : Room) (ret : Option FieldType) (Cs : List Value → LH → tf_Q → Prop) : Prop :=
  ∀ (As : List Value) (h : LH) (Q : tf_Q) (sz : Nat), Cs As h Q → Met l y ws rm (tf_Pc D cA ad nc As h sz) (tf_Qc D cA ad nc ret Q (va_A (tf_ws cA ad nc h) sz)) 0 0 (va_A (tf_ws cA ad nc h) sz)
def tf_rkOf (ret : Option FieldType) : Nat := match ret with
  | none => 0
  | some .int => 1
  | some .boolean => 2
  | some (.object _) => 3
  | some _ => 4
theorem tf_nar_b {v : Int32} (h : vp_nar .boolean v = v) : narrow .boolean (.int v) = .int v := by
  have : narrow .boolean (.int v) = .int (vp_nar .boolean v) := by simp [vp_nar, narrow]
  rw [this, h]
/-- who is called: an object of the class, its arguments fit the locals -/
def tf_rc (nc ci maxL : Nat) (As : List Value) : Prop := (tf_ar As).length ≤ maxL ∧ (ci = 99 ∨ match As with
  | .ref b :: _ => tf_K b = ci ∧ b < nc
  | _ => False)
