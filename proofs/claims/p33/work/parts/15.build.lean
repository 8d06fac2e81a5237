/-! ===== THE BUILDER: constructors, run on a heap that grows; all is concrete there ===== -/
abbrev BH : Type := List (Nat × Nat × List Value)
def tg_rf (ad : Nat → Nat) (v : Value) : Option Nat := match v with
  | .ref c => some (ad c)
  | _ => none
def tg_E (cA : Nat → ClassId) (ad : Nat → Nat) (b : Nat × Nat × List Value) : va_E :=
  if b.1 < 8 then .inr (b.1, b.2.2.map (tf_tr ad))
  else if b.1 < 12 then .inl (cA b.1, b.2.1, .inl (fun _ => 0))
  else if b.1 = 12 then .inl (cA 12, b.2.1, .inr (.inl (fun _ => 0)))
  else .inl (cA b.1, b.2.1, .inr (.inr (.inr (.inr (fun i => tg_rf ad (b.2.2.getD i .null))))))
def tg_ws (cA : Nat → ClassId) (ad : Nat → Nat) (bh : BH) : va_W := (List.range bh.length).map (fun i => (ad i, tg_E cA ad (bh.getD i (0, 0, []))))
def tg_sl (bh : BH) : Nat := (bh.map (fun b => b.2.1)).sum
def tg_vok (n : Nat) (v : Value) : Bool := match v with
  | .ref c => decide (c < n)
  | _ => true
def tg_wf (bh : BH) : Bool := bh.all (fun b => b.2.2.all (tg_vok bh.length))
/-- a fresh object of a class -/
def tg_new (ci : Nat) : List Value := (tf_Sl.getD ci []).map (fun k => if k = 0 then .int 0 else if k = 1 then .long 0 else .null)
theorem tg_get {cA : Nat → ClassId} {ad : Nat → Nat} {bh : BH} {i : Nat} {b : Nat × Nat × List Value} (h : bh[i]? = some b) (wx : va_W) : (wx ++ tg_ws cA ad bh)[wx.length + i]? = some (ad i, tg_E cA ad b) := by
  have hl := (List.getElem?_eq_some_iff.mp h).1
  rw [List.getElem?_append_right (Nat.le_add_right _ _), Nat.add_sub_cancel_left]
  have he := (List.getElem?_eq_some_iff.mp h).2
  simp [tg_ws, hl, List.getD_eq_getElem?_getD, he]
theorem tg_ext {cA : Nat → ClassId} {ad ad' : Nat → Nat} {n : Nat} {b : Nat × Nat × List Value} (hw : b.2.2.all (tg_vok n) = true) (ha : ∀ i, i < n → ad' i = ad i) : tg_E cA ad' b = tg_E cA ad b := by
  have e1 : ∀ v ∈ b.2.2, tf_tr ad' v = tf_tr ad v := by
    intro v hv
    have := List.all_eq_true.mp hw v hv
    cases v <;> simp [tg_vok] at this <;> simp [tf_tr]
    exact ha _ this
  have e2 : ∀ i, tg_rf ad' (b.2.2.getD i .null) = tg_rf ad (b.2.2.getD i .null) := by
    intro i
    rw [List.getD_eq_getElem?_getD]
    cases hb : b.2.2[i]? with
    | none => rfl
    | some v =>
      have := List.all_eq_true.mp hw v (List.mem_of_getElem? hb)
      cases v <;> simp [tg_vok] at this <;> simp [tg_rf]
      exact ha _ this
  unfold tg_E
  rw [List.map_congr_left e1]
  simp only [e2]
/-- one cell more, at a new address -/
theorem tg_push {cA : Nat → ClassId} {ad : Nat → Nat} {bh : BH} {q : Nat} {b : Nat × Nat × List Value} (hw : tg_wf bh = true) (hb : b.2.2.all (tg_vok bh.length) = true) (wx : va_W) : (wx ++ tg_ws cA ad bh) ++ [(q, tg_E cA ad b)] = wx ++ tg_ws cA (va_up ad bh.length q) (bh ++ [b]) := by
  have hup : ∀ i, i < bh.length → va_up ad bh.length q i = ad i := fun i hi => by simp [va_up, Nat.ne_of_lt hi]
  rw [List.append_assoc]
  congr 1
  unfold tg_ws
  rw [List.length_append, List.length_singleton, List.range_succ, List.map_append, List.map_singleton]
  congr 1
  · refine List.map_congr_left fun i hi => ?_
    have hi := List.mem_range.mp hi
    rw [hup i hi, List.getD_eq_getElem?_getD, List.getD_eq_getElem?_getD, List.getElem?_append_left hi, List.getElem?_eq_getElem hi]
    simp only [Option.getD_some]
    have hwi := List.all_eq_true.mp hw _ (List.getElem_mem hi)
    rw [tg_ext hwi hup]
  · rw [show va_up ad bh.length q bh.length = q by simp [va_up], List.getD_eq_getElem?_getD, List.getElem?_append_right (Nat.le_refl _), Nat.sub_self]
    simp only [List.getElem?_cons_zero, Option.getD_some]
    rw [tg_ext hb hup]
theorem tg_set {cA : Nat → ClassId} {ad : Nat → Nat} {bh : BH} {i : Nat} {b b' : Nat × Nat × List Value} {e : va_E} (h : bh[i]? = some b) (he : e = tg_E cA ad b') (wx : va_W) : (wx ++ tg_ws cA ad bh).set (wx.length + i) (ad i, e) = wx ++ tg_ws cA ad (bh.set i b') := by
  have hl := (List.getElem?_eq_some_iff.mp h).1
  rw [List.set_append_right _ _ (Nat.le_add_right _ _), Nat.add_sub_cancel_left]
  congr 1
  refine List.ext_getElem? fun j => ?_
  by_cases hj : j < bh.length
  · by_cases hji : j = i
    · subst hji
      rw [List.getElem?_set_self (by simpa [tg_ws] using hj)]
      simp [tg_ws, hj, List.getD_eq_getElem?_getD, he]
    · rw [List.getElem?_set_ne (Ne.symm hji)]
      simp [tg_ws, hj, List.getD_eq_getElem?_getD, List.getElem_set_ne (Ne.symm hji)]
  · rw [List.getElem?_eq_none (by simpa [tg_ws] using hj), List.getElem?_eq_none (by simpa [tg_ws] using hj)]
/-- one instruction -/
def tg_step (oc : Nat) (F : Nat → Option (Nat × Nat)) (N N2 : Nat → Option Nat) (K : Nat → Option Nat) (sub : Nat → BH → Nat → Option BH) (pc : Nat) (i : Instr) (ln : Nat) (L st : List Value) (bh : BH) : Option (Nat × List Value × List Value × BH) := match i with
  | .aload_n k => (match L[(k : Nat)]? with | some (.ref c) => if ln = 1 then some (pc + 1, L, .ref c :: st, bh) else none | _ => none)
  | .iload_n k => (match L[(k : Nat)]? with | some (.int c) => if ln = 1 then some (pc + 1, L, .int c :: st, bh) else none | _ => none)
  | .iconst v => if ln = 1 then some (pc + 1, L, .int (Int32.ofInt v) :: st, bh) else none
  | .bipush v => if ln = 2 then some (pc + 2, L, .int (Int8.ofInt v).toInt32 :: st, bh) else none
  | .sipush v => if ln = 3 then some (pc + 3, L, .int (Int16.ofInt v).toInt32 :: st, bh) else none
  | .istore_n k => (match st with | .int x :: st => if ln = 1 ∧ (k : Nat) < L.length then some (pc + 1, tf_s1 L (k : Nat) (.int x), st, bh) else none | _ => none)
  | .iinc k v => (match L[k]? with | some (.int x) => if ln = 3 ∧ k < L.length then some (pc + 3, tf_s1 L k (.int (x + Int32.ofInt v)), st, bh) else none | _ => none)
  | .dup => (match st with | .ref x :: st => if ln = 1 then some (pc + 1, L, .ref x :: .ref x :: st, bh) else none | _ => none)
  | .goto o => if ln = 3 ∧ 0 ≤ (pc : Int) + o then some (tf_t pc o, L, st, bh) else none
  | .if_icmp c o => (match c, st with | .ge, .int y :: .int x :: st => if ln = 3 ∧ 0 ≤ (pc : Int) + o then (if y ≤ x then some (tf_t pc o, L, st, bh) else some (pc + 3, L, st, bh)) else none | _, _ => none)
  | .newarray t => (match t, st with
    | .int, .int k :: st => if ln = 2 ∧ ¬ k < 0 ∧ k.toNatClampNeg ≤ 60000 then some (pc + 2, L, .ref bh.length :: st, bh ++ [(8, k.toNatClampNeg, [])]) else none
    | .char, .int k :: st => if ln = 2 ∧ ¬ k < 0 ∧ k.toNatClampNeg ≤ 60000 then some (pc + 2, L, .ref bh.length :: st, bh ++ [(9, k.toNatClampNeg, [])]) else none
    | .byte, .int k :: st => if ln = 2 ∧ ¬ k < 0 ∧ k.toNatClampNeg ≤ 60000 then some (pc + 2, L, .ref bh.length :: st, bh ++ [(10, k.toNatClampNeg, [])]) else none
    | .boolean, .int k :: st => if ln = 2 ∧ ¬ k < 0 ∧ k.toNatClampNeg ≤ 60000 then some (pc + 2, L, .ref bh.length :: st, bh ++ [(11, k.toNatClampNeg, [])]) else none
    | .long, .int k :: st => if ln = 2 ∧ ¬ k < 0 ∧ k.toNatClampNeg ≤ 60000 then some (pc + 2, L, .ref bh.length :: st, bh ++ [(12, k.toNatClampNeg, [])]) else none
    | _, _ => none)
  | .anewarray j => (match N2 j, st with | some ci, .int k :: st => if ln = 3 ∧ ¬ k < 0 ∧ k.toNatClampNeg ≤ 60000 ∧ ci < 3 then some (pc + 3, L, .ref bh.length :: st, bh ++ [(13 + ci, k.toNatClampNeg, List.replicate k.toNatClampNeg .null)]) else none | _, _ => none)
  | .new j => (match N j with | some ci => if ln = 3 then some (pc + 3, L, .ref bh.length :: st, bh ++ [(ci, tf_Wl ci, tg_new ci)]) else none | none => none)
  | .putfield j => (match F j, st with
    | some (ci, q), .int v :: .ref x :: st => (match bh[x]? with | some (kd, ln2, vals) => if ln = 3 ∧ kd = ci ∧ q < vals.length ∧ tf_S ci q = 0 then some (pc + 3, L, st, bh.set x (kd, ln2, vals.set q (.int v))) else none | none => none)
    | some (ci, q), .ref v :: .ref x :: st => (match bh[x]? with | some (kd, ln2, vals) => if ln = 3 ∧ kd = ci ∧ ci = oc ∧ q < vals.length ∧ tf_S ci q = 2 then some (pc + 3, L, st, bh.set x (kd, ln2, vals.set q (.ref v))) else none | none => none)
    | _, _ => none)
  | .getfield j => (match F j, st with
    | some (ci, q), .ref x :: st => (match bh[x]? with | some (kd, _, vals) => (match vals[q]? with | some (.ref c) => if ln = 3 ∧ kd = ci then some (pc + 3, L, .ref c :: st, bh) else none | _ => none) | none => none)
    | _, _ => none)
  | .aastore => (match st with
    | .ref v :: .int i :: .ref x :: st => (match bh[x]?, bh[v]? with
      | some (kd, len, vals), some (ci, _, _) => if ln = 1 ∧ ci < 2 ∧ kd = 13 + ci ∧ len = vals.length ∧ ¬ i < 0 ∧ i.toNatClampNeg < len then some (pc + 1, L, st, bh.set x (kd, len, vals.set i.toNatClampNeg (.ref v))) else none
      | _, _ => none)
    | _ => none)
  | .invokespecial j => (match K j, st with
    | some 0, .ref x :: st => if ln = 3 ∧ (st.map Value.category).sum ≤ 8 then some (pc + 3, L, st, bh) else none
    | some (k + 1), .ref x :: st => (match sub k bh x with | some bh2 => if ln = 3 ∧ (st.map Value.category).sum ≤ 8 then some (pc + 3, L, st, bh2) else none | none => none)
    | _, _ => none)
  | _ => none
/-- the run: instruction by instruction, until the place 'stop' is reached -/
def tg_run (oc : Nat) (F : Nat → Option (Nat × Nat)) (N N2 : Nat → Option Nat) (K : Nat → Option Nat) (sub : Nat → BH → Nat → Option BH) (code : List (Nat × Instr × Nat)) (stop : Nat) : Nat → Nat → List Value → List Value → BH → Option (List Value × BH)
  | 0, _, _, _, _ => none
  | n + 1, pc, L, st, bh => if pc = stop then (match st with | [] => some (L, bh) | _ => none) else match code.lookup pc with
    | none => none
    | some (i, ln) => match tg_step oc F N N2 K sub pc i ln L st bh with
      | none => none
      | some (pc', L', st', bh') => tg_run oc F N N2 K sub code stop n pc' L' st' bh'
theorem tg_tr {ad ad' : Nat → Nat} {n : Nat} {v : Value} (hv : tg_vok n v = true) (ha : ∀ i, i < n → ad' i = ad i) : tf_tr ad' v = tf_tr ad v := by
  cases v <;> simp [tg_vok] at hv <;> simp [tf_tr]
  exact ha _ hv
theorem tg_trs {ad ad' : Nat → Nat} {n : Nat} {l : List Value} (hv : l.all (tg_vok n) = true) (ha : ∀ i, i < n → ad' i = ad i) : l.map (tf_tr ad') = l.map (tf_tr ad) := List.map_congr_left fun v h => tg_tr (List.all_eq_true.mp hv v h) ha
theorem tg_rel {ad ad' : Nat → Nat} {n nL : Nat} {ls : Array Slot} {L : List Value} (hv : L.all (tg_vok n) = true) (ha : ∀ i, i < n → ad' i = ad i) (h : tf_rel ad ls nL L) : tf_rel ad' ls nL L := ⟨h.1, h.2.1, h.2.2.1, fun i v hi hz => by rw [tg_tr (List.all_eq_true.mp hv v (List.mem_of_getElem? hi)) ha]; exact h.2.2.2 i v hi hz⟩
theorem tg_vok_mono {n n' : Nat} {v : Value} (h : tg_vok n v = true) (hn : n ≤ n') : tg_vok n' v = true := by
  cases v with
  | ref c =>
    simp only [tg_vok, decide_eq_true_eq] at h ⊢
    exact Nat.lt_of_lt_of_le h hn
  | _ => rfl
theorem tg_all_mono {n n' : Nat} {l : List Value} (h : l.all (tg_vok n) = true) (hn : n ≤ n') : l.all (tg_vok n') = true := List.all_eq_true.mpr fun v hv => tg_vok_mono (List.all_eq_true.mp h v hv) hn
theorem tg_wf_push {bh : BH} {b : Nat × Nat × List Value} (h : tg_wf bh = true) (hb : b.2.2.all (tg_vok bh.length) = true) : tg_wf (bh ++ [b]) = true := by
  unfold tg_wf at *
  rw [List.all_append, List.length_append]
  simp only [Bool.and_eq_true, List.all_cons, List.all_nil, Bool.and_true]
  exact ⟨List.all_eq_true.mpr fun c hc => tg_all_mono (List.all_eq_true.mp h c hc) (by simp), tg_all_mono hb (by simp)⟩
theorem tg_wf_set {bh : BH} {x : Nat} {b : Nat × Nat × List Value} (h : tg_wf bh = true) (hb : b.2.2.all (tg_vok bh.length) = true) : tg_wf (bh.set x b) = true := by
  unfold tg_wf at *
  rw [List.length_set]
  refine List.all_eq_true.mpr fun c hc => ?_
  rcases List.mem_or_eq_of_mem_set hc with hc | rfl
  · exact List.all_eq_true.mp h c hc
  · exact hb
theorem tg_sl_push (bh : BH) (b : Nat × Nat × List Value) : tg_sl (bh ++ [b]) = tg_sl bh + b.2.1 := by simp [tg_sl]
theorem tg_sl_set {bh : BH} {x : Nat} {b b' : Nat × Nat × List Value} (h : bh[x]? = some b) (hb : b'.2.1 = b.2.1) : tg_sl (bh.set x b') = tg_sl bh := by
  unfold tg_sl
  rw [List.map_set, hb]
  congr 1
  refine List.ext_getElem? fun j => ?_
  by_cases hj : j = x
  · subst hj
    have hl := (List.getElem?_eq_some_iff.mp h).1
    rw [List.getElem?_set_self (by simpa using hl), List.getElem?_map, h]
    rfl
  · rw [List.getElem?_set_ne (Ne.symm hj)]
theorem tg_vset {n q : Nat} {l : List Value} {v : Value} (h : l.all (tg_vok n) = true) (hv : tg_vok n v = true) : (l.set q v).all (tg_vok n) = true := List.all_eq_true.mpr fun w hw => by
  rcases List.mem_or_eq_of_mem_set hw with hw | rfl
  · exact List.all_eq_true.mp h w hw
  · exact hv
theorem tg_wf_at {bh : BH} {x : Nat} {b : Nat × Nat × List Value} (h : tg_wf bh = true) (hx : bh[x]? = some b) : b.2.2.all (tg_vok bh.length) = true := List.all_eq_true.mp h b (List.mem_of_getElem? hx)
theorem tg_s1_ok {n i : Nat} {L : List Value} {v : Value} (h : L.all (tg_vok n) = true) (hv : tg_vok n v = true) : (tf_s1 L i v).all (tg_vok n) = true := by
  unfold tf_s1
  split
  · exact tg_vset h hv
  · split
    · exact tg_vset (tg_vset h rfl) hv
    · exact tg_vset (tg_vset h rfl) hv
    · exact tg_vset h hv
