/-! ===== THE LIGHT MACHINE: the world as one table of numbers; references stand still ===== -/
abbrev LH : Type := (Nat → Nat → Int32) × (Nat → Nat → Int64)
/-- nothing: an unset local, the second half of a long, the answer of a void method -/
def tf_z : Value := .retAddr 0
def tf_up (h : Nat → Nat → Int32) (c i : Nat) (v : Int32) : Nat → Nat → Int32 := fun d => if d = c then upd (h c) i v else h d
def tf_upL (h : Nat → Nat → Int64) (c i : Nat) (v : Int64) : Nat → Nat → Int64 := fun d => if d = c then vp_updL (h c) i v else h d
/-- how many cells the world has -/
def tf_NC : Nat := 298
def tf_Kl : List Nat := [0, 8, 8, 8, 8, 8, 8, 8, 8, 8, 8, 4, 8, 8, 8, 0, 8, 8, 8, 8, 8, 8, 8, 8, 8, 8, 4, 8, 8, 8, 0, 8, 8, 8, 8, 8, 8, 8, 8, 8, 8, 4, 8, 8, 8, 0, 8, 8, 8, 8, 8, 8, 8, 8, 8, 8, 4, 8, 8, 8, 0, 8, 8, 8, 8, 8, 8, 8, 8, 8, 8, 4, 8, 8, 8, 0, 8, 8, 8, 8, 8, 8, 8, 8, 8, 8, 4, 8, 8, 8, 0, 8, 8, 8, 8, 8, 8, 8, 8, 8, 8, 4, 8, 8, 8, 0, 8, 8, 8, 8, 8, 8, 8, 8, 8, 8, 4, 8, 8, 8, 0, 8, 8, 8, 8, 8, 8, 8, 8, 8, 8, 4, 8, 8, 8, 0, 8, 8, 8, 8, 8, 8, 8, 8, 8, 8, 4, 8, 8, 8, 0, 8, 8, 8, 8, 8, 8, 8, 8, 8, 8, 4, 8, 8, 8, 0, 8, 8, 8, 8, 8, 8, 8, 8, 8, 8, 4, 8, 8, 8, 0, 8, 8, 8, 8, 8, 8, 8, 8, 8, 8, 4, 8, 8, 8, 0, 8, 8, 8, 8, 8, 8, 8, 8, 8, 8, 4, 8, 8, 8, 0, 8, 8, 8, 8, 8, 8, 8, 8, 8, 8, 4, 8, 8, 8, 0, 8, 8, 8, 8, 8, 8, 8, 8, 8, 8, 4, 8, 8, 8, 6, 2, 8, 11, 5, 8, 8, 8, 8, 8, 8, 1, 9, 1, 9, 1, 9, 1, 9, 3, 15, 8, 8, 8, 8, 8, 13, 13, 14, 11, 7, 8, 10, 11, 8, 8, 8, 8, 8, 12, 8, 8, 8, 8, 8, 8, 11, 8, 8, 8, 8, 8, 8, 8, 8, 8, 8, 12]
def tf_Nl : List Nat := [14, 7, 21, 21, 21, 21, 21, 21, 7, 7, 8, 7, 12, 12, 12, 14, 7, 21, 21, 21, 21, 21, 21, 7, 7, 8, 7, 12, 12, 12, 14, 7, 21, 21, 21, 21, 21, 21, 7, 7, 8, 7, 12, 12, 12, 14, 7, 21, 21, 21, 21, 21, 21, 7, 7, 8, 7, 12, 12, 12, 14, 7, 21, 21, 21, 21, 21, 21, 7, 7, 8, 7, 12, 12, 12, 14, 7, 21, 21, 21, 21, 21, 21, 7, 7, 8, 7, 12, 12, 12, 14, 7, 21, 21, 21, 21, 21, 21, 7, 7, 8, 7, 12, 12, 12, 14, 7, 21, 21, 21, 21, 21, 21, 7, 7, 8, 7, 12, 12, 12, 14, 7, 21, 21, 21, 21, 21, 21, 7, 7, 8, 7, 12, 12, 12, 14, 7, 21, 21, 21, 21, 21, 21, 7, 7, 8, 7, 12, 12, 12, 14, 7, 21, 21, 21, 21, 21, 21, 7, 7, 8, 7, 12, 12, 12, 14, 7, 21, 21, 21, 21, 21, 21, 7, 7, 8, 7, 12, 12, 12, 14, 7, 21, 21, 21, 21, 21, 21, 7, 7, 8, 7, 12, 12, 12, 14, 7, 21, 21, 21, 21, 21, 21, 7, 7, 8, 7, 12, 12, 12, 14, 7, 21, 21, 21, 21, 21, 21, 7, 7, 8, 7, 12, 12, 12, 14, 7, 21, 21, 21, 21, 21, 21, 7, 7, 8, 7, 12, 12, 12, 13, 7, 8, 8, 9, 14, 14, 98, 14, 7, 7, 4, 400, 4, 400, 4, 400, 4, 400, 11, 80, 80, 320, 320, 7, 7, 11, 3, 3, 3, 44, 865, 1600, 3, 1700, 4, 7, 98, 7, 100, 400, 8, 8, 8, 8, 16, 16, 64, 14, 8, 9, 14, 14, 14, 7, 7, 7, 1]
/-- the kind of a cell: 0 to 7 an object (place in vwCl), 8 int[], 9 char[], 10 byte[], 11 boolean[], 12 long[], 13 Net[], 14 Page[], 15 Verb[] -/
def tf_K (c : Nat) : Nat := tf_Kl.getD c 99
def tf_N (c : Nat) : Nat := tf_Nl.getD c 0
def tf_Sl : List (List Nat) := [[0, 0, 0, 2, 2, 2, 2, 2, 2, 2, 2, 2, 2, 2], [2, 0, 0, 0], [2, 2, 0, 0, 0, 0, 0], [0, 0, 0, 2, 2, 2, 2, 2, 0, 0, 0], [0, 0, 0, 0, 2, 2, 2], [0, 2, 2, 2, 2, 2, 2, 0, 0], [2, 2, 2, 2, 2, 2, 2, 2, 0, 0, 2, 2, 2], [0, 2, 2, 2, 2, 0, 0, 0, 0, 0, 0, 1, 0, 0, 2, 2, 2, 2, 0, 0, 0, 2, 2, 0, 2, 2, 2, 2, 2, 2, 0, 0, 2, 2, 2, 2, 0, 0, 2, 2, 2, 2, 2, 2]]
def tf_S (ci k : Nat) : Nat := (tf_Sl.getD ci []).getD k 9
def tf_Wl (ci : Nat) : Nat := (tf_Sl.getD ci []).length
def tf_R6 : List Nat := [0, 15, 241, 244, 251, 259, 265, 266, 0, 0, 267, 268, 269]
def tf_R7 : List Nat := [0, 271, 272, 273, 274, 0, 0, 0, 0, 0, 0, 0, 0, 0, 275, 276, 277, 278, 0, 0, 0, 279, 280, 0, 281, 282, 283, 284, 285, 286, 0, 0, 287, 288, 289, 290, 0, 0, 291, 292, 293, 294, 295, 296]
/-- where a reference leads: of an object's field, of a row of objects -/
def tf_R (c k : Nat) : Nat :=
  match tf_K c with
  | 0 => c + k - 2
  | 1 => c + 1
  | 2 => c + 1 + k
  | 3 => c + k - 2
  | 4 => c + k - 3
  | 5 => c + k
  | 6 => tf_R6.getD k 0
  | 7 => tf_R7.getD k 0
  | 13 => if c = 266 then 15 * (k + 2) else 15 * (k + 13)
  | _ => 253 + 2 * k
/-- a reference of the light machine as the heap has it -/
def tf_tr (ad : Nat → Nat) (v : Value) : Value := match v with
  | .ref c => .ref (ad c)
  | v => v
def tf_fv (ad : Nat → Nat) (h : LH) (c k : Nat) : Value := if tf_S (tf_K c) k = 0 then .int (h.1 c k) else if tf_S (tf_K c) k = 1 then .long (h.2 c k) else .ref (ad (tf_R c k))
def tf_vb (ad : Nat → Nat) (v : Int32) : Option Nat := if v < 0 then none else some (ad (400 + v.toNatClampNeg))
def tf_E (cA : Nat → ClassId) (ad : Nat → Nat) (h : LH) (c : Nat) : va_E :=
  if tf_K c < 8 then .inr (tf_K c, (List.range (tf_Wl (tf_K c))).map (tf_fv ad h c))
  else if tf_K c < 12 then .inl (cA (tf_K c), tf_N c, .inl (h.1 c))
  else if tf_K c = 12 then .inl (cA 12, tf_N c, .inr (.inl (h.2 c)))
  else if tf_K c = 15 then .inl (cA 15, tf_N c, .inr (.inr (.inr (.inr (fun i => tf_vb ad (h.1 c i))))))
  else .inl (cA (tf_K c), tf_N c, .inr (.inr (.inr (.inr (fun i => some (ad (tf_R c i)))))))
def tf_ws (cA : Nat → ClassId) (ad : Nat → Nat) (nc : Nat) (h : LH) : va_W := (List.range nc).map (fun c => (ad c, tf_E cA ad h c))
def tf_ty (cA : Nat → ClassId) : List (ClassId × FieldType) := [(cA 8, .int), (cA 9, .char), (cA 10, .byte), (cA 11, .boolean), (cA 12, .long), (cA 13, .object "TreeFlows$Net"), (cA 14, .object "TreeFlows$Page"), (cA 15, .object "TreeFlows$Verb")]
def tf_inj (ad : Nat → Nat) (nc : Nat) : Prop := ∀ i j, i < nc → j < nc → ad i = ad j → i = j
section TFN
variable {nc : Nat}
theorem tf_ws_get {cA : Nat → ClassId} {ad : Nat → Nat} {h : LH} {c : Nat} (hc : c < nc) : (tf_ws cA ad nc h)[c]? = some (ad c, tf_E cA ad h c) := by
  simp [tf_ws, hc]
theorem tf_ws_lt {cA : Nat → ClassId} {ad : Nat → Nat} {h : LH} {k : Nat} {q : Nat × va_E} (hk : (tf_ws cA ad nc h)[k]? = some q) : k < nc ∧ q = (ad k, tf_E cA ad h k) := by
  have hl : k < nc := by
    have := (List.getElem?_eq_some_iff.mp hk).1
    simpa [tf_ws] using this
  rw [tf_ws_get hl] at hk
  exact ⟨hl, (Option.some.inj hk).symm⟩
theorem tf_ws_set {cA : Nat → ClassId} {ad : Nat → Nat} {h h' : LH} {c : Nat} {e : va_E} (he : e = tf_E cA ad h' c) (ho : ∀ d, d ≠ c → tf_E cA ad h' d = tf_E cA ad h d) : (tf_ws cA ad nc h).set c (ad c, e) = tf_ws cA ad nc h' := by
  subst he
  refine List.ext_getElem? fun k => ?_
  by_cases hk : k < nc
  · rw [tf_ws_get hk]
    by_cases hkc : k = c
    · subst hkc
      rw [List.getElem?_set_self (by simpa [tf_ws] using hk)]
    · rw [List.getElem?_set_ne (Ne.symm hkc), tf_ws_get hk, ho k hkc]
  · rw [List.getElem?_eq_none (by simpa [tf_ws] using hk), List.getElem?_eq_none (by simpa [tf_ws] using hk)]
theorem tf_ws_D {cA : Nat → ClassId} {ad : Nat → Nat} {h : LH} {A : Nat → Prop} (hj : tf_inj ad nc) (hA : ∀ c, c < nc → A (ad c)) : va_D A (tf_ws cA ad nc h) := by
  refine ⟨fun i j p q hi hj' hpq => ?_, fun k q hk => ?_⟩
  · obtain ⟨li, rfl⟩ := tf_ws_lt hi
    obtain ⟨lj, rfl⟩ := tf_ws_lt hj'
    exact hj i j li lj hpq
  · obtain ⟨lk, rfl⟩ := tf_ws_lt hk
    exact hA k lk
theorem tf_ws_A {cA : Nat → ClassId} {ad : Nat → Nat} {h : LH} {sz q : Nat} : va_A (tf_ws cA ad nc h) sz q ↔ (∃ c, c < nc ∧ q = ad c) ∨ sz ≤ q := by
  constructor
  · rintro (⟨k, e, hk⟩ | hk)
    · obtain ⟨lk, he⟩ := tf_ws_lt hk
      exact Or.inl ⟨k, lk, congrArg Prod.fst he⟩
    · exact Or.inr hk
  · rintro (⟨c, hc, rfl⟩ | hk)
    · exact Or.inl ⟨c, _, tf_ws_get hc⟩
    · exact Or.inr hk
theorem tf_ws_At {cA : Nat → ClassId} {ad : Nat → Nat} {h h' : LH} {sz : Nat} : va_A (tf_ws cA ad nc h) sz = va_A (tf_ws cA ad nc h') sz := by
  funext q
  exact propext (tf_ws_A.trans tf_ws_A.symm)
end TFN
-- what a write does to the table
theorem tf_E_up {cA : Nat → ClassId} {ad : Nat → Nat} {h : LH} {c i : Nat} {v : Int32} {d : Nat} (hd : d ≠ c) : tf_E cA ad (tf_up h.1 c i v, h.2) d = tf_E cA ad h d := by
  have e1 : tf_up h.1 c i v d = h.1 d := by simp [tf_up, hd]
  have e2 : tf_fv ad (tf_up h.1 c i v, h.2) d = tf_fv ad h d := by funext k; simp [tf_fv, e1]
  simp only [tf_E, e2, e1]
theorem tf_E_upL {cA : Nat → ClassId} {ad : Nat → Nat} {h : LH} {c i : Nat} {v : Int64} {d : Nat} (hd : d ≠ c) : tf_E cA ad (h.1, tf_upL h.2 c i v) d = tf_E cA ad h d := by
  have e1 : tf_upL h.2 c i v d = h.2 d := by simp [tf_upL, hd]
  have e2 : tf_fv ad (h.1, tf_upL h.2 c i v) d = tf_fv ad h d := by funext k; simp [tf_fv, e1]
  simp only [tf_E, e2, e1]
theorem tf_set_map {α : Type} {f g : Nat → α} {k n : Nat} {v : α} (hk : g k = v) (ho : ∀ j, j ≠ k → g j = f j) : ((List.range n).map f).set k v = (List.range n).map g := by
  refine List.ext_getElem? fun j => ?_
  by_cases hj : j < n
  · by_cases hjk : j = k
    · subst hjk
      rw [List.getElem?_set_self (by simpa using hj)]
      simp [hj, hk]
    · rw [List.getElem?_set_ne (Ne.symm hjk)]
      simp [hj, ho j hjk]
  · rw [List.getElem?_eq_none (by simpa using hj), List.getElem?_eq_none (by simpa using hj)]
theorem tf_put_i {cA : Nat → ClassId} {ad : Nat → Nat} {h : LH} {c k : Nat} {v : Int32} (hk8 : tf_K c < 8) (hs : tf_S (tf_K c) k = 0) : (.inr (tf_K c, ((List.range (tf_Wl (tf_K c))).map (tf_fv ad h c)).set k (.int v)) : va_E) = tf_E cA ad (tf_up h.1 c k v, h.2) c := by
  rw [tf_E, if_pos hk8]
  refine congrArg (fun l => Sum.inr (tf_K c, l)) (tf_set_map ?_ fun j hj => ?_)
  · simp [tf_fv, hs, tf_up, upd]
  · simp [tf_fv, tf_up, upd, hj]
theorem tf_put_l {cA : Nat → ClassId} {ad : Nat → Nat} {h : LH} {c k : Nat} {v : Int64} (hk8 : tf_K c < 8) (hs : tf_S (tf_K c) k = 1) : (.inr (tf_K c, ((List.range (tf_Wl (tf_K c))).map (tf_fv ad h c)).set k (.long v)) : va_E) = tf_E cA ad (h.1, tf_upL h.2 c k v) c := by
  rw [tf_E, if_pos hk8]
  refine congrArg (fun l => Sum.inr (tf_K c, l)) (tf_set_map ?_ fun j hj => ?_)
  · simp [tf_fv, hs, tf_upL, vp_updL]
  · simp [tf_fv, tf_upL, vp_updL, hj]
-- locals
def tf_s1 (L : List Value) (i : Nat) (v : Value) : List Value := match i with
  | 0 => L.set 0 v
  | j + 1 => match L[j]? with
    | some (.long _) => (L.set j tf_z).set (j + 1) v
    | some (.double _) => (L.set j tf_z).set (j + 1) v
    | _ => L.set (j + 1) v
def tf_s2 (L : List Value) (i : Nat) (v : Value) : List Value := (tf_s1 L i v).set (i + 1) tf_z
def tf_rel (ad : Nat → Nat) (ls : Array Slot) (nL : Nat) (L : List Value) : Prop := ls.size = nL ∧ lv_wf ls ∧ L.length = nL ∧ ∀ (i : Nat) (v : Value), L[i]? = some v → v ≠ tf_z → ls[i]? = some (.val (tf_tr ad v))
def tf_prs (ad : Nat → Nat) : Nat → List Value → List (Nat × Value)
  | _, [] => []
  | i, v :: r => if v = tf_z then tf_prs ad (i + 1) r else (i, tf_tr ad v) :: tf_prs ad (i + 1) r
theorem tf_prs_mem {ad : Nat → Nat} : ∀ (L : List Value) (i : Nat) (q : Nat × Value), q ∈ tf_prs ad i L ↔ ∃ (j : Nat) (v : Value), L[j]? = some v ∧ v ≠ tf_z ∧ q = (i + j, tf_tr ad v)
  | [], i, q => by simp [tf_prs]
  | v :: r, i, q => by
    rw [tf_prs]
    constructor
    · intro h
      by_cases hv : v = tf_z
      · rw [if_pos hv] at h
        obtain ⟨j, w, h1, h2, h3⟩ := (tf_prs_mem r (i + 1) q).mp h
        exact ⟨j + 1, w, by simpa using h1, h2, by rw [h3]; simp; omega⟩
      · rw [if_neg hv] at h
        rcases List.mem_cons.mp h with h | h
        · exact ⟨0, v, by simp, hv, by simpa using h⟩
        · obtain ⟨j, w, h1, h2, h3⟩ := (tf_prs_mem r (i + 1) q).mp h
          exact ⟨j + 1, w, by simpa using h1, h2, by rw [h3]; simp; omega⟩
    · rintro ⟨j, w, h1, h2, h3⟩
      cases j with
      | zero =>
        simp only [List.getElem?_cons_zero, Option.some.injEq] at h1
        subst h1
        rw [if_neg h2, h3]
        exact List.mem_cons_self
      | succ j =>
        have hm : q ∈ tf_prs ad (i + 1) r := (tf_prs_mem r (i + 1) q).mpr ⟨j, w, by simpa using h1, h2, by rw [h3]; simp; omega⟩
        by_cases hv : v = tf_z
        · rw [if_pos hv]; exact hm
        · rw [if_neg hv]; exact List.mem_cons_of_mem _ hm
theorem tf_rel_has {ad : Nat → Nat} {ls : Array Slot} {nL : Nat} {L : List Value} (h : tf_rel ad ls nL L) : lv_has ls nL (tf_prs ad 0 L) := by
  refine ⟨h.1, h.2.1, fun q hq => ?_⟩
  obtain ⟨j, v, h1, h2, h3⟩ := (tf_prs_mem L 0 q).mp hq
  rw [h3]
  simpa using h.2.2.2 j v h1 h2
theorem tf_cat {ad : Nat → Nat} (v : Value) : (tf_tr ad v).category = v.category := by cases v <;> rfl
theorem tf_cat2 {v : Value} (h : v.category = 2) : (∃ x, v = .long x) ∨ ∃ x, v = .double x := by cases v <;> simp [Value.category] at h <;> simp
theorem tf_s1_len (L : List Value) (i : Nat) (v : Value) : (tf_s1 L i v).length = L.length := by
  unfold tf_s1
  split
  · simp
  · split <;> simp
theorem tf_s1_get {L : List Value} {i : Nat} {v w : Value} {j : Nat} (h : (tf_s1 L i v)[j]? = some w) (hw : w ≠ tf_z) : (j = i ∧ w = v) ∨ (j ≠ i ∧ L[j]? = some w ∧ (j + 1 = i → w.category ≠ 2)) := by
  have key : ∀ {i : Nat}, ((L.set i tf_z).set (i + 1) v)[j]? = some w → (j = i + 1 ∧ w = v) ∨ (j ≠ i + 1 ∧ L[j]? = some w ∧ (j + 1 = i + 1 → w.category ≠ 2)) := by
    intro i h
    by_cases hj : j = i + 1
    · subst hj
      refine Or.inl ⟨rfl, ?_⟩
      rw [List.getElem?_set] at h
      simp only [if_true, List.length_set] at h
      split at h
      · exact (Option.some.inj h).symm
      · cases h
    · rw [List.getElem?_set_ne (Ne.symm hj)] at h
      by_cases hji : j = i
      · subst hji
        rw [List.getElem?_set] at h
        simp only [if_true] at h
        split at h
        · exact absurd (Option.some.inj h).symm hw
        · cases h
      · rw [List.getElem?_set_ne (Ne.symm hji)] at h
        exact Or.inr ⟨hj, h, fun e => by omega⟩
  unfold tf_s1 at h
  cases i with
  | zero =>
    simp only at h
    by_cases hj : j = 0
    · subst hj
      rw [List.getElem?_set] at h
      split at h
      · split at h
        · exact Or.inl ⟨rfl, (Option.some.inj h).symm⟩
        · cases h
      · omega
    · rw [List.getElem?_set_ne (Ne.symm hj)] at h
      exact Or.inr ⟨hj, h, fun e => by omega⟩
  | succ i =>
    simp only at h
    split at h
    · exact key h
    · exact key h
    · rename_i hx hy
      by_cases hj : j = i + 1
      · subst hj
        refine Or.inl ⟨rfl, ?_⟩
        rw [List.getElem?_set] at h
        simp only [if_true] at h
        split at h
        · exact (Option.some.inj h).symm
        · cases h
      · rw [List.getElem?_set_ne (Ne.symm hj)] at h
        refine Or.inr ⟨hj, h, fun e hc => ?_⟩
        have hji : j = i := by omega
        subst hji
        rcases tf_cat2 hc with ⟨x, hq⟩ | ⟨x, hq⟩
        · exact hx x (by rw [h, hq])
        · exact hy x (by rw [h, hq])
theorem tf_rel_s1 {ad : Nat → Nat} {ls' : Array Slot} {nL : Nat} {L : List Value} {i : Nat} {v : Value} (hlen : L.length = nL)
    (h : lv_has ls' nL ((i, tf_tr ad v) :: (tf_prs ad 0 L).filter (fun q => !(q.1 == i) && !(q.1 + 1 == i && q.2.category == 2)))) : tf_rel ad ls' nL (tf_s1 L i v) := by
  refine ⟨h.1, h.2.1, by rw [tf_s1_len]; exact hlen, fun j w hj hw => ?_⟩
  rcases tf_s1_get hj hw with ⟨rfl, rfl⟩ | ⟨hne, hL, hl⟩
  · exact h.2.2 (j, tf_tr ad w) List.mem_cons_self
  · refine h.2.2 (j, tf_tr ad w) (List.mem_cons_of_mem _ (List.mem_filter.mpr ⟨(tf_prs_mem L 0 _).mpr ⟨j, w, hL, hw, by simp⟩, ?_⟩))
    simp only [Bool.and_eq_true, Bool.not_eq_true', beq_eq_false_iff_ne, ne_eq, Bool.and_eq_false_imp, beq_iff_eq]
    refine ⟨hne, fun e => ?_⟩
    rw [tf_cat]
    exact hl e
theorem tf_rel_s2 {ad : Nat → Nat} {ls' : Array Slot} {nL : Nat} {L : List Value} {i : Nat} {v : Value} (hlen : L.length = nL)
    (h : lv_has ls' nL ((i, tf_tr ad v) :: (tf_prs ad 0 L).filter (fun q => !(q.1 == i) && (!(q.1 == i + 1) && !(q.1 + 1 == i && q.2.category == 2))))) : tf_rel ad ls' nL (tf_s2 L i v) := by
  refine ⟨h.1, h.2.1, by rw [tf_s2, List.length_set, tf_s1_len]; exact hlen, fun j w hj hw => ?_⟩
  rw [tf_s2] at hj
  by_cases hji : j = i + 1
  · subst hji
    rw [List.getElem?_set] at hj
    simp only [if_true] at hj
    split at hj
    · exact absurd (Option.some.inj hj).symm hw
    · cases hj
  · rw [List.getElem?_set_ne (Ne.symm hji)] at hj
    rcases tf_s1_get hj hw with ⟨rfl, rfl⟩ | ⟨hne, hL, hl⟩
    · exact h.2.2 (j, tf_tr ad w) List.mem_cons_self
    · refine h.2.2 (j, tf_tr ad w) (List.mem_cons_of_mem _ (List.mem_filter.mpr ⟨(tf_prs_mem L 0 _).mpr ⟨j, w, hL, hw, by simp⟩, ?_⟩))
      simp only [Bool.and_eq_true, Bool.not_eq_true', beq_eq_false_iff_ne, ne_eq, Bool.and_eq_false_imp, beq_iff_eq]
      refine ⟨hne, hji, fun e => ?_⟩
      rw [tf_cat]
      exact hl e
-- entry
def tf_ar : List Value → List Value
  | [] => []
  | v :: r => if v.category = 2 then v :: tf_z :: tf_ar r else v :: tf_ar r
def tf_en (n : Nat) (As : List Value) : List Value := tf_ar As ++ List.replicate (n - (tf_ar As).length) tf_z
theorem tf_sl_len (ad : Nat → Nat) : ∀ As : List Value, (lg_sl (As.map (tf_tr ad))).length = (tf_ar As).length
  | [] => rfl
  | v :: r => by
    have ih := tf_sl_len ad r
    simp only [List.map_cons, lg_sl, List.flatMap_cons, List.length_append, tf_ar, tf_cat] at *
    split
    · simp only [List.length_cons, List.length_nil]; omega
    · simp only [List.length_cons, List.length_nil]; omega
theorem tf_ar_at (ad : Nat → Nat) : ∀ (As : List Value) (i j : Nat) (v : Value), (tf_ar As)[j]? = some v → v ≠ tf_z → (i + j, tf_tr ad v) ∈ lv_args i (As.map (tf_tr ad))
  | [], i, j, v, h, _ => by simp [tf_ar] at h
  | a :: r, i, j, v, h, hv => by
    simp only [List.map_cons, lv_args, tf_cat]
    simp only [tf_ar] at h
    split at h
    · rename_i hc
      rw [if_pos hc]
      cases j with
      | zero => simp at h; subst h; exact List.mem_cons_self
      | succ j =>
        cases j with
        | zero => simp at h; exact absurd h.symm hv
        | succ j =>
          have := tf_ar_at ad r (i + 2) j v (by simpa using h) hv
          refine List.mem_cons_of_mem _ ?_
          rwa [show i + (j + 1 + 1) = i + 2 + j by omega]
    · rename_i hc
      rw [if_neg hc]
      cases j with
      | zero => simp at h; subst h; exact List.mem_cons_self
      | succ j =>
        have := tf_ar_at ad r (i + 1) j v (by simpa using h) hv
        refine List.mem_cons_of_mem _ ?_
        rwa [show i + (j + 1) = i + 1 + j by omega]
theorem tf_rel_en {ad : Nat → Nat} {As : List Value} {n : Nat} (hn : (tf_ar As).length ≤ n) : tf_rel ad ((lg_sl (As.map (tf_tr ad)) ++ List.replicate (n - (lg_sl (As.map (tf_tr ad))).length) Slot.unset).toArray) n (tf_en n As) := by
  have h := lv_entry (As.map (tf_tr ad)) (n := n) (by rw [tf_sl_len]; exact hn)
  refine ⟨h.1, h.2.1, by simp [tf_en]; omega, fun i v hi hv => ?_⟩
  rw [tf_en] at hi
  by_cases hl : i < (tf_ar As).length
  · rw [List.getElem?_append_left hl] at hi
    have := h.2.2 _ (tf_ar_at ad As 0 i v hi hv)
    simpa using this
  · rw [List.getElem?_append_right (by omega), List.getElem?_replicate] at hi
    split at hi
    · exact absurd (Option.some.inj hi).symm hv
    · cases hi
