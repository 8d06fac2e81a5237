/-! ===== the light machine is sound: every method's contract, by the depth of its calls ===== -/
def tf_lp : List (List Nat) := [[224, 226, 228, 230, 232, 234, 236, 238, 240, 242, 244, 246, 248, 250], [335, 337, 339, 341], [269, 271, 273, 275, 277, 279, 281], [367, 369, 371, 373, 375, 377, 379, 381, 383, 385, 387], [163, 165, 167, 169, 171, 173, 175], [301, 303, 305, 307, 309, 311, 313, 315, 317], [428, 430, 432, 434, 436, 438, 440, 442, 444, 446, 448, 450, 452], [1205, 1207, 1209, 1211, 1213, 1215, 1217, 1219, 1221, 1223, 1225, 1227, 1229, 1231, 1233, 1235, 1237, 1239, 1241, 1243, 1245, 1247, 1249, 1251, 1253, 1255, 1257, 1259, 1261, 1263, 1265, 1267, 1269, 1271, 1273, 1275, 1277, 1279, 1281, 1283, 1285, 1287, 1289, 1291]]
def tf_tyf (ci : Nat) : Nat → FieldType := match ci with
  | 0 => tyX1
  | 1 => tyX2
  | 2 => tyX3
  | 3 => tyX4
  | 4 => tyX5
  | 5 => tyX6
  | 6 => tyX8
  | _ => tyX9
def tf_ckC (ci : Nat) : Bool := match vwCl[ci]? with
  | some (C, T, N) => decide (N = tf_Wl ci) && (List.range N).all (fun k => tf_isw ((tf_lp.getD ci []).getD k 0) (u_lay C T k)) && (List.range N).all (fun k => decide (parseFieldDescriptor (T k).2.2.1 = some (tf_tyf ci k)) && (if tf_S ci k = 0 then decide ((T k).2.2.2 = false ∧ tf_tyf ci k = .int) else if tf_S ci k = 1 then decide ((T k).2.2.2 = false ∧ tf_tyf ci k = .long) else true)) && (List.range N).all (fun a => (List.range N).all (fun b => a == b || decide ((T a).2.1 ≠ (T b).2.1)))
  | none => false
theorem tf_ckC_all : (List.range 8).all tf_ckC = true := by decide +kernel
theorem tf_lookup {α : Type} : ∀ {l : List (Nat × α)} {j : Nat} {v : α}, l.lookup j = some v → (j, v) ∈ l
  | [], j, v, h => by simp at h
  | (i, w) :: r, j, v, h => by
    by_cases hi : j = i
    · subst hi
      simp [List.lookup] at h
      subst h
      exact List.mem_cons_self
    · have hb : (j == i) = false := by simpa using hi
      simp only [List.lookup, hb] at h
      exact List.mem_cons_of_mem _ (tf_lookup h)
theorem tf_rng {n : Nat} {f : Nat → Bool} (h : (List.range n).all f = true) {k : Nat} (hk : k < n) : f k = true := List.all_eq_true.mp h k (List.mem_range.mpr hk)
theorem tf_F_ok {o : Nat} (ho : o < 11) : tf_Fok (tf_own o) (tf_F o) tf_BW := by
  intro j ci q hf
  simp only [tf_F, Option.map_eq_some_iff] at hf
  obtain ⟨⟨a, b, pl⟩, hl, he⟩ := hf
  simp only [Prod.mk.injEq] at he
  obtain ⟨rfl, rfl⟩ := he
  have h1 := List.all_eq_true.mp (tf_rng tf_ckF_all ho) _ (tf_lookup hl)
  simp only [tf_ckF] at h1
  cases hc : vwCl[a]? with
  | none => rw [hc] at h1; cases h1
  | some x =>
    obtain ⟨C, T, N⟩ := x
    rw [hc] at h1
    simp only [Bool.and_eq_true, decide_eq_true_eq] at h1
    have ha8 : a < 8 := by
      have := (List.getElem?_eq_some_iff.mp hc).1
      simpa using this
    have h2 := tf_rng tf_ckC_all ha8
    simp only [tf_ckC, hc, Bool.and_eq_true, decide_eq_true_eq] at h2
    obtain ⟨⟨⟨hN, hlay⟩, hty⟩, hnm⟩ := h2
    refine ⟨C, T, N, tf_tyf a, rfl, h1.1, hN, ha8, tf_isw_in h1.2, ?_, ?_, ?_, ?_, ?_⟩
    · intro w hw
      simp only [u_ws, List.mem_map, List.mem_range] at hw
      obtain ⟨k, hk, rfl⟩ := hw
      exact tf_isw_in (tf_rng hlay hk)
    · intro k hk
      have := tf_rng hty hk
      simp only [Bool.and_eq_true, decide_eq_true_eq] at this
      exact this.1
    · intro x hx y hy hne
      have := tf_rng (tf_rng hnm hx) hy
      simp only [Bool.or_eq_true, beq_iff_eq, decide_eq_true_eq] at this
      exact this.resolve_left hne
    · intro hs
      have := tf_rng hty h1.1
      simp only [Bool.and_eq_true, decide_eq_true_eq, hs, if_true] at this
      exact this.2
    · intro hs
      have := tf_rng hty h1.1
      simp [hs] at this
      exact this.2
theorem tf_I_ok {o : Nat} (ho : o < 11) {j : Nat} {v : Int32} (h : tf_I o j = some (.int v)) : Jvm.Cond.constant (tf_own o) j v ∈ tf_BW := by
  simp only [tf_I, Option.map_eq_some_iff] at h
  obtain ⟨⟨a, pl⟩, hl, he⟩ := h
  have h1 := List.all_eq_true.mp (tf_rng tf_ckI_all ho) _ (tf_lookup hl)
  simp only at he
  subst he
  exact tf_isw_in h1
theorem tf_J_ok {o : Nat} (ho : o < 11) {j : Nat} {v : Int64} (h : tf_I o j = some (.long v)) : Jvm.Cond.constantLong (tf_own o) j v ∈ tf_BW := by
  simp only [tf_I, Option.map_eq_some_iff] at h
  obtain ⟨⟨a, pl⟩, hl, he⟩ := h
  have h1 := List.all_eq_true.mp (tf_rng tf_ckI_all ho) _ (tf_lookup hl)
  simp only at he
  subst he
  exact tf_isw_in h1
/-! the JDK's methods that are told by themselves -/
def tf_cp (h : Nat → Nat → Int32) (a b sp dp n : Nat) : Nat → Nat → Int32 := fun d => if d = b then va_cpy (h a) (h b) sp dp n else h d
def tf_cpok (nc kd : Nat) (h : LH) (a b : Nat) (sp dp n : Int32) : Prop := tf_K a = kd ∧ tf_K b = kd ∧ a < nc ∧ b < nc ∧ ¬ sp < 0 ∧ ¬ dp < 0 ∧ ¬ n < 0 ∧ sp.toNatClampNeg + n.toNatClampNeg ≤ tf_N a ∧ dp.toNatClampNeg + n.toNatClampNeg ≤ tf_N b
def tf_ext (nc : Nat) : tf_C := fun kn As h Q => match kn - 1000, As with
  | 0, [.int x] => kn = 1000 ∧ Q (.int (if 0 ≤ x then x else 0 - x)) h
  | 1, [.int x, .int y] => kn = 1001 ∧ Q (.int (if x < y then y else x)) h
  | 2, [.int x, .int y] => kn = 1002 ∧ Q (.int (if y < x then y else x)) h
  | 3, [.ref a, .int sp, .ref b, .int dp, .int n] => kn = 1003 ∧ tf_cpok nc 8 h a b sp dp n ∧ Q tf_z (tf_cp h.1 a b sp.toNatClampNeg dp.toNatClampNeg n.toNatClampNeg, h.2)
  | 4, [.ref a, .int sp, .ref b, .int dp, .int n] => kn = 1004 ∧ (tf_cpok nc 9 h a b sp dp n ∧ ∀ i, i < n.toNatClampNeg → fits .char (.int (h.1 a (sp.toNatClampNeg + i))) = true) ∧ Q tf_z (tf_cp h.1 a b sp.toNatClampNeg dp.toNatClampNeg n.toNatClampNeg, h.2)
  | _, _ => False
set_option maxRecDepth 100000 in
theorem tf_ext_1000 {nc kn : Nat} {As : List Value} {h : LH} {Q : tf_Q} (hk : kn < 1000) : ¬ tf_ext nc kn As h Q := by
  intro hq
  unfold tf_ext at hq
  split at hq
  · omega
  · omega
  · omega
  · omega
  · omega
  · exact hq
def tf_Eh (_kn : Nat) : tf_Hk := fun _ => none
/-- which reference a static of the script's pool is -/
def tv_hs (j : Nat) : Nat := match j with
  | 85 => 420
  | 122 => 421
  | 137 => 403
  | 141 => 404
  | 144 => 401
  | 147 => 402
  | _ => 400
def tv_ch (i k : Nat) : Int32 := (tv_byt.getD i []).getD k 0
/-- what the script's methods do with verbs and words, one instruction each -/
def tv_f (nc d pc kd pr : Nat) (L st : List Value) (h : LH) (k : tf_Kt) (X : tf_X) : Prop := nc = 298 ∧ match kd with
  | 0 => k L (.ref (tv_hs pr) :: st) h
  | 1 => (match st with | .ref x :: st => ∃ i, i < 15 ∧ x = 400 + i ∧ k L (.ref (430 + i) :: st) h | _ => False)
  | 2 => (match st with | .ref x :: st => x = 420 ∧ k L (.int 15 :: st) h | _ => False)
  | 3 => (match st with | .int i :: .ref x :: st => x = 420 ∧ vp_in i 15 ∧ k L (.ref (400 + i.toNatClampNeg) :: st) h | _ => False)
  | 4 => (match st with | .int i :: .ref x :: st => (tf_K x = 15 ∧ x < nc ∧ vp_in i (tf_N x) ∧ vp_in (h.1 x i.toNatClampNeg) 15) ∧ k L (.ref (400 + (h.1 x i.toNatClampNeg).toNatClampNeg) :: st) h | _ => False)
  | 5 => (match st with | .ref v :: .int i :: .ref x :: st => ∃ j, j < 15 ∧ v = 400 + j ∧ (tf_K x = 15 ∧ x < nc ∧ vp_in i (tf_N x)) ∧ k L st (tf_up h.1 x i.toNatClampNeg (nI j), h.2) | _ => False)
  | 6 => (match st with | .int i :: .ref x :: st => x = 421 ∧ vp_in i 15 ∧ k L (.int (tv_sm.getD i.toNatClampNeg 0) :: st) h | _ => False)
  | 7 => (match st with | .ref y :: .ref x :: st => ∃ i j, i < 15 ∧ j < 15 ∧ x = 400 + i ∧ y = 400 + j ∧ (i = j → X (pc + pr) L st h) ∧ (¬ i = j → k L st h) | _ => False)
  | 8 => (match st with | .ref y :: .ref x :: st => ∃ i j, i < 15 ∧ j < 15 ∧ x = 400 + i ∧ y = 400 + j ∧ (i = j → k L st h) ∧ (¬ i = j → X (pc + pr) L st h) | _ => False)
  | 9 => (match st with | .ref x :: st => ∃ i, i < 15 ∧ x = 400 + i ∧ (st.map Value.category).sum ≤ 8 ∧ k L (.int (nI i) :: st) h | _ => False)
  | 10 => (match st with | .ref x :: st => ∃ i, i < 15 ∧ x = 430 + i ∧ ((st.map Value.category).sum ≤ 8 ∧ 1 ≤ d) ∧ k L (.int (nI (tv_len.getD i 0)) :: st) h | _ => False)
  | 11 => (match st with | .int y :: .ref x :: st => ∃ i, i < 15 ∧ x = 430 + i ∧ ((st.map Value.category).sum ≤ 8 ∧ 3 ≤ d ∧ vp_in y (tv_len.getD i 0)) ∧ k L (.int (tv_ch i y.toNatClampNeg) :: st) h | _ => False)
  | 12 => (match st with | .int y :: .ref x :: st => ∃ i, i < 15 ∧ x = 400 + i ∧ (st.map Value.category).sum ≤ 8 ∧ k L (.int (if y = 0 then tv_g.getD i 0 else tv_o.getD i 0) :: st) h | _ => False)
  | _ => (match st with | .ref x :: st => k (tf_s1 L 3 (.ref x)) st h | .null :: st => k (tf_s1 L 3 .null) st h | _ => False)
/-- what stands at such a place -/
def tv_i (kd pr : Nat) : Instr × Nat := match kd with
  | 0 => (.getstatic pr, 3)
  | 1 => (.getfield 88, 3)
  | 2 => (.arraylength, 1)
  | 3 => (.aaload, 1)
  | 4 => (.aaload, 1)
  | 5 => (.aastore, 1)
  | 6 => (.iaload, 1)
  | 7 => (.if_acmp .eq (pr : Int), 3)
  | 8 => (.if_acmp .ne (pr : Int), 3)
  | 9 => (.invokevirtual 127, 3)
  | 10 => (.invokevirtual 96, 3)
  | 11 => (.invokevirtual 101, 3)
  | 12 => (.invokevirtual 65, 3)
  | _ => (.astore_n 3, 1)
def tv_hl (kn : Nat) : List (Nat × Nat × Nat) := match kn with
  | 223 => [(18, 13, 0), (43, 5, 0), (69, 12, 0)]
  | 227 => [(3, 0, 85), (6, 2, 0), (10, 0, 85), (14, 3, 0), (20, 12, 0), (31, 1, 0)]
  | 228 => [(1, 10, 0), (22, 10, 0), (30, 11, 0)]
  | 233 => [(0, 0, 122), (8, 4, 0), (9, 9, 0), (12, 6, 0)]
  | 234 => [(51, 4, 0), (52, 0, 137), (55, 7, 15), (63, 4, 0), (64, 0, 141), (67, 8, 12)]
  | 235 => [(5, 4, 0), (6, 0, 144), (9, 7, 15), (17, 4, 0), (18, 0, 147), (21, 8, 7)]
  | 236 => [(17, 4, 0), (18, 0, 150), (21, 8, 10)]
  | 237 => [(36, 4, 0), (37, 0, 137), (40, 8, 23), (68, 4, 0), (69, 0, 141), (72, 8, 21)]
  | 238 => [(10, 0, 122), (18, 4, 0), (19, 9, 0), (22, 6, 0)]
  | 240 => [(0, 0, 122), (8, 4, 0), (9, 9, 0), (12, 6, 0)]
  | 241 => [(0, 0, 122), (8, 4, 0), (9, 9, 0), (12, 6, 0)]
  | _ => []
def tf_Eg (nc d kn : Nat) : tf_Hk := match Nat.ble 222 kn && Nat.ble kn 241 with
  | true => fun pc => ((tv_hl kn).lookup pc).map (fun q => tv_f nc d pc q.1 q.2)
  | false => tf_Eh kn
theorem tf_Eg_lo {nc d kn : Nat} (h : kn < 222) : tf_Eg nc d kn = fun _ => none := by
  unfold tf_Eg
  rw [show Nat.ble 222 kn = false from by rw [← Bool.not_eq_true, Nat.ble_eq]; omega]
  rfl
def tf_Cd (nc : Nat) : Nat → tf_C
  | 0 => tf_ext nc
  | d + 1 => fun kn As h Q => if kn < 1000 then tf_rc nc (tf_mc kn) (tf_ml kn) As ∧ tf_LW nc (tf_Cd nc d) (tf_F (tf_mo kn)) (tf_M (tf_mo kn)) (tf_I (tf_mo kn)) (tf_Eg nc d kn) (tf_rkOf (tf_mr kn)) (tf_B kn) Q 0 (tf_en (tf_ml kn) As) [] h else tf_ext nc kn As h Q
theorem tf_Cd_ext {nc d kn : Nat} {As : List Value} {h : LH} {Q : tf_Q} (hk : ¬ kn < 1000) : tf_Cd nc d kn As h Q = tf_ext nc kn As h Q := by
  cases d with
  | zero => rfl
  | succ d => simp only [tf_Cd, if_neg hk]
set_option maxRecDepth 100000 in
theorem tf_Cd_rc {nc d kn : Nat} {As : List Value} {h : LH} {Q : tf_Q} (hk : kn < 1000) (hq : tf_Cd nc d kn As h Q) : tf_rc nc (tf_mc kn) (tf_ml kn) As := by
  cases d with
  | zero => exact absurd hq (tf_ext_1000 hk)
  | succ d =>
    simp only [tf_Cd, if_pos hk] at hq
    exact hq.1
theorem tf_E_cp {cA : Nat → ClassId} {ad : Nat → Nat} {h : LH} {a b sp dp n d : Nat} (hd : d ≠ b) : tf_E cA ad (tf_cp h.1 a b sp dp n, h.2) d = tf_E cA ad h d := by
  have e1 : tf_cp h.1 a b sp dp n d = h.1 d := by simp [tf_cp, hd]
  have e2 : tf_fv ad (tf_cp h.1 a b sp dp n, h.2) d = tf_fv ad h d := by funext k; simp [tf_fv, e1]
  simp only [tf_E, e2, e1]
theorem tf_three {α : Type} {st : List α} {n : Nat} {l : List α} (h : (st.take n).reverse = l) : st = l.reverse ++ st.drop n := by
  rw [← h, List.reverse_reverse, List.take_append_drop]
section TFX
variable {p : Program} {l : Launch} {e : Env} {R : Room} {s : State} {m : MethodId} {args : Array Value} {below : List Frame} {meth : Method} {c : Code} {QW : State → Prop}
variable {cc : ByteArray} {D : va_G} {cA : Nat → ClassId} {ad : Nat → Nat} {nc nL cells slots : Nat} {own : String} {Ts : List Jvm.Cond}
set_option maxHeartbeats 1000000 in
set_option maxRecDepth 100000 in
theorem tf_ext_ok {A : Nat → Prop} {kn na j d : Nat} {vd : Bool}
    (hx : p.tables.exec = Jvm.exec) (hb : c.code = cc) (hml : c.maxLocals = nL) (hown : s.vm.findClass own = some m.cls) (hts : ∀ w ∈ Ts, w.before args s = true) (hsub : ∀ w ∈ tf_BW, w ∈ Ts) (hK : va_K D vwCl (tf_ty cA) s) (hj : tf_inj ad nc) (hA : ∀ d, d < nc → A (ad d))
    (hR : 1 ≤ R.frames ∧ 32 ≤ R.locals) (hcz : cells ≤ R.cells ∧ slots ≤ R.slots)
    (hw : (kn = 1000 ∧ na = 1 ∧ vd = false ∧ Jvm.Cond.methodLink own j Lib.Math.abs.name ∈ tf_BW) ∨ (kn = 1001 ∧ na = 2 ∧ vd = false ∧ Jvm.Cond.methodLink own j Lib.Math.max.name ∈ tf_BW) ∨ (kn = 1002 ∧ na = 2 ∧ vd = false ∧ Jvm.Cond.methodLink own j Lib.Math.min.name ∈ tf_BW) ∨ ((kn = 1003 ∨ kn = 1004) ∧ na = 5 ∧ vd = true ∧ Jvm.Cond.methodLink own j arraycopyName ∈ tf_BW))
    {pc : Nat} {L st : List Value} {h : LH} {K : tf_Q} (hd : decode cc pc = .ok (.invokestatic j, 3)) (hsum : ((st.drop na).map Value.category).sum ≤ 8) (hCk : tf_ext nc kn (st.take na).reverse h K)
    (hk : ∀ r h, K r h → tf_At (fun H locs g => W p l e R s m args below meth c H locs cells slots QW g) m s.heap D cA ad A nc nL (pc + 3) L (if vd = true then st.drop na else r :: st.drop na) h) : tf_At (fun H locs g => W p l e R s m args below meth c H locs cells slots QW g) m s.heap D cA ad A nc nL pc L st h := by
  have hts' : ∀ w ∈ tf_BW, w.before args s = true := fun w hw => hts w (hsub w hw)
  have hmi : Jvm.Cond.initialized "java/lang/Math" ∈ tf_BW := tf_isw_in (i := 115) (by decide +kernel)
  unfold tf_ext at hCk
  intro H locs ls hP hS hL
  have hcs : (((st.drop na).map (tf_tr ad)).map fun v => v.category).sum ≤ 8 := by rw [tf_catsum]; exact hsum
  split at hCk
  · rename_i x hkn hArg
    obtain ⟨rfl, hq⟩ := hCk
    obtain ⟨-, rfl, rfl, hl⟩ | ⟨h0, -⟩ | ⟨h0, -⟩ | ⟨h0 | h0, -⟩ := hw
    · have hst := tf_three hArg
      have hst2 : st = .int x :: st.drop 1 := hst
      have hst3 : st.map (tf_tr ad) = .int x :: (st.drop 1).map (tf_tr ad) := by
        conv => lhs; rw [hst2]
        rfl
      show W p l e R s m args below meth c H locs cells slots QW (F0 m pc ls (st.map (tf_tr ad)))
      rw [hst3]
      exact va_mabs hx hb (hml.trans hL.1.symm) hown (hts' _ hl) (hts' _ (tf_isw_in (i := 405) (by decide +kernel))) (hts' _ hmi) (hts' _ (List.mem_filter.mpr ⟨List.mem_of_getElem? (i := 406) rfl, rfl⟩)) hR.1 (by omega) hcz.1 hcz.2 hd (hk _ _ hq H locs ls hP hS hL)
    all_goals exact absurd h0 (by decide)
  · rename_i x y hkn hArg
    obtain ⟨rfl, hq⟩ := hCk
    obtain ⟨h0, -⟩ | ⟨-, rfl, rfl, hl⟩ | ⟨h0, -⟩ | ⟨h0 | h0, -⟩ := hw
    · exact absurd h0 (by decide)
    · have hst := tf_three hArg
      have hst2 : st = .int y :: .int x :: st.drop 2 := hst
      have hst3 : st.map (tf_tr ad) = .int y :: .int x :: (st.drop 2).map (tf_tr ad) := by
        conv => lhs; rw [hst2]
        rfl
      show W p l e R s m args below meth c H locs cells slots QW (F0 m pc ls (st.map (tf_tr ad)))
      rw [hst3]
      exact va_mmax hx hb (hml.trans hL.1.symm) hown (hts' _ hl) (hts' _ (tf_isw_in (i := 667) (by decide +kernel))) (hts' _ hmi) (hts' _ (List.mem_filter.mpr ⟨List.mem_of_getElem? (i := 668) rfl, rfl⟩)) hR.1 (by omega) hcz.1 hcz.2 hd (hk _ _ hq H locs ls hP hS hL)
    all_goals exact absurd h0 (by decide)
  · rename_i x y hkn hArg
    obtain ⟨rfl, hq⟩ := hCk
    obtain ⟨h0, -⟩ | ⟨h0, -⟩ | ⟨-, rfl, rfl, hl⟩ | ⟨h0 | h0, -⟩ := hw
    · exact absurd h0 (by decide)
    · exact absurd h0 (by decide)
    · have hst := tf_three hArg
      have hst2 : st = .int y :: .int x :: st.drop 2 := hst
      have hst3 : st.map (tf_tr ad) = .int y :: .int x :: (st.drop 2).map (tf_tr ad) := by
        conv => lhs; rw [hst2]
        rfl
      show W p l e R s m args below meth c H locs cells slots QW (F0 m pc ls (st.map (tf_tr ad)))
      rw [hst3]
      exact va_mmin hx hb (hml.trans hL.1.symm) hown (hts' _ hl) (hts' _ (tf_isw_in (i := 707) (by decide +kernel))) (hts' _ hmi) (hts' _ (List.mem_filter.mpr ⟨List.mem_of_getElem? (i := 708) rfl, rfl⟩)) hR.1 (by omega) hcz.1 hcz.2 hd (hk _ _ hq H locs ls hP hS hL)
    all_goals exact absurd h0 (by decide)
  · rename_i a sp b dp n hkn hArg
    obtain ⟨rfl, ⟨ka, kb, la, lb, c1, c2, c3, c4, c5⟩, hq⟩ := hCk
    obtain ⟨h0, -⟩ | ⟨h0, -⟩ | ⟨h0, -⟩ | ⟨-, rfl, rfl, hl⟩ := hw
    · exact absurd h0 (by decide)
    · exact absurd h0 (by decide)
    · exact absurd h0 (by decide)
    · have hst := tf_three hArg
      have hst2 : st = .int n :: .int dp :: .ref b :: .int sp :: .ref a :: st.drop 5 := hst
      have hst3 : st.map (tf_tr ad) = .int n :: .int dp :: .ref (ad b) :: .int sp :: .ref (ad a) :: (st.drop 5).map (tf_tr ad) := by
        conv => lhs; rw [hst2]
        rfl
      show W p l e R s m args below meth c H locs cells slots QW (F0 m pc ls (st.map (tf_tr ad)))
      rw [hst3]
      refine va_copyi hx hb (hml.trans hL.1.symm) hown (hts' _ hl) (hts' _ (tf_isw_in (i := 640) (by decide +kernel))) (hts' _ (tf_isw_in (i := 639) (by decide +kernel))) (hts' _ (tf_isw_in (i := 124) (by decide +kernel))) hK hP (tf_ws_D hj hA) hS a b 0 0 (ty := .int) (f := h.1 a) (g := h.1 b) (n0 := tf_N a) (n1 := tf_N b) (c0 := cA 8) (c1 := cA 8) (by rw [tf_ws_get la, tf_E, ka]; rfl) (by rw [tf_ws_get lb, tf_E, kb]; rfl) rfl rfl rfl c1 c2 c3 c4 c5 (fun i _ => rfl) hR.1 ?_ hd (fun H1 locs1 hP1 hD1 hS1 => ?_)
      · refine Nat.le_trans (Nat.add_le_add_right hcs _) (Nat.le_trans ?_ hR.2)
        decide
      · rw [tf_ws_set (h' := (tf_cp h.1 a b sp.toNatClampNeg dp.toNatClampNeg n.toNatClampNeg, h.2)) (by rw [tf_E, kb]; simp [tf_cp]) (fun d hd => tf_E_cp hd)] at hP1
        exact hk _ _ hq H1 locs1 ls hP1 hS1 hL
  · rename_i a sp b dp n hkn hArg
    obtain ⟨rfl, ⟨⟨ka, kb, la, lb, c1, c2, c3, c4, c5⟩, hfit⟩, hq⟩ := hCk
    obtain ⟨h0, -⟩ | ⟨h0, -⟩ | ⟨h0, -⟩ | ⟨-, rfl, rfl, hl⟩ := hw
    · exact absurd h0 (by decide)
    · exact absurd h0 (by decide)
    · exact absurd h0 (by decide)
    · have hst := tf_three hArg
      have hst2 : st = .int n :: .int dp :: .ref b :: .int sp :: .ref a :: st.drop 5 := hst
      have hst3 : st.map (tf_tr ad) = .int n :: .int dp :: .ref (ad b) :: .int sp :: .ref (ad a) :: (st.drop 5).map (tf_tr ad) := by
        conv => lhs; rw [hst2]
        rfl
      show W p l e R s m args below meth c H locs cells slots QW (F0 m pc ls (st.map (tf_tr ad)))
      rw [hst3]
      refine va_copyi hx hb (hml.trans hL.1.symm) hown (hts' _ hl) (hts' _ (tf_isw_in (i := 640) (by decide +kernel))) (hts' _ (tf_isw_in (i := 639) (by decide +kernel))) (hts' _ (tf_isw_in (i := 124) (by decide +kernel))) hK hP (tf_ws_D hj hA) hS a b 1 1 (ty := .char) (f := h.1 a) (g := h.1 b) (n0 := tf_N a) (n1 := tf_N b) (c0 := cA 9) (c1 := cA 9) (by rw [tf_ws_get la, tf_E, ka]; rfl) (by rw [tf_ws_get lb, tf_E, kb]; rfl) rfl rfl rfl c1 c2 c3 c4 c5 hfit hR.1 ?_ hd (fun H1 locs1 hP1 hD1 hS1 => ?_)
      · refine Nat.le_trans (Nat.add_le_add_right hcs _) (Nat.le_trans ?_ hR.2)
        decide
      · rw [tf_ws_set (h' := (tf_cp h.1 a b sp.toNatClampNeg dp.toNatClampNeg n.toNatClampNeg, h.2)) (by rw [tf_E, kb]; simp [tf_cp]) (fun d hd => tf_E_cp hd)] at hP1
        exact hk _ _ hq H1 locs1 ls hP1 hS1 hL
  · exact hCk.elim
end TFX
