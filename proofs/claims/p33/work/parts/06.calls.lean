/-! ===== calls of the light machine ===== -/
theorem tf_Pc_blind {D : va_G} {cA : Nat → ClassId} {ad : Nat → Nat} {nc : Nat} {As : List Value} {h : LH} {sz : Nat} : FrameBlind (tf_Pc D cA ad nc As h sz) := by
  intro a U g mk q
  obtain ⟨q0, q1, qP, qK, qX⟩ := q
  exact ⟨q0, q1, qP, va_K.moved (u := U) (U := U.calling g mk a) (Vm.Alike.refl U.vm) qK, tf_SX.same (u := U) (U := U.calling g mk a) rfl qX⟩
theorem tf_catsum {ad : Nat → Nat} (st : List Value) : ((st.map (tf_tr ad)).map fun v => v.category).sum = (st.map Value.category).sum := by
  rw [List.map_map]
  congr 1
  exact List.map_congr_left fun v _ => tf_cat v
section TFC
variable {p : Program} {l : Launch} {e : Env} {R : Room} {s : State} {m : MethodId} {args : Array Value} {below : List Frame} {meth : Method} {c : Code} {QW : State → Prop}
variable {cc : ByteArray} {D : va_G} {cA : Nat → ClassId} {ad : Nat → Nat} {nc nL cells slots : Nat} {own : String} {Ts BW : List Jvm.Cond}
theorem tf_callU {H H0 : Heap} {locs : List Loc} {pc : Nat} {ls : Array Slot} {st0 rest : List Value} {a : Array Value} {A0 A1 : Nat → Prop} {free : Addr → Prop} {Q2 : tf_Q} {ret : Option FieldType}
    (hr : va_Run p l e R s m args below meth c H locs cells slots 0 0 (F0 m pc ls st0) rest (tf_Qc D cA ad nc ret Q2 A1 a) free) (hS : va_S A0 H0 H locs) (hA : ∀ q, q < H.size → A1 q → A0 q) (hf : ∀ q, free q → A0 q)
    (kk : ∀ (v : Value) (h : LH) (H1 : Heap) (locs1 : List Loc), Q2 v h → va_P D vwCl (tf_ws cA ad nc h) H1 → va_S A0 H0 H1 locs1 → W p l e R s m args below meth c H1 locs1 cells slots QW (F0 m (pc + 3) ls ((tf_out ad ret v).toList ++ rest))) : W p l e R s m args below meth c H locs cells slots QW (F0 m pc ls st0) := by
  intro T hT X
  obtain ⟨v, st₀, t, T', L, h0, X', hL, e1, e2, ⟨⟨r, u, hv, hp, hb⟩, hz, hk⟩, st⟩ := hr T hT X
  cases hv
  rw [h0] at hz hk
  obtain ⟨t2, a1, b1⟩ := kk r u T'.heap (locs ++ L) hp (by rw [e1]; exact hb)
    ⟨Nat.le_trans hS.1 (by rw [e1]; exact hz), fun q h1 h2 => by rw [e1, hk q (Nat.lt_of_lt_of_le h1 hS.1) (fun z => h2 (hA q (Nat.lt_of_lt_of_le h1 hS.1) z))]; exact hS.2.1 q h1 h2, fun q hq => by
      rcases List.mem_append.mp hq with h | h
      · exact hS.2.2 q h
      · exact hf _ (hL q h)⟩ T' rfl X'
  exact ⟨t2, st t2 a1, b1⟩
theorem tf_sub {A : Nat → Prop} {H : Heap} {locs : List Loc} {h : LH} (hA : ∀ d, d < nc → A (ad d)) (hA2 : ∀ q, s.heap.size ≤ q → A q) (hS : va_S A s.heap H locs) : ∀ q, va_A (tf_ws cA ad nc h) H.size q → A q := by
  intro q hq
  rcases tf_ws_A.mp hq with ⟨c, hc, rfl⟩ | hq
  · exact hA c hc
  · exact hA2 q (Nat.le_trans hS.1 hq)
theorem tf_pre {A : Nat → Prop} {H : Heap} {locs : List Loc} {h : LH} {As : List Value} (hA : ∀ d, d < nc → A (ad d)) (hA2 : ∀ q, s.heap.size ≤ q → A q) (hK : va_K D vwCl (tf_ty cA) s) (hSX : tf_SX nc ad A s s.heap) (hP : va_P D vwCl (tf_ws cA ad nc h) H) (hS : va_S A s.heap H locs) : ∀ U : State, U.heap = H → s.WarmedH U.vm → tf_Pc D cA ad nc As h H.size (As.map (tf_tr ad)).toArray U := by
  intro U hU hW
  refine ⟨rfl, by rw [hU], by rw [hU]; exact hP, va_K.moved hW.alike hK, ?_⟩
  rw [hU]
  exact ((hSX.kept (fun a h1 h2 => hS.2.1 a h1 h2)).narrow (tf_sub hA hA2 hS)).warm hW
theorem tf_goodBW {y : MethodName} {cc : ByteArray} {maxL : Nat} {ret : Option FieldType} (hG : ∀ w ∈ BW, goodWord w = true) (hsub : ∀ w ∈ BW, w ∈ Ts) (hc : Jvm.Cond.code y cc maxL ret ∈ BW) : GoodIn Ts (Jvm.Cond.code y cc maxL ret :: BW) := by
  intro w hw
  rcases List.mem_cons.mp hw with rfl | hw
  · exact ⟨hsub _ hc, Or.inl rfl⟩
  · exact ⟨hsub w hw, good_of_word (hG w hw)⟩
set_option maxHeartbeats 1000000 in
theorem tf_callV_ok {A : Nat → Prop} {yk : MethodName} {bk : ByteArray} {Lk nk ci d j : Nat} {retk : Option FieldType} {Ck : List Value → LH → tf_Q → Prop} {T : u_T} {N : Nat} {vd : Bool}
    (hx : p.tables.exec = Jvm.exec) (hb : c.code = cc) (hml : c.maxLocals = nL) (hown : s.vm.findClass own = some m.cls) (hts : ∀ w ∈ Ts, w.before args s = true) (hsub : ∀ w ∈ BW, w ∈ Ts) (hK : va_K D vwCl (tf_ty cA) s) (hA : ∀ d, d < nc → A (ad d)) (hA2 : ∀ q, s.heap.size ≤ q → A q) (hSX : tf_SX nc ad A s s.heap) (hG : ∀ w ∈ BW, goodWord w = true)
    (hMk : tf_Met l D cA ad nc yk (Jvm.Cond.code yk bk Lk retk :: BW) (tf_rm d) retk Ck) (hrc : ∀ As h Q, Ck As h Q → tf_rc nc ci Lk As) (hci : ci ≠ 99) (hcl : vwCl[ci]? = some (yk.cls, T, N))
    (hcode : Jvm.Cond.code yk bk Lk retk ∈ BW) (hl : Jvm.Cond.methodLink own j yk ∈ BW) (hin : Jvm.Cond.instanceMethod yk ∈ BW) (hse : Jvm.Cond.selects yk.cls yk yk ∈ BW) (hini : Jvm.Cond.initialized yk.cls ∈ BW)
    (hdd : yk.cls ≠ "java/lang/invoke/MethodHandle" ∧ yk.cls ≠ "java/lang/invoke/VarHandle" ∧ (parseMethodDescriptor yk.desc).map (fun d => d.parameters.length) = some nk) (hR : d + 1 ≤ R.frames ∧ 8 + (Lk + 11) + 32 * d ≤ R.locals) (hvd : vd = retk.isNone) (hcs : cells ≤ R.cells ∧ slots ≤ R.slots)
    {pc : Nat} {L st : List Value} {h : LH} {K : tf_Q} (hd : decode cc pc = .ok (.invokevirtual j, 3)) (hlen : nk + 1 ≤ st.length) (hsum : ((st.drop (nk + 1)).map Value.category).sum ≤ 8) (hCk : Ck (st.take (nk + 1)).reverse h K)
    (hk : ∀ r h, K r h → tf_At (fun H locs g => W p l e R s m args below meth c H locs cells slots QW g) m s.heap D cA ad A nc nL (pc + 3) L (if vd = true then st.drop (nk + 1) else r :: st.drop (nk + 1)) h) : tf_At (fun H locs g => W p l e R s m args below meth c H locs cells slots QW g) m s.heap D cA ad A nc nL pc L st h := by
  intro H locs ls hP hS hL
  obtain ⟨-, hrc⟩ := hrc _ _ _ hCk
  rcases hrc with hrc | hrc
  · exact absurd hrc hci
  generalize hArg : (st.take (nk + 1)).reverse = Arg at hCk hrc
  cases Arg with
  | nil => exact hrc.elim
  | cons v As =>
    cases v with
    | ref b =>
      simp only at hrc
      obtain ⟨hkb, hbn⟩ := hrc
      have htk : st.take (nk + 1) = As.reverse ++ [.ref b] := by
        have := congrArg List.reverse hArg
        simpa using this
      have hst : st = As.reverse ++ .ref b :: st.drop (nk + 1) := by
        conv => lhs; rw [← List.take_append_drop (nk + 1) st, htk]
        simp
      have hAl : As.length = nk := by
        have h1 := congrArg List.length htk
        rw [List.length_take, Nat.min_eq_left hlen] at h1
        simp at h1
        omega
      have hM := hMk (.ref b :: As) h K H.size hCk
      have hts' : ∀ w ∈ BW, w.before args s = true := fun w hw => hts w (hsub w hw)
      have cw : CallW R s args own yk.cls j yk bk Lk retk (Jvm.Cond.code yk bk Lk retk :: BW) (tf_rm d) 0 0 nk :=
        ⟨callB_of nk hts (tf_goodBW hG hsub hcode) rfl rfl rfl (hts' _ hini) (hts' _ hl) hdd hR, hts' _ hin, hts' _ hse⟩
      have hw4 : vwCl[ci]? = some (yk.cls, T, N) := hcl
      have hci8 : ci < 8 := by
        have := (List.getElem?_eq_some_iff.mp hcl).1
        simpa using this
      have hrecv := va_recv hK hP hcl (q0 := b) (a := ad b) (fs := (List.range (tf_Wl ci)).map (tf_fv ad h b)) (by rw [tf_ws_get hbn, tf_E, hkb, if_pos hci8])
      have hstk : st.map (tf_tr ad) = (As.map (tf_tr ad)).reverse ++ .ref (ad b) :: (st.drop (nk + 1)).map (tf_tr ad) := by
        conv => lhs; rw [hst]
        simp [tf_tr]
      have hfin : va_Run p l e R s m args below meth c H locs cells slots 0 0 (F0 m pc ls (st.map (tf_tr ad))) ((st.drop (nk + 1)).map (tf_tr ad)) (tf_Qc D cA ad nc retk K (va_A (tf_ws cA ad nc h) H.size) (Value.ref (ad b) :: As.map (tf_tr ad)).toArray) (va_A (tf_ws cA ad nc h) H.size) :=
        va_runV (As := As.map (tf_tr ad)) (rest := (st.drop (nk + 1)).map (tf_tr ad)) (b := ad b) ⟨hx, hb, hml, hown, hts⟩ hM cw ⟨tf_Pc_blind, hrecv, tf_pre (As := .ref b :: As) hA hA2 hK hSX hP hS⟩ rfl (by simpa using hAl) hL.1 hstk (by show 2 * 0 + _ ≤ 8; rw [tf_catsum]; omega) hd hcs
      refine tf_callU hfin hS (fun q _ hq => tf_sub hA hA2 hS q hq) (tf_sub hA hA2 hS) (fun v h1 H1 locs1 hQ hP1 hS1 => ?_)
      have := hk v h1 hQ H1 locs1 ls hP1 hS1 hL
      cases retk with
      | none =>
        subst hvd
        exact this
      | some rt =>
        subst hvd
        exact this
    | _ => exact hrc.elim
set_option maxHeartbeats 1000000 in
theorem tf_callS_ok {A : Nat → Prop} {yk : MethodName} {bk : ByteArray} {Lk nk d j : Nat} {retk : Option FieldType} {Ck : List Value → LH → tf_Q → Prop} {vd : Bool}
    (hx : p.tables.exec = Jvm.exec) (hb : c.code = cc) (hml : c.maxLocals = nL) (hown : s.vm.findClass own = some m.cls) (hts : ∀ w ∈ Ts, w.before args s = true) (hsub : ∀ w ∈ BW, w ∈ Ts) (hK : va_K D vwCl (tf_ty cA) s) (hA : ∀ d, d < nc → A (ad d)) (hA2 : ∀ q, s.heap.size ≤ q → A q) (hSX : tf_SX nc ad A s s.heap) (hG : ∀ w ∈ BW, goodWord w = true)
    (hMk : tf_Met l D cA ad nc yk (Jvm.Cond.code yk bk Lk retk :: BW) (tf_rm d) retk Ck)
    (hcode : Jvm.Cond.code yk bk Lk retk ∈ BW) (hstt : Jvm.Cond.static yk ∈ BW) (hini : Jvm.Cond.initialized yk.cls ∈ BW) (hlink : Jvm.Cond.methodLink own j yk ∈ BW ∨ ∃ host, va_Nw (.methodLinkNest own j yk host) s)
    (hdd : yk.cls ≠ "java/lang/invoke/MethodHandle" ∧ yk.cls ≠ "java/lang/invoke/VarHandle" ∧ (parseMethodDescriptor yk.desc).map (fun d => d.parameters.length) = some nk) (hR : d + 1 ≤ R.frames ∧ 8 + (Lk + 11) + 32 * d ≤ R.locals) (hvd : vd = retk.isNone) (hcs : cells ≤ R.cells ∧ slots ≤ R.slots)
    {pc : Nat} {L st : List Value} {h : LH} {K : tf_Q} (hd : decode cc pc = .ok (.invokestatic j, 3)) (hlen : nk ≤ st.length) (hsum : ((st.drop nk).map Value.category).sum ≤ 8) (hCk : Ck (st.take nk).reverse h K)
    (hk : ∀ r h, K r h → tf_At (fun H locs g => W p l e R s m args below meth c H locs cells slots QW g) m s.heap D cA ad A nc nL (pc + 3) L (if vd = true then st.drop nk else r :: st.drop nk) h) : tf_At (fun H locs g => W p l e R s m args below meth c H locs cells slots QW g) m s.heap D cA ad A nc nL pc L st h := by
  intro H locs ls hP hS hL
  have hst : st.map (tf_tr ad) = (((st.take nk).reverse).map (tf_tr ad)).reverse ++ (st.drop nk).map (tf_tr ad) := by
    rw [← List.map_reverse, List.reverse_reverse, ← List.map_append, List.take_append_drop]
  have hAl : (((st.take nk).reverse).map (tf_tr ad)).length = nk := by
    simp
    omega
  have hM := hMk (st.take nk).reverse h K H.size hCk
  have hts' : ∀ w ∈ BW, w.before args s = true := fun w hw => hts w (hsub w hw)
  have hfin : va_Run p l e R s m args below meth c H locs cells slots 0 0 (F0 m pc ls (st.map (tf_tr ad))) ((st.drop nk).map (tf_tr ad)) (tf_Qc D cA ad nc retk K (va_A (tf_ws cA ad nc h) H.size) (((st.take nk).reverse).map (tf_tr ad)).toArray) (va_A (tf_ws cA ad nc h) H.size) := by
    rcases hlink with hlink | ⟨host, hlink⟩
    · exact va_runS (As := ((st.take nk).reverse).map (tf_tr ad)) (rest := (st.drop nk).map (tf_tr ad)) ⟨hx, hb, hml, hown, hts⟩ hM ⟨callB_of nk hts (tf_goodBW hG hsub hcode) rfl rfl rfl (hts' _ hini) (hts' _ hlink) hdd hR, hts' _ hstt⟩ ⟨tf_Pc_blind, tf_pre hA hA2 hK hSX hP hS⟩ rfl hAl hL.1 hst (by show 2 * 0 + _ ≤ 8; rw [tf_catsum]; omega) hd hcs
    · exact va_runSN (As := ((st.take nk).reverse).map (tf_tr ad)) (rest := (st.drop nk).map (tf_tr ad)) ⟨hx, hb, hml, hown, hts⟩ hM ⟨va_cnB nk hts (tf_goodBW hG hsub hcode) rfl rfl rfl hlink (hts' _ hini) hdd hR, hts' _ hstt, trivial⟩ ⟨tf_Pc_blind, tf_pre hA hA2 hK hSX hP hS⟩ rfl hAl hL.1 hst (by show 2 * 0 + _ ≤ 8; rw [tf_catsum]; omega) hd hcs
  refine tf_callU hfin hS (fun q _ hq => tf_sub hA hA2 hS q hq) (tf_sub hA hA2 hS) (fun v h1 H1 locs1 hQ hP1 hS1 => ?_)
  have := hk v h1 hQ H1 locs1 ls hP1 hS1 hL
  cases retk with
  | none =>
    subst hvd
    exact this
  | some rt =>
    subst hvd
    exact this
end TFC
