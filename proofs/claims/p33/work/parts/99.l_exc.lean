/-! ===== methods that throw: arc and point, and the law's own arc and point that catch ===== -/
def tb_X8_arc : tf_Bk := [(0, [(.aload_n 0, 1), (.getfield 12, 3), (.iload_n 1, 1), (.invokevirtual 197, 3)]),
  (8, [(.ifCond .ne 11, 3), (.new 200, 3), (.dup, 1), (.invokespecial 202, 3)]),
  (18, [(.athrow, 1)]),
  (19, [(.iload_n 2, 1), (.tableswitch 134 0 7 #[48, 58, 68, 78, 88, 98, 108, 117], 48)]),
  (68, [(.aload_n 0, 1), (.getfield 12, 3), (.getfield 203, 3), (.iload_n 1, 1), (.iaload, 1), (.ireturn, 1)]),
  (78, [(.aload_n 0, 1), (.getfield 12, 3), (.getfield 206, 3), (.iload_n 1, 1), (.iaload, 1), (.ireturn, 1)]),
  (88, [(.aload_n 0, 1), (.getfield 12, 3), (.getfield 209, 3), (.iload_n 1, 1), (.iaload, 1), (.ireturn, 1)]),
  (98, [(.aload_n 0, 1), (.getfield 12, 3), (.getfield 212, 3), (.iload_n 1, 1), (.iaload, 1), (.ireturn, 1)]),
  (108, [(.aload_n 0, 1), (.getfield 12, 3), (.getfield 215, 3), (.iload_n 1, 1), (.iaload, 1), (.ireturn, 1)]),
  (118, [(.aload_n 0, 1), (.getfield 12, 3), (.getfield 218, 3), (.iload_n 1, 1), (.iaload, 1), (.ireturn, 1)]),
  (128, [(.aload_n 0, 1), (.getfield 12, 3), (.iload_n 1, 1), (.invokevirtual 221, 3)]),
  (136, [(.ireturn, 1)]),
  (137, [(.aload_n 0, 1), (.getfield 12, 3), (.iload_n 1, 1), (.invokevirtual 225, 3)]),
  (145, [(.ifCond .le 7, 3), (.iconst 1, 1), (.goto 4, 3)]),
  (152, [(.iconst 0, 1)]),
  (153, [(.ireturn, 1)]),
  (154, [(.new 200, 3), (.dup, 1), (.invokespecial 202, 3)]),
  (161, [(.athrow, 1)])]
theorem ck_X8_arc : tf_Bck cX8_arc 3 tb_X8_arc = true := by decide +kernel
def xt_p_arc : List Nat := [11, 154]
def tb_X8_point : tf_Bk := [(0, [(.aload_n 0, 1), (.getfield 12, 3), (.iload_n 1, 1), (.invokevirtual 228, 3)]),
  (8, [(.ifCond .ne 11, 3), (.new 200, 3), (.dup, 1), (.invokespecial 202, 3)]),
  (18, [(.athrow, 1)]),
  (19, [(.iload_n 2, 1), (.tableswitch 121 0 6 #[44, 54, 64, 81, 94, 103, 112], 44)]),
  (64, [(.aload_n 0, 1), (.getfield 12, 3), (.getfield 231, 3), (.iload_n 1, 1), (.iaload, 1), (.ireturn, 1)]),
  (74, [(.aload_n 0, 1), (.getfield 12, 3), (.getfield 234, 3), (.iload_n 1, 1), (.iaload, 1), (.ireturn, 1)]),
  (84, [(.aload_n 0, 1), (.getfield 12, 3), (.aload_n 0, 1), (.getfield 12, 3), (.getfield 237, 3), (.iload_n 1, 1), (.iaload, 1), (.invokevirtual 240, 3)]),
  (100, [(.ireturn, 1)]),
  (101, [(.aload_n 0, 1), (.getfield 12, 3), (.getfield 243, 3), (.iload_n 1, 1), (.iaload, 1), (.invokestatic 246, 3)]),
  (113, [(.ireturn, 1)]),
  (114, [(.aload_n 0, 1), (.getfield 12, 3), (.iload_n 1, 1), (.invokevirtual 249, 3)]),
  (122, [(.ireturn, 1)]),
  (123, [(.aload_n 0, 1), (.getfield 12, 3), (.iload_n 1, 1), (.invokevirtual 252, 3)]),
  (131, [(.ireturn, 1)]),
  (132, [(.aload_n 0, 1), (.getfield 12, 3), (.iload_n 1, 1), (.invokevirtual 255, 3)]),
  (140, [(.ireturn, 1)]),
  (141, [(.new 200, 3), (.dup, 1), (.invokespecial 202, 3)]),
  (148, [(.athrow, 1)])]
theorem ck_X8_point : tf_Bck cX8_point 3 tb_X8_point = true := by decide +kernel
def xt_p_point : List Nat := [11, 141]
def xt_thr (cc : ByteArray) (pcs : List Nat) : Bool := pcs.all (fun pc => decide (decode cc pc = .ok (.new 200, 3)) && decide (decode cc (pc + 3) = .ok (.dup, 1)) && decide (decode cc (pc + 4) = .ok (.invokespecial 202, 3)) && decide (decode cc (pc + 7) = .ok (.athrow, 1)))
theorem xt_d_arc : xt_thr cX8_arc xt_p_arc = true := by decide +kernel
theorem xt_d_point : xt_thr cX8_point xt_p_point = true := by decide +kernel
def xc_N : String := "java/util/NoSuchElementException"
def xc_up : List String := ["java/lang/RuntimeException", "java/lang/Exception"]
def xc_i (C : String) : MethodName := ⟨C, "<init>", "()V"⟩
def xc_B : List Jvm.Cond := [.declares (xc_i "java/lang/RuntimeException"), .declares (xc_i "java/lang/Exception"), .declares (xc_i Bundle.tN), .castable xc_N xc_N]
def xc_w (U : State) : Prop := va_Nw (.declares (xc_i "java/lang/RuntimeException")) U ∧ va_Nw (.declares (xc_i "java/lang/Exception")) U ∧ va_Nw (.declares (xc_i Bundle.tN)) U ∧ va_Nw (.castable xc_N xc_N) U
def xc_S (A : Nat → Prop) (U : State) (H : Heap) : Prop := xc_w U ∧ vx_Zq Bundle.tN "UNASSIGNED_STACK" Bundle.steD A U H ∧ vx_Zq Bundle.tN "SUPPRESSED_SENTINEL" Bundle.listD A U H
theorem xc_S.warm {A : Nat → Prop} {u U : State} {H : Heap} (hW : u.WarmedH U.vm) (h : xc_S A u H) : xc_S A U H := ⟨⟨h.1.1.warmD hW, h.1.2.1.warmD hW, h.1.2.2.1.warmD hW, h.1.2.2.2.warmC hW⟩, h.2.1.moved hW.alike, h.2.2.moved hW.alike⟩
theorem xc_S.same {A : Nat → Prop} {u U : State} {H : Heap} (hv : u.vm = U.vm) (h : xc_S A u H) : xc_S A U H := ⟨⟨h.1.1.same rfl hv, h.1.2.1.same rfl hv, h.1.2.2.1.same rfl hv, h.1.2.2.2.same rfl hv⟩, h.2.1.moved (by rw [hv]; exact Vm.Alike.refl _), h.2.2.moved (by rw [hv]; exact Vm.Alike.refl _)⟩
theorem xc_S.kept {A : Nat → Prop} {U : State} {H H1 : Heap} (h : xc_S A U H) (hq : ∀ a : Nat, a < H.size → ¬ A a → H1[a]? = H[a]?) : xc_S A U H1 := ⟨h.1, h.2.1.kept hq, h.2.2.kept hq⟩
theorem xc_S.narrow {A B : Nat → Prop} {U : State} {H : Heap} (h : xc_S A U H) (hAB : ∀ q, B q → A q) : xc_S B U H := ⟨h.1, h.2.1.narrow hAB, h.2.2.narrow hAB⟩
theorem xc_x1 : ∀ w ∈ (vx_at0 (tf_own 6) 202 xc_N xc_up).filter goodWord, w ∈ lw_tbl := by decide +kernel
theorem xc_x0 : ∀ w ∈ (vx_at0 (tf_own 6) 202 xc_N xc_up).filter goodWord, w ∈ tf_BW := fun w hw => List.mem_filter.mpr ⟨xc_x1 w hw, (List.mem_filter.mp hw).2⟩
theorem xc_ng : ∀ w ∈ (vx_at0 (tf_own 6) 202 xc_N xc_up).filter (fun w => !goodWord w), w ∈ xc_B := by decide +kernel
theorem xc_good : ∀ w ∈ Jvm.Cond.classLink (tf_own 6) 200 xc_N :: Jvm.Cond.initialized xc_N :: vx_at0 (tf_own 6) 202 xc_N xc_up, vx_ot w = true := by decide +kernel
theorem xc_hk : Jvm.Cond.classLink (tf_own 6) 200 xc_N ∈ tf_BW := tf_isw_in (i := 1055) (by decide +kernel)
theorem xc_hi : Jvm.Cond.initialized xc_N ∈ tf_BW := tf_isw_in (i := 128) (by decide +kernel)
theorem xc_fit : Bundle.fit xc_N = true := by decide +kernel
theorem xc_fits : ∀ n ∈ xc_up, Bundle.fit n = true := by decide +kernel
/-- where a method throws, what holds then -/
def xt_E (pcs : List Nat) (QX : LH → Prop) : tf_Hk := fun pc => if pcs.contains pc = true then some (fun _ st h _ _ => st = [] ∧ QX h) else none
/-- a method of the class that returns (Q) or throws (QX) -/
def xt_Cd (B : tf_Bk) (pcs : List Nat) (As : List Value) (h : LH) (Q : tf_Q) (QX : LH → Prop) : Prop := tf_rc 298 6 3 As ∧ tf_LW 298 (tf_Cd 298 6) (tf_F 6) (tf_M 6) (tf_I 6) (xt_E pcs QX) 1 B Q 0 (tf_en 3 As) [] h
def xt_rm : Room := { frames := 8, cells := 1, slots := 6, locals := 300 }
def xh_rm : Room := { frames := 9, cells := 1, slots := 6, locals := 330 }
def xt_Pc (D : va_G) (cA : Nat → ClassId) (ad : Nat → Nat) (As : List Value) (h : LH) (sz : Nat) : Array Value → State → Prop := fun a U => tf_Pc D cA ad 298 As h sz a U ∧ xc_S (va_A (tf_ws cA ad 298 h) sz) U U.heap
theorem xt_blind {D : va_G} {cA : Nat → ClassId} {ad : Nat → Nat} {As : List Value} {h : LH} {sz : Nat} : FrameBlind (xt_Pc D cA ad As h sz) := by
  intro a U g mk q
  exact ⟨tf_Pc_blind a U g mk q.1, xc_S.same (u := U) (U := U.calling g mk a) rfl q.2⟩
def xt_X (D : va_G) (cA : Nat → ClassId) (ad : Nat → Nat) (QX : LH → Prop) (A : Nat → Prop) : String → State → State → Prop := vx_X (S := LH) QX (fun E h t => E = xc_N ∧ va_P D vwCl (tf_ws cA ad 298 h) t.heap) A
section XTM
variable {l : Launch} {D : va_G} {cA : Nat → ClassId} {ad : Nat → Nat}
set_option maxHeartbeats 4000000 in
set_option maxRecDepth 100000 in
theorem xt_met {y : MethodName} {cc : ByteArray} {B : tf_Bk} {pcs : List Nat} (hl : l.stackTraces = false) (hj : tf_inj ad 298) (hy : y.cls = tf_own 6) (hB : tf_Bck cc 3 B = true) (hpcs : xt_thr cc pcs = true) {As : List Value} {h : LH} {Q : tf_Q} {QX : LH → Prop} (sz : Nat) (hq : xt_Cd B pcs As h Q QX) :
    vx_Met l y (Jvm.Cond.code y cc 3 (some .int) :: tf_BW) xt_rm (xt_Pc D cA ad As h sz) (tf_Qc D cA ad 298 (some .int) Q (va_A (tf_ws cA ad 298 h) sz)) (xt_X D cA ad QX (va_A (tf_ws cA ad 298 h) sz)) 1 6 (va_A (tf_ws cA ad 298 h) sz) := by
  obtain ⟨hrc, hLW⟩ := hq
  refine vx_ofW (cc := cc) (maxL := 3) (ret := some .int) (by rw [hy]; decide +kernel) rfl ?_
  intro p e s m args below meth c s₁ Bd hml ht hv
  obtain ⟨⟨rfl, hsz, hP, hK, hSX⟩, hxc⟩ := hv
  have hx := Bd.exec
  have hb := Bd.bytes
  have hr := Bd.returns
  have hts := atoms_spec (ws := Jvm.Cond.code y cc 3 (some .int) :: tf_BW) Bd.pre
  have hown : s.vm.findClass y.cls = some m.cls := findClass_of_methodNamed Bd.named
  have hlocks := Bd.notSynchronized
  subst hsz
  rw [hy] at hown
  rw [lg_entry_eq]
  have hsub : ∀ w ∈ tf_BW, w ∈ Jvm.Cond.code y cc 3 (some .int) :: tf_BW := fun w hw => List.mem_cons_of_mem _ hw
  have hA : ∀ d, d < 298 → va_A (tf_ws cA ad 298 h) s.heap.size (ad d) := fun d hd => tf_ws_A.mpr (Or.inl ⟨d, hd, rfl⟩)
  have hA2 : ∀ q, s.heap.size ≤ q → va_A (tf_ws cA ad 298 h) s.heap.size q := fun q hq => Or.inr hq
  refine tf_LW_ok (A := va_A (tf_ws cA ad 298 h) s.heap.size) (nc := 298) (nL := 3) (own := tf_own 6) (Ts := Jvm.Cond.code y cc 3 (some .int) :: tf_BW) hx hb hown hts hK hj hA ?_ ?_ ?_ ?_ ?_ ?_ ?_ ?_ hB hLW s.heap [] _ hP va_S.rf (tf_rel_en hrc.1)
  · intro j ci q hf
    obtain ⟨C, T, N, ty, h1, h2, h3, h4, h5, h6, h7⟩ := tf_F_ok (o := 6) (by decide) j ci q hf
    exact ⟨C, T, N, ty, h1, h2, h3, h4, hsub _ h5, fun w hw => hsub _ (h6 w hw), h7⟩
  · intro j v hi
    exact hts _ (hsub _ (tf_I_ok (o := 6) (by decide) hi))
  · intro j v hi
    exact hts _ (hsub _ (tf_J_ok (o := 6) (by decide) hi))
  · exact tf_hC (o := 6) (d := 6) (by decide) hx hb hml hown hts hsub hK hj hA hA2 hSX ⟨by show 6 + 1 ≤ 8; decide, by show 32 * (6 + 1) ≤ 300; decide⟩ ⟨Nat.zero_le _, Nat.zero_le _⟩
  · intro pc n i f L st h2 k X hE hd hf _ _
    unfold xt_E at hE
    split at hE
    · rename_i hmem
      cases hE
      obtain ⟨rfl, hQX⟩ := hf
      intro H locs ls hP2 hS hL
      have hm : pc ∈ pcs := by simpa using hmem
      have hd4 := List.all_eq_true.mp hpcs pc hm
      simp only [Bool.and_eq_true, decide_eq_true_eq] at hd4
      obtain ⟨⟨⟨d0, d3⟩, d4⟩, d7⟩ := hd4
      have hat : ∀ w ∈ vx_at0 (tf_own 6) 202 xc_N xc_up, w.before (As.map (tf_tr ad)).toArray s = true :=
        vx_hat (B := xc_B) (fun w hw => hts _ (hsub _ (xc_x0 w hw))) xc_ng (vx_c (va_Nw.use rfl hxc.1.1) (vx_c (va_Nw.use rfl hxc.1.2.1) (vx_c (va_Nw.use rfl hxc.1.2.2.1) (vx_c (va_Nw.use rfl hxc.1.2.2.2) vx_n))))
      exact vx_throw0 (A := va_A (tf_ws cA ad 298 h) s.heap.size) (own := tf_own 6) (cls := xc_N) (names := xc_up) (ik := 200) (ic := 202) (mc := 1) (ms := 6) hx hb hl hown xc_fit xc_fits (hts _ (hsub _ xc_hk)) (hts _ (hsub _ xc_hi)) hat xc_good hxc.2.1 hxc.2.2 hS (hL.1.trans hml.symm) d0 d3 d4 d7
        (fun x hx => (ht x hx).elim) (by show 2 + 3 < 8; decide) (by show 0 + (13 * (2 + 1) + 42) ≤ 300; decide) (by show 0 + 1 ≤ 1; decide) (by show 0 + 6 ≤ 6; decide) hlocks
        (fun t _ hz hkp => ⟨h2, hQX, ⟨rfl, hP2.kept (fun k q hq => hkp q.1 (hP2 k q hq).lt)⟩, ⟨Nat.le_trans hS.1 hz, fun q h1 h2 => (hkp q (Nat.lt_of_lt_of_le h1 hS.1)).trans (hS.2.1 q h1 h2)⟩⟩) hS.2.2 (by decide) (by decide)
    · cases hE
  · intro v h2 pc L hdc hrb H locs ls hP2 hS hL
    obtain ⟨-, hQ⟩ := hrb
    refine W.widen (k := 1) (n := 6) (by decide) (by decide) (vx_ret ?_)
    exact W.iret hx hb hr (fun t ht hW => ⟨⟨.int v, h2, rfl, hQ, by rw [ht]; exact hP2⟩, hS.F ht⟩) hS.2.2 hdc
  · intro h2 pc L hdc hrb
    exact absurd hrb.1 (by decide)
  · intro v h2 pc L hdc hv hrb
    exact absurd hrb.1 (by decide)
end XTM
section XTC
variable {p : Program} {l : Launch} {e : Env} {R : Room} {s : State} {m : MethodId} {args : Array Value} {below : List Frame} {meth : Method} {c : Code} {QW : State → Prop}
variable {cc : ByteArray} {D : va_G} {cA : Nat → ClassId} {ad : Nat → Nat} {nL cells slots mc ms : Nat} {own : String} {Ts : List Jvm.Cond}
/-- behind a call that returns or throws -/
theorem xt_callU {H H0 : Heap} {locs : List Loc} {pc : Nat} {ls : Array Slot} {st0 rest : List Value} {a : Array Value} {A0 A1 : Nat → Prop} {free : Addr → Prop} {Q2 : tf_Q} {QX : LH → Prop} {ret : Option FieldType}
    (hr : vx_Run p l e R s m args below meth c H locs cells slots mc ms (F0 m pc ls st0) rest (tf_Qc D cA ad 298 ret Q2 A1 a) (xt_X D cA ad QX A1) free) (hS : va_S A0 H0 H locs) (hA : ∀ q, q < H.size → A1 q → A0 q) (hf : ∀ q, free q → A0 q)
    (kk : ∀ (v : Value) (h : LH) (H1 : Heap) (locs1 : List Loc), Q2 v h → va_P D vwCl (tf_ws cA ad 298 h) H1 → va_S A0 H0 H1 locs1 → W p l e R s m args below meth c H1 locs1 (cells + mc) (slots + ms) QW (F0 m (pc + 3) ls ((tf_out ad ret v).toList ++ rest)))
    (kx : ∀ (ce : Cell) (q9 : Addr) (h : LH) (H1 : Heap) (locs1 : List Loc), QX h → va_P D vwCl (tf_ws cA ad 298 h) H1 → va_S A0 H0 H1 locs1 → H1[q9]? = some ce → ce.vm = .none → s.vm.findClass xc_N = some ce.cls → vx_W p l e R s m args below meth c H1 locs1 (cells + mc) (slots + ms) QW (F0 m pc ls rest) q9) : W p l e R s m args below meth c H locs cells slots QW (F0 m pc ls st0) := by
  intro T hT X
  rcases hr T hT X with ⟨v, st₀, t, T', L, h0, X', hL, e1, e2, ⟨⟨r, u, hv, hp, hb⟩, hF⟩, st⟩ | ⟨q, st₀, t, T', L, E, ce, h0, X', hL, e1, e2, ⟨u, hp, ⟨hE, hb⟩, hF⟩, hce, hcv, hcl, st⟩
  · cases hv
    obtain ⟨k1, k2, k3⟩ := vx_keep h0 e1 hS hA hf hL hF
    obtain ⟨t2, a1, b1⟩ := kk r u T'.heap (locs ++ L) hp (by rw [e1]; exact hb) k3 T' rfl X'
    exact ⟨t2, st t2 a1, b1⟩
  · subst hE
    obtain ⟨k1, k2, k3⟩ := vx_keep h0 e1 hS hA hf hL hF
    obtain ⟨t2, a1, b1⟩ := kx ce q u T'.heap (locs ++ L) hp (by rw [e1]; exact hb) k3 (by rw [e1]; exact hce) hcv hcl T' rfl X'
    exact ⟨t2, st.trans a1, b1⟩
theorem xt_pre {A : Nat → Prop} {H : Heap} {locs : List Loc} {h : LH} {As : List Value} (hA : ∀ d, d < 298 → A (ad d)) (hA2 : ∀ q, s.heap.size ≤ q → A q) (hK : va_K D vwCl (tf_ty cA) s) (hSX : tf_SX 298 ad A s s.heap) (hxc : xc_S A s s.heap) (hP : va_P D vwCl (tf_ws cA ad 298 h) H) (hS : va_S A s.heap H locs) : ∀ U : State, U.heap = H → s.WarmedH U.vm → xt_Pc D cA ad As h H.size (As.map (tf_tr ad)).toArray U := by
  intro U hU hW
  refine ⟨tf_pre hA hA2 hK hSX hP hS U hU hW, ?_⟩
  rw [hU]
  exact ((hxc.kept (fun a h1 h2 => hS.2.1 a h1 h2)).narrow (tf_sub hA hA2 hS)).warm hW
end XTC
/-! the law's own arc and point -/
def xh_b0 : List (Instr × Nat) := [(.aload_n 3, 1), (.iconst 0, 1), (.aload_n 0, 1), (.iload_n 1, 1), (.iload_n 2, 1)]
def xh_b8 : List (Instr × Nat) := [(.i2l, 1), (.lastore, 1), (.goto 7, 3)]
def xh_b15 : List (Instr × Nat) := [(.iconst 1, 1), (.ireturn, 1)]
def xh_b17 : List (Instr × Nat) := [(.iconst 0, 1), (.ireturn, 1)]
def xh_ck (cc : ByteArray) (j : Nat) : Bool := tf_bck cc 5 0 xh_b0 && tf_bck cc 5 8 xh_b8 && tf_bck cc 5 15 xh_b15 && tf_bck cc 5 17 xh_b17 && decide (decode cc 5 = .ok (.invokevirtual j, 3)) && decide (decode cc 13 = .ok (.astore 4, 2))
theorem xh_ck_arc : xh_ck cL_arc 7 = true := by decide +kernel
theorem xh_ck_point : xh_ck cL_point 15 = true := by decide +kernel
theorem xh_lk : Jvm.Cond.classLink (tf_own 10) 13 xc_N ∈ tf_BW := tf_isw_in (i := 1050) (by decide +kernel)
/-- the words of a throwing method, as the law's own one calls it -/
def xh_w (y : MethodName) (cc : ByteArray) (j : Nat) : Prop := Jvm.Cond.methodLink (tf_own 10) j y ∈ tf_BW ∧ Jvm.Cond.instanceMethod y ∈ tf_BW ∧ Jvm.Cond.selects (tf_own 6) y y ∈ tf_BW ∧ Jvm.Cond.code y cc 3 (some .int) ∈ tf_BW ∧ (y.cls ≠ "java/lang/invoke/MethodHandle" ∧ y.cls ≠ "java/lang/invoke/VarHandle" ∧ (parseMethodDescriptor y.desc).map (fun d => d.parameters.length) = some 2)
theorem xh_w_arc : xh_w yX8_arc cX8_arc 7 := ⟨tf_isw_in (i := 1051) (by decide +kernel), tf_isw_in (i := 1052) (by decide +kernel), tf_isw_in (i := 1053) (by decide +kernel), tf_isw_in (i := 1054) (by decide +kernel), by decide, by decide, by decide +kernel⟩
theorem xh_w_point : xh_w yX8_point cX8_point 15 := ⟨tf_isw_in (i := 1121) (by decide +kernel), tf_isw_in (i := 1122) (by decide +kernel), tf_isw_in (i := 1123) (by decide +kernel), tf_isw_in (i := 1124) (by decide +kernel), by decide, by decide, by decide +kernel⟩
theorem xh_xini : Jvm.Cond.initialized (tf_own 6) ∈ tf_BW := tf_isw_in (i := 108) (by decide +kernel)

