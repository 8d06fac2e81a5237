/-! ===== the law's own arc and point: they catch ===== -/
section XHM
variable {l : Launch} {D : va_G} {cA : Nat → ClassId} {ad : Nat → Nat}
set_option maxHeartbeats 4000000 in
set_option maxRecDepth 100000 in
theorem xh_met {yh y : MethodName} {ch cc : ByteArray} {B : tf_Bk} {pcs : List Nat} {j : Nat} (hl : l.stackTraces = false) (hj : tf_inj ad 298) (hyh : yh.cls = tf_own 10) (hck : xh_ck ch j = true) (hw : xh_w y cc j) (hy : y.cls = tf_own 6) (hB : tf_Bck cc 3 B = true) (hpcs : xt_thr cc pcs = true) {x1 x2 : Int32} {h : LH} {Q : tf_Q} (sz : Nat)
    (hq : xt_Cd B pcs [.ref 240, .int x1, .int x2] h (fun v g => ∃ a : Int32, v = .int a ∧ Q (.int 0) (g.1, tf_upL g.2 297 0 a.toInt64)) (fun g => Q (.int 1) g)) :
    vx_Met l yh (Jvm.Cond.codeWith yh ch 5 (some .int) [(0, 10, 13, 13)] :: tf_BW) xh_rm (xt_Pc D cA ad [.ref 240, .int x1, .int x2, .ref 297] h sz) (tf_Qc D cA ad 298 (some .int) Q (va_A (tf_ws cA ad 298 h) sz)) (fun _ _ _ => False) 1 6 (va_A (tf_ws cA ad 298 h) sz) := by
  simp only [xh_ck, Bool.and_eq_true, decide_eq_true_eq] at hck
  obtain ⟨⟨⟨⟨⟨k0, k8⟩, k15⟩, k17⟩, d5⟩, d13⟩ := hck
  refine vx_ofWH (cc := ch) (maxL := 5) (ret := some .int) (hh := [(0, 10, 13, 13)]) (by rw [hyh]; decide +kernel) rfl ?_
  intro p e s m args below meth c s₁ Bd hml hv
  obtain ⟨⟨rfl, hsz, hP, hK, hSX⟩, hxc⟩ := hv
  have hx := Bd.exec
  have hb := Bd.bytes
  have hr := Bd.returns
  have hts := atoms_spec (ws := Jvm.Cond.codeWith yh ch 5 (some .int) [(0, 10, 13, 13)] :: tf_BW) Bd.pre
  have hown : s.vm.findClass yh.cls = some m.cls := findClass_of_methodNamed Bd.named
  have hlocks := Bd.notSynchronized
  have htab := vx_table (x := yh) Bd (hts _ List.mem_cons_self)
  subst hsz
  rw [hyh] at hown
  rw [lg_entry_eq]
  have hsub : ∀ w ∈ tf_BW, w ∈ Jvm.Cond.codeWith yh ch 5 (some .int) [(0, 10, 13, 13)] :: tf_BW := fun w hw => List.mem_cons_of_mem _ hw
  have hA : ∀ d, d < 298 → va_A (tf_ws cA ad 298 h) s.heap.size (ad d) := fun d hd => tf_ws_A.mpr (Or.inl ⟨d, hd, rfl⟩)
  have hA2 : ∀ q, s.heap.size ≤ q → va_A (tf_ws cA ad 298 h) s.heap.size q := fun q hq => Or.inr hq
  have blk : ∀ (k n : Nat) (Y : tf_X) (b : List (Instr × Nat)) (pc : Nat) (L st : List Value) (h2 : LH), k ≤ 1 → n ≤ 6 →
      (∀ pc L st h3, Y pc L st h3 → tf_At (fun H locs g => W p l e (headSpec (Jvm.Cond.codeWith yh ch 5 (some .int) [(0, 10, 13, 13)] :: tf_BW) xh_rm).room s m (([.ref 240, .int x1, .int x2, .ref 297] : List Value).map (tf_tr ad)).toArray below meth c H locs k n (vx_MQ below (tf_Qc D cA ad 298 (some .int) Q (va_A (tf_ws cA ad 298 h) s.heap.size)) (fun _ _ _ => False) (([.ref 240, .int x1, .int x2, .ref 297] : List Value).map (tf_tr ad)).toArray s 1 6 (va_A (tf_ws cA ad 298 h) s.heap.size)) g) m s.heap D cA ad (va_A (tf_ws cA ad 298 h) s.heap.size) 298 5 pc L st h3) →
      tf_bck ch 5 pc b = true → tf_wp 298 (fun _ _ _ _ => False) (tf_F 10) (tf_M 10) (tf_I 10) (fun _ => none) 1 Q Y pc b L st h2 →
      tf_At (fun H locs g => W p l e (headSpec (Jvm.Cond.codeWith yh ch 5 (some .int) [(0, 10, 13, 13)] :: tf_BW) xh_rm).room s m (([.ref 240, .int x1, .int x2, .ref 297] : List Value).map (tf_tr ad)).toArray below meth c H locs k n (vx_MQ below (tf_Qc D cA ad 298 (some .int) Q (va_A (tf_ws cA ad 298 h) s.heap.size)) (fun _ _ _ => False) (([.ref 240, .int x1, .int x2, .ref 297] : List Value).map (tf_tr ad)).toArray s 1 6 (va_A (tf_ws cA ad 298 h) s.heap.size)) g) m s.heap D cA ad (va_A (tf_ws cA ad 298 h) s.heap.size) 298 5 pc L st h2 := by
    intro k n Y b pc L st h2 hk1 hn6 hY hbck hwp
    refine tf_wp_ok (nc := 298) (nL := 5) (own := tf_own 10) (Ts := Jvm.Cond.codeWith yh ch 5 (some .int) [(0, 10, 13, 13)] :: tf_BW) (C := fun _ _ _ _ => False) (F := tf_F 10) (M := tf_M 10) (I := tf_I 10) (E := fun _ => none) (rk := 1) (Q := Q) hx hb hown hts hK hj hA ?_ ?_ ?_ ?_ ?_ ?_ ?_ ?_ hY b pc L st h2 hbck hwp
    · intro j ci q hf
      obtain ⟨C, T, N, ty, h1, h2, h3, h4, h5, h6, h7⟩ := tf_F_ok (o := 10) (by decide) j ci q hf
      exact ⟨C, T, N, ty, h1, h2, h3, h4, hsub _ h5, fun w hw => hsub _ (h6 w hw), h7⟩
    · intro j v hi
      exact hts _ (hsub _ (tf_I_ok (o := 10) (by decide) hi))
    · intro j v hi
      exact hts _ (hsub _ (tf_J_ok (o := 10) (by decide) hi))
    · intro pc i j j2 kn na vd L st h K _ _ _ _ _ _ hCk _
      exact hCk.elim
    · intro pc n i f L st h2 k X hE
      cases hE
    · intro v h2 pc L hdc hrb H locs ls hP2 hS hL
      obtain ⟨-, hQ⟩ := hrb
      refine W.widen (k := 1) (n := 6) hk1 hn6 (vx_ret ?_)
      exact W.iret hx hb hr (fun t ht hW => ⟨⟨.int v, h2, rfl, hQ, by rw [ht]; exact hP2⟩, hS.F ht⟩) hS.2.2 hdc
    · intro h2 pc L hdc hrb
      exact absurd hrb.1 (by decide)
    · intro v h2 pc L hdc hv hrb
      exact absurd hrb.1 (by decide)
  have hstart := blk 0 0 (fun pc L st h3 => tf_At (fun H locs g => W p l e (headSpec (Jvm.Cond.codeWith yh ch 5 (some .int) [(0, 10, 13, 13)] :: tf_BW) xh_rm).room s m (([.ref 240, .int x1, .int x2, .ref 297] : List Value).map (tf_tr ad)).toArray below meth c H locs 0 0 (vx_MQ below (tf_Qc D cA ad 298 (some .int) Q (va_A (tf_ws cA ad 298 h) s.heap.size)) (fun _ _ _ => False) (([.ref 240, .int x1, .int x2, .ref 297] : List Value).map (tf_tr ad)).toArray s 1 6 (va_A (tf_ws cA ad 298 h) s.heap.size)) g) m s.heap D cA ad (va_A (tf_ws cA ad 298 h) s.heap.size) 298 5 pc L st h3) xh_b0 0 [.ref 240, .int x1, .int x2, .ref 297, tf_z] [] h (by decide) (by decide) (fun _ _ _ _ q => q) k0
  refine hstart ?_ s.heap [] _ hP va_S.rf (tf_rel_en (As := [.ref 240, .int x1, .int x2, .ref 297]) (n := 5) (by show 4 ≤ 5; decide))
  show tf_At _ m s.heap D cA ad _ 298 5 5 [.ref 240, .int x1, .int x2, .ref 297, tf_z] [.int x2, .int x1, .ref 240, .int 0, .ref 297] h
  intro H locs ls hP hS hL
  have hts' : ∀ w ∈ tf_BW, w.before (([.ref 240, .int x1, .int x2, .ref 297] : List Value).map (tf_tr ad)).toArray s = true := fun w hw => hts w (hsub w hw)
  have hM := xt_met (D := D) (cA := cA) hl hj hy hB hpcs H.size hq
  have cw : CallW (headSpec (Jvm.Cond.codeWith yh ch 5 (some .int) [(0, 10, 13, 13)] :: tf_BW) xh_rm).room s (([.ref 240, .int x1, .int x2, .ref 297] : List Value).map (tf_tr ad)).toArray (tf_own 10) (tf_own 6) j y cc 3 (some .int) (Jvm.Cond.code y cc 3 (some .int) :: tf_BW) xt_rm 1 6 2 :=
    ⟨callB_of 2 hts (tf_goodBW tf_BW_good hsub hw.2.2.2.1) rfl rfl rfl (by rw [hy]; exact hts' _ xh_xini) (hts' _ hw.1) hw.2.2.2.2 ⟨by show 8 + 1 ≤ 9; decide, by show 8 + (3 + 11) + 300 ≤ 330; decide⟩, hts' _ hw.2.1, hts' _ hw.2.2.1⟩
  have hrecv := va_recv (ci := 6) (q := (RX8, TX8, 13)) hK hP rfl (q0 := 240) (a := ad 240) (fs := (List.range (tf_Wl 6)).map (tf_fv ad h 240)) (by rw [tf_ws_get (by decide), tf_E, show tf_K 240 = 6 by decide +kernel, if_pos (by decide)])
  have hrun : vx_Run p l e (headSpec (Jvm.Cond.codeWith yh ch 5 (some .int) [(0, 10, 13, 13)] :: tf_BW) xh_rm).room s m (([.ref 240, .int x1, .int x2, .ref 297] : List Value).map (tf_tr ad)).toArray below meth c H locs 0 0 1 6 (F0 m 5 ls (([.int x2, .int x1, .ref 240, .int 0, .ref 297] : List Value).map (tf_tr ad))) [.int 0, .ref (ad 297)] (tf_Qc D cA ad 298 (some .int) (fun v g => ∃ a : Int32, v = .int a ∧ Q (.int 0) (g.1, tf_upL g.2 297 0 a.toInt64)) (va_A (tf_ws cA ad 298 h) H.size) (Value.ref (ad 240) :: [.int x1, .int x2]).toArray) (xt_X D cA ad (fun g => Q (.int 1) g) (va_A (tf_ws cA ad 298 h) H.size)) (va_A (tf_ws cA ad 298 h) H.size) :=
    vx_runV (As := [.int x1, .int x2]) (rest := [.int 0, .ref (ad 297)]) (b := ad 240) ⟨hx, hb, hml, hown, hts⟩ hM cw ⟨xt_blind, hrecv, xt_pre (As := [.ref 240, .int x1, .int x2]) hA hA2 hK hSX hxc hP hS⟩ rfl rfl hL.1 rfl (by show 2 * 0 + 2 ≤ 8; decide) d5 ⟨by show 0 + 1 ≤ 1; decide, by show 0 + 6 ≤ 6; decide⟩
  refine xt_callU hrun hS (fun q _ hq => tf_sub hA hA2 hS q hq) (tf_sub hA hA2 hS) (fun v h1 H1 locs1 hQ hP1 hS1 => ?_) (fun ce q9 h1 H1 locs1 hQX hP1 hS1 hce hcv hcl => ?_)
  · obtain ⟨a, rfl, hQ⟩ := hQ
    have h17 := blk 1 6 (fun _ _ _ _ => False) xh_b17 17 [.ref 240, .int x1, .int x2, .ref 297, tf_z] [] (h1.1, tf_upL h1.2 297 0 a.toInt64) (Nat.le_refl _) (Nat.le_refl _) (fun _ _ _ _ q => q.elim) k17 ⟨trivial, hQ⟩
    have h8 := blk 1 6 _ xh_b8 8 [.ref 240, .int x1, .int x2, .ref 297, tf_z] [.int a, .int 0, .ref 297] h1 (Nat.le_refl _) (Nat.le_refl _) (fun _ _ _ _ q => q) k8 ⟨⟨by decide +kernel, by decide, (show ¬ ((0 : Int32) < 0 ∨ tf_N 297 ≤ (0 : Int32).toNatClampNeg) by decide +kernel)⟩, h17⟩
    exact h8 H1 locs1 ls hP1 hS1 hL
  · refine vx_catch (own := tf_own 10) (name := xc_N) (E := xc_N) hown [] ⟨0, 10, 13, 13⟩ [] (by rw [htab]; rfl) (fun z hz => by cases hz) (by decide) (by decide) (hts' _ xh_lk) (va_Nw.use rfl hxc.1.2.2.2) hce hcv hcl ?_
    have hl0 : lv_has ls 5 [(0, .ref (ad 240)), (1, .int x1), (2, .int x2), (3, .ref (ad 297))] := tf_rel_has hL
    refine lv_astore (i := 4) (lv' := [(4, .ref q9), (0, .ref (ad 240)), (1, .int x1), (2, .int x2), (3, .ref (ad 297))]) hx hb d13 hl0 (by decide) rfl (fun ls' hl' => ?_)
    have h15 := blk 1 6 (fun _ _ _ _ => False) xh_b15 15 [.ref 240, .int x1, .int x2, .ref 297, tf_z] [] h1 (Nat.le_refl _) (Nat.le_refl _) (fun _ _ _ _ q => q.elim) k15 ⟨trivial, hQX⟩
    refine h15 H1 locs1 ls' hP1 hS1 ⟨hl'.1, hl'.2.1, rfl, fun i v hi hz => ?_⟩
    match i, hi with
    | 0, hi => cases hi; exact lv_at hl' 1 rfl
    | 1, hi => cases hi; exact lv_at hl' 2 rfl
    | 2, hi => cases hi; exact lv_at hl' 3 rfl
    | 3, hi => cases hi; exact lv_at hl' 4 rfl
    | 4, hi => cases hi; exact absurd rfl hz
    | n + 5, hi => simp at hi
end XHM
/-! ===== where the law calls them ===== -/
theorem xl_hi : Jvm.Cond.initialized (tf_own 10) ∈ tf_BW := tf_isw_in (i := 107) (by decide +kernel)
/-- the words of the law's own method -/
def xl_w (yh : MethodName) (ch : ByteArray) (i : Nat) : Prop := Jvm.Cond.methodLink (tf_own 10) i yh ∈ tf_BW ∧ Jvm.Cond.static yh ∈ tf_BW ∧ Jvm.Cond.codeWith yh ch 5 (some .int) [(0, 10, 13, 13)] ∈ tf_BW ∧ (yh.cls ≠ "java/lang/invoke/MethodHandle" ∧ yh.cls ≠ "java/lang/invoke/VarHandle" ∧ (parseMethodDescriptor yh.desc).map (fun d => d.parameters.length) = some 4)
theorem xl_w_arc : xl_w yL_arc cL_arc 88 := ⟨tf_isw_in (i := 1047) (by decide +kernel), tf_isw_in (i := 1048) (by decide +kernel), tf_isw_in (i := 1049) (by decide +kernel), by decide, by decide, by decide +kernel⟩
theorem xl_w_point : xl_w yL_point cL_point 94 := ⟨tf_isw_in (i := 1118) (by decide +kernel), tf_isw_in (i := 1119) (by decide +kernel), tf_isw_in (i := 1120) (by decide +kernel), by decide, by decide, by decide +kernel⟩
theorem xl_d_arc : decode code 614 = .ok (.invokestatic 88, 3) := by decide +kernel
theorem xl_d_point : decode code 654 = .ok (.invokestatic 94, 3) := by decide +kernel
theorem xc_start {s : State} {b : Nat} (hts : ∀ w ∈ lw_tbl, w.before #[Value.ref b] s = true) (hg : (Jvm.Cond.and given_1 narrow_1).before #[Value.ref b] s = true) : xc_S (fun q : Nat => s.heap.size ≤ q) s s.heap := by
  have hs := flat_of_before _ hg
  have hini : (Jvm.Cond.initialized Bundle.tN).before #[Value.ref b] s = true := hts _ (List.mem_of_getElem? (i := 125) (by decide +kernel))
  refine ⟨⟨va_Nw.of rfl (hts _ (List.mem_of_getElem? (i := 1058) (by decide +kernel))), va_Nw.of rfl (hts _ (List.mem_of_getElem? (i := 1060) (by decide +kernel))), va_Nw.of rfl (hts _ (List.mem_of_getElem? (i := 1062) (by decide +kernel))), va_Nw.of rfl (hts _ (List.mem_of_getElem? (i := 1057) (by decide +kernel)))⟩, ?_, ?_⟩
  · exact vx_Zqof (args := #[Value.ref b]) (hts _ (List.mem_of_getElem? (i := 1082) (by decide +kernel))) hini (hs _ (by decide +kernel)) (fun a ha => Nat.not_le.mpr ha)
  · exact vx_Zqof (args := #[Value.ref b]) (hts _ (List.mem_of_getElem? (i := 1084) (by decide +kernel))) hini (hs _ (by decide +kernel)) (fun a ha => Nat.not_le.mpr ha)
section XLC
variable {p : Program} {l : Launch} {e : Env} {s : State} {m : MethodId} {below : List Frame} {meth : Method} {c : Code} {b n : Nat} {xs : Nat → Int32} {D : va_G} {cA : Nat → ClassId} {ad : Nat → Nat}
set_option maxHeartbeats 4000000 in
set_option maxRecDepth 100000 in
theorem xl_call {yh y : MethodName} {ch cc : ByteArray} {B : tf_Bk} {pcs : List Nat} {j i pc : Nat} (K : lk_cx p s m meth c b n xs D cA ad) (hl : l.stackTraces = false) (hyh : yh.cls = tf_own 10) (hck : xh_ck ch j = true) (hw : xh_w y cc j) (hy : y.cls = tf_own 6) (hB : tf_Bck cc 3 B = true) (hpcs : xt_thr cc pcs = true) (hwl : xl_w yh ch i) (hd : decode code pc = .ok (.invokestatic i, 3))
    {t : Nat} (ht : t ≤ 511) {L : List Value} {x1 x2 : Int32} {h : LH}
    (hq : xt_Cd B pcs [.ref 240, .int x1, .int x2] h (fun v g => ∃ a : Int32, v = .int a ∧ lk_At p l e s m below meth c b D cA ad (t + 1) (pc + 3) L [.int 0] (g.1, tf_upL g.2 297 0 a.toInt64)) (fun g => lk_At p l e s m below meth c b D cA ad (t + 1) (pc + 3) L [.int 1] g)) : lk_At p l e s m below meth c b D cA ad t pc L [.ref 297, .int x2, .int x1, .ref 240] h := by
  obtain ⟨C0, hK, hSX, hinj, hA, h500, hK9⟩ := K
  obtain ⟨hx, hb, hr, hml, hown, hts, hXs, hbl, hlocks, hgv⟩ := id C0
  have hA2 : ∀ q : Nat, s.heap.size ≤ q → (fun q : Nat => s.heap.size ≤ q) q := fun _ h => h
  have hSX2 : tf_SX 298 ad (fun q : Nat => s.heap.size ≤ q) s s.heap := ⟨hSX.2, fun _ => hSX.1.2, fun _ => hK9⟩
  have hxc := xc_start hts hgv
  intro H locs ls hP hS hL
  have hM := xh_met (D := D) (cA := cA) (Q := fun v g => lk_At p l e s m below meth c b D cA ad (t + 1) (pc + 3) L [v] g) hl hinj hyh hck hw hy hB hpcs H.size hq
  have hgood : GoodIn lw_tbl (va_wsS (tf_own 10) i yh (Jvm.Cond.codeWith yh ch 5 (some .int) [(0, 10, 13, 13)] :: tf_BW)) := by
    intro w hw
    have hin : w ∈ tf_BW := by
      unfold va_wsS at hw
      rcases List.mem_append.mp hw with h1 | h1
      · rcases List.mem_cons.mp h1 with h1 | h1
        · rw [h1]; exact hwl.1
        · rcases List.mem_cons.mp h1 with h1 | h1
          · rw [h1]; exact hwl.2.1
          · rcases List.mem_cons.mp h1 with h1 | h1
            · rw [h1, hyh]; exact xl_hi
            · cases h1
      · rcases List.mem_cons.mp h1 with h1 | h1
        · rw [h1]; exact hwl.2.2.1
        · exact h1
    exact ⟨tk_BW w hin, good_of_word (tf_BW_good w hin)⟩
  have cw : vx_CSW room_1 s #[Value.ref b] (tf_own 10) i yh ch 5 (some .int) [(0, 10, 13, 13)] (Jvm.Cond.codeWith yh ch 5 (some .int) [(0, 10, 13, 13)] :: tf_BW) xh_rm 1 6 4 :=
    vx_cwSW 4 hts hgood rfl rfl rfl hwl.2.2.2 ⟨by show 9 + 1 ≤ 12; decide, by show 8 + (5 + 11) + 330 ≤ 446; decide⟩
  have hrun : vx_Run p l e room_1 s m #[Value.ref b] below meth c H locs (298 + 1000 * t) (11103 + 10000 * t) 1 6 (F0 m pc ls (([.ref 297, .int x2, .int x1, .ref 240] : List Value).map (tf_tr ad))) [] (tf_Qc D cA ad 298 (some .int) (fun v g => lk_At p l e s m below meth c b D cA ad (t + 1) (pc + 3) L [v] g) (va_A (tf_ws cA ad 298 h) H.size) (([.ref 240, .int x1, .int x2, .ref 297] : List Value).map (tf_tr ad)).toArray) (fun _ _ _ => False) (va_A (tf_ws cA ad 298 h) H.size) := by
    exact vx_runSX (As := ([.ref 240, .int x1, .int x2, .ref 297] : List Value).map (tf_tr ad)) (rest := []) ⟨hx, hb, hml, hown, hts⟩ hM cw ⟨xt_blind, xt_pre (As := [.ref 240, .int x1, .int x2, .ref 297]) hA hA2 hK hSX2 hxc hP hS⟩ rfl rfl hL.1 rfl (by show 2 * 0 + 0 ≤ 8; decide) hd ⟨by show 298 + 1000 * t + 1 ≤ 601024; omega, by show 11103 + 10000 * t + 6 ≤ 7293034; omega⟩
  intro T hT X
  rcases hrun T hT X with ⟨v, st₀, t9, T', L9, h0, X', hL9, e1, e2, ⟨⟨r, u, hv, hp, hb9⟩, hF⟩, st⟩ | ⟨q, st₀, t9, T', L9, E, ce, h0, X', hL9, e1, e2, hfalse, -⟩
  · cases hv
    obtain ⟨k1, k2, k3⟩ := vx_keep h0 e1 hS (fun q _ hq => tf_sub hA hA2 hS q hq) (tf_sub hA hA2 hS) hL9 hF
    obtain ⟨t2, a1, b1⟩ := W.widen (by omega) (by omega) (hp T'.heap (locs ++ L9) ls (by rw [e1]; exact hb9) k3 hL) T' rfl X'
    exact ⟨t2, st t2 a1, b1⟩
  · exact hfalse.elim
end XLC
