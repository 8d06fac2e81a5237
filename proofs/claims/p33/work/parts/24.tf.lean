/-! ===== TreeFlows(): its contract ===== -/
def ti_Pc (D : va_G) (cA : Nat → ClassId) (a sz : Nat) : Array Value → State → Prop := va_Pc [.ref a] (fun U => U.heap.size = sz ∧ va_P D vwCl [(a, .inr (6, tg_new 6))] U.heap ∧ va_K D vwCl (tf_ty cA) U ∧ tg_SX U ∧ (va_Nw tf_w1 U ∧ va_Nw tf_w2 U ∧ va_Nw tf_w3 U) ∧ va_D (fun _ => True) [(a, .inr (6, tg_new 6))])
def ti_Qc (D : va_G) (cA : Nat → ClassId) (a : Nat) (A : Nat → Prop) : Array Value → State → Outcome → State → Prop := fun _ st oc t => (∃ ad : Nat → Nat, oc = .returned none ∧ ad 240 = a ∧ tf_inj ad 270 ∧ (∀ c, c < 270 → A (ad c)) ∧ va_P D vwCl (tf_ws cA ad 270 ti_h) t.heap) ∧ va_F A st t
theorem ti_sub_mono : ∀ k bh x bh2, ti_sub k bh x = some bh2 → tg_wf bh = true → x < bh.length → bh.length ≤ bh2.length ∧ tg_sl bh ≤ tg_sl bh2 ∧ tg_wf bh2 = true := by
  have none_mono : ∀ k bh x bh2, tg_none k bh x = some bh2 → tg_wf bh = true → x < bh.length → bh.length ≤ bh2.length ∧ tg_sl bh ≤ tg_sl bh2 ∧ tg_wf bh2 = true := fun _ _ _ _ h => by cases h
  intro k bh x bh2 h
  unfold ti_sub at h
  split at h
  · exact tg_c_mono none_mono h
  · exact tg_c_mono none_mono h
  · exact tg_c_mono none_mono h
  · exact tg_c_mono none_mono h
  · refine tg_c_mono (fun k bh x bh2 h => ?_) h
    by_cases hk : k = 0
    · rw [tg_sub1, if_pos hk] at h
      exact tg_c_mono none_mono h
    · rw [tg_sub1, if_neg hk] at h
      cases h
  · cases h
theorem ti_hKk {l : Launch} {D : va_G} {cA : Nat → ClassId} {s : State} (hSX : tg_SX s) : ∀ j k, tg_K 6 j = some (k + 1) → ∃ (yk : MethodName) (bk : ByteArray) (Lk dk : Nat), tg_Met l D cA yk (Jvm.Cond.code yk bk Lk none :: tf_BW) dk (ti_sub k) ∧ Jvm.Cond.code yk bk Lk none ∈ tf_BW ∧ va_Nw (.methodLinkNest (tf_own 6) j yk RX8) s ∧ Jvm.Cond.initialized yk.cls ∈ tf_BW ∧ Jvm.Cond.instanceMethod yk ∈ tf_BW ∧ yk.name = "<init>" ∧ (yk.cls ≠ "java/lang/invoke/MethodHandle" ∧ yk.cls ≠ "java/lang/invoke/VarHandle" ∧ (parseMethodDescriptor yk.desc).map (fun d => d.parameters.length) = some 0) ∧ dk + 1 ≤ 4 ∧ 8 + (Lk + 11) + 32 * dk ≤ 128 := by
  intro j k hj
  unfold tg_K at hj
  simp only at hj
  split at hj
  · cases hj
  · split at hj
    · rename_i hj2
      subst hj2
      cases hj
      exact ⟨yX1_init, cX1_init, 1, 2, tg_mX1, tg_cw_X1, hSX.1.1, tg_in_X1, tg_im_X1, rfl, by decide +kernel, by decide, by decide⟩
    · split at hj
      · rename_i hj2
        subst hj2
        cases hj
        exact ⟨yX3_init, cX3_init, 1, 1, tg_mX3, tg_cw_X3, hSX.1.2.1, tg_in_X3, tg_im_X3, rfl, by decide +kernel, by decide, by decide⟩
      · split at hj
        · rename_i hj2
          subst hj2
          cases hj
          exact ⟨yX6_init, cX6_init, 1, 1, tg_mX6, tg_cw_X6, hSX.1.2.2.1, tg_in_X6, tg_im_X6, rfl, by decide +kernel, by decide, by decide⟩
        · split at hj
          · rename_i hj2
            subst hj2
            cases hj
            exact ⟨yX2_init, cX2_init, 1, 1, tg_mX2, tg_cw_X2, hSX.1.2.2.2.1, tg_in_X2, tg_im_X2, rfl, by decide +kernel, by decide, by decide⟩
          · split at hj
            · rename_i hj2
              subst hj2
              cases hj
              exact ⟨yX4_init, cX4_init, 1, 1, tg_mX4, tg_cw_X4, hSX.1.2.2.2.2.1, tg_in_X4, tg_im_X4, rfl, by decide +kernel, by decide, by decide⟩
            · cases hj
set_option maxHeartbeats 2000000 in
set_option maxRecDepth 100000 in
theorem ti_met {l : Launch} {D : va_G} {cA : Nat → ClassId} (a sz : Nat) : Met l yX8_init (Jvm.Cond.code yX8_init cX8_init 2 none :: tf_BW) { frames := 4, cells := 269, slots := 6039, locals := 128 } (ti_Pc D cA a sz) (ti_Qc D cA a (va_A [(a, .inr (6, tg_new 6))] sz)) 269 6039 (va_A [(a, .inr (6, tg_new 6))] sz) := by
  refine Met.ofW (cc := cX8_init) (maxL := 2) (ret := none) (by decide) rfl ?_
  intro p e s m args below meth c s₁ B hml hv
  obtain ⟨rfl, hsz, hP, hK, hSX, hW3, hD0⟩ := hv
  have hx := B.exec
  have hb := B.bytes
  have hr := B.returns
  have hts := atoms_spec (ws := Jvm.Cond.code yX8_init cX8_init 2 none :: tf_BW) B.pre
  have hown : s.vm.findClass (tf_own 6) = some m.cls := findClass_of_methodNamed B.named
  have hlocks := B.notSynchronized
  have hin : meth.name = "<init>" := (name_of_methodNamed B.named B.method).1
  subst hsz
  have hsub : ∀ w ∈ tf_BW, w ∈ Jvm.Cond.code yX8_init cX8_init 2 none :: tf_BW := fun w hw => List.mem_cons_of_mem _ hw
  have hA2 : ∀ q, s.heap.size ≤ q → va_A [(a, (.inr (6, tg_new 6) : va_E))] s.heap.size q := fun q hq => Or.inr hq
  have hmain := tg_run_ok (p := p) (l := l) (e := e) (R := (headSpec (Jvm.Cond.code yX8_init cX8_init 2 none :: tf_BW) { frames := 4, cells := 269, slots := 6039, locals := 128 }).room) (s := s) (m := m) (args := [Value.ref a].toArray) (below := below) (meth := meth) (c := c) (QW := MQ below (ti_Qc D cA a (va_A [(a, .inr (6, tg_new 6))] s.heap.size)) [Value.ref a].toArray s 269 6039 (va_A [(a, .inr (6, tg_new 6))] s.heap.size)) (cc := cX8_init) (D := D) (cA := cA) (wx := []) (A := va_A [(a, .inr (6, tg_new 6))] s.heap.size) (ad0 := fun _ => a) (n0 := 1) (s0 := 13) (nL := 2) (oc := 6) (F := tf_F 6) (N := tg_N 6) (N2 := tg_N2 6) (K := tg_K 6) (sub := ti_sub) (code := tc_X8) (stop := 176) (fun q hq => by simpa using List.all_eq_true.mp tc_X8_ok q hq)
    (fun pc ln i L st bh1 pc' L' st' bh1' hd h hw hLo hso => tg_step_ok hx hb hml hown hts hsub hin hK hA2 hSX (fun C T n h => by cases h; rfl) (fun j ci q hf => by
      obtain ⟨C, T, n, ty, e1, e2, e3, e4, e5, e6⟩ := tf_F_ok (by decide) j ci q hf
      exact ⟨C, T, n, e1, e2, e5⟩) (fun j ci h => tg_N_ok h) (fun j ci h => tg_N2_ok hSX h) tg_ar_ok tg_cl_ok (fun j h => by
      have : j = 3 := by
        unfold tg_K at h
        simp only at h
        repeat' split at h
        all_goals first | assumption | cases h
      rw [this]
      exact tg_ol6) tg_oi tg_oc2 ⟨by decide, by decide⟩ (ti_hKk hSX) ti_sub_mono hd h hw hLo hso)
    2000 0 (tf_en 2 [.ref 0]) [] [(6, 13, tg_new 6)] _ _ ti_run_eq (by decide +kernel) (by decide +kernel) rfl
  obtain ⟨-, m5⟩ := hmain
  rw [lg_entry_eq]
  refine m5 (by rw [ti_len]; decide) (by rw [ti_slots]; decide) ?_ (by decide) (by decide +kernel) (fun _ => a) s.heap [] _ 0 0 rfl (by decide +kernel) (by decide +kernel) (by decide +kernel) rfl (fun _ _ => rfl) hP hD0.self va_S.rf (tf_rel_en (As := [.ref 0]) (by decide))
  intro ad H locs ls cells slots e1 e2 w1 w2 w3 ha hP1 hD1 hS1 hL
  rw [ti_len] at e1
  rw [ti_slots] at e2
  have hc1 : cells = 269 := by omega
  have hc2 : slots = 6039 := by omega
  subst hc1
  subst hc2
  obtain ⟨hinj, hAc⟩ := ti_inj hD1
  have hP2 := ti_world hP1
  have h240 : ti_p 240 = 0 := by decide +kernel
  have hL2 : tf_rel (fun c => ad (ti_p c)) ls 2 [.ref 240, .int 3] := by
    refine ⟨hL.1, hL.2.1, rfl, fun i v hi hz => ?_⟩
    match i, hi with
    | 0, hi =>
      cases hi
      have := hL.2.2.2 0 _ rfl (by simp [tf_z])
      rw [this]
      simp only [tf_tr, h240]
    | 1, hi =>
      cases hi
      exact hL.2.2.2 1 _ rfl (by simp [tf_z])
    | n + 2, hi => simp at hi
  have hSX2 : tf_SX 270 (fun c => ad (ti_p c)) (va_A [(a, (.inr (6, tg_new 6) : va_E))] s.heap.size) s s.heap := ⟨hW3, fun z => absurd z (by decide), fun z => absurd z (by decide)⟩
  refine tf_LW_ok (C := tf_Cd 270 3) (F := tf_F 6) (M := tf_M 6) (I := tf_I 6) (E := fun _ => none) (rk := 0) (Q := fun _ h => h = ti_h) (B := ti_B) (nc := 270) (nL := 2) (own := tf_own 6) (Ts := Jvm.Cond.code yX8_init cX8_init 2 none :: tf_BW) hx hb hown hts hK hinj hAc ?_ ?_ ?_ ?_ ?_ ?_ ?_ ?_ ti_B_ok (tf_xr_ok (tf_xd_ok 3) 20 176 [.ref 240, .int 3] [] ti_h0 tf_z ti_h ti_x_eq rfl) H locs ls hP2 hS1 hL2
  · intro j ci q hf
    obtain ⟨C, T, N, ty, h1, h2, h3, h4, h5, h6, h7⟩ := tf_F_ok (o := 6) (by decide) j ci q hf
    exact ⟨C, T, N, ty, h1, h2, h3, h4, hsub _ h5, fun w hw => hsub _ (h6 w hw), h7⟩
  · intro j v hi
    exact hts _ (hsub _ (tf_I_ok (o := 6) (by decide) hi))
  · intro j v hi
    exact hts _ (hsub _ (tf_J_ok (o := 6) (by decide) hi))
  · exact tf_hC (o := 6) (d := 3) (by decide) hx hb hml hown hts hsub hK hinj hAc hA2 hSX2 ⟨by decide, by decide⟩ ⟨by decide, by decide⟩
  · intro pc n i f L st h2 k X hE
    cases hE
  · intro v h2 pc L hdc hrb
    exact hrb.1.elim
  · intro h2 pc L hdc hrb H2 locs2 ls2 hP3 hS3 hL3
    obtain ⟨-, rfl⟩ := hrb
    exact W.vret hx hb hr (fun t ht hW => ⟨⟨fun c => ad (ti_p c), rfl, by show ad (ti_p 240) = a; rw [h240]; exact ha 0 (by decide), hinj, hAc, by rw [ht]; exact hP3⟩, hS3.F ht⟩) hS3.2.2 hdc
  · intro v h2 pc L hdc hv hrb
    exact absurd hrb.1 (by decide)
