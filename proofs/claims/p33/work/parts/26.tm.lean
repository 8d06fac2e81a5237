/-! ===== TreeFlowsModel(): its contract ===== -/
def tj_Pc (D : va_G) (cA : Nat → ClassId) (ad : Nat → Nat) (a sz : Nat) : Array Value → State → Prop := va_Pc [.ref a] (fun U => U.heap.size = sz ∧ va_P D vwCl (tf_ws cA ad 270 ti_h ++ [(a, .inr (7, tg_new 7))]) U.heap ∧ va_K D vwCl (tf_ty cA) U ∧ tg_SX U ∧ (va_Nw tf_w1 U ∧ va_Nw tf_w2 U ∧ va_Nw tf_w3 U) ∧ va_D (fun _ => True) (tf_ws cA ad 270 ti_h ++ [(a, .inr (7, tg_new 7))]))
def tj_Qc (D : va_G) (cA : Nat → ClassId) (ad : Nat → Nat) (a : Nat) (A : Nat → Prop) : Array Value → State → Outcome → State → Prop := fun _ st oc t => (∃ ad' : Nat → Nat, oc = .returned none ∧ ad' 270 = a ∧ (∀ c, ¬ (270 ≤ c ∧ c < 297) → ad' c = ad c) ∧ tf_inj ad' 297 ∧ (∀ c, c < 297 → A (ad' c)) ∧ va_P D vwCl (tf_ws cA ad' 297 tj_h) t.heap) ∧ va_F A st t
set_option maxHeartbeats 2000000 in
set_option maxRecDepth 100000 in
theorem tj_met {l : Launch} {D : va_G} {cA : Nat → ClassId} (ad : Nat → Nat) (a sz : Nat) : Met l yX9_init (Jvm.Cond.code yX9_init cX9_init 1 none :: tf_BW) { frames := 4, cells := 26, slots := 5006, locals := 128 } (tj_Pc D cA ad a sz) (tj_Qc D cA ad a (va_A (tf_ws cA ad 270 ti_h ++ [(a, .inr (7, tg_new 7))]) sz)) 26 5006 (va_A (tf_ws cA ad 270 ti_h ++ [(a, .inr (7, tg_new 7))]) sz) := by
  refine Met.ofW (cc := cX9_init) (maxL := 1) (ret := none) (by decide) rfl ?_
  intro p e s m args below meth c s₁ B hml hv
  obtain ⟨rfl, hsz, hP, hK, hSX, hW3, hD0⟩ := hv
  have hx := B.exec
  have hb := B.bytes
  have hr := B.returns
  have hts := atoms_spec (ws := Jvm.Cond.code yX9_init cX9_init 1 none :: tf_BW) B.pre
  have hown : s.vm.findClass (tf_own 7) = some m.cls := findClass_of_methodNamed B.named
  have hlocks := B.notSynchronized
  have hin : meth.name = "<init>" := (name_of_methodNamed B.named B.method).1
  subst hsz
  have hsub : ∀ w ∈ tf_BW, w ∈ Jvm.Cond.code yX9_init cX9_init 1 none :: tf_BW := fun w hw => List.mem_cons_of_mem _ hw
  have hA2 : ∀ q, s.heap.size ≤ q → va_A (tf_ws cA ad 270 ti_h ++ [(a, (.inr (7, tg_new 7) : va_E))]) s.heap.size q := fun q hq => Or.inr hq
  have hmain := tg_run_ok (p := p) (l := l) (e := e) (R := (headSpec (Jvm.Cond.code yX9_init cX9_init 1 none :: tf_BW) { frames := 4, cells := 26, slots := 5006, locals := 128 }).room) (s := s) (m := m) (args := [Value.ref a].toArray) (below := below) (meth := meth) (c := c) (QW := MQ below (tj_Qc D cA ad a (va_A (tf_ws cA ad 270 ti_h ++ [(a, .inr (7, tg_new 7))]) s.heap.size)) [Value.ref a].toArray s 26 5006 (va_A (tf_ws cA ad 270 ti_h ++ [(a, .inr (7, tg_new 7))]) s.heap.size)) (cc := cX9_init) (D := D) (cA := cA) (wx := tf_ws cA ad 270 ti_h) (A := va_A (tf_ws cA ad 270 ti_h ++ [(a, .inr (7, tg_new 7))]) s.heap.size) (ad0 := fun _ => a) (n0 := 1) (s0 := 44) (nL := 1) (oc := 7) (F := tf_F 7) (N := tg_N 7) (N2 := tg_N2 7) (K := tg_K 7) (sub := tg_none) (code := tc_X9) (stop := 214) (fun q hq => by simpa using List.all_eq_true.mp tc_X9_ok q hq)
    (fun pc ln i L st bh1 pc' L' st' bh1' hd h hw hLo hso => tg_step_ok hx hb hml hown hts hsub hin hK hA2 hSX (fun C T n h => by cases h; rfl) (fun j ci q hf => by
      obtain ⟨C, T, n, ty, e1, e2, e3, e4, e5, e6⟩ := tf_F_ok (by decide) j ci q hf
      exact ⟨C, T, n, e1, e2, e5⟩) (fun j ci h => tg_N_ok h) (fun j ci h => tg_N2_ok hSX h) tg_ar_ok tg_cl_ok (fun j h => by
      have : j = 1 := by
        unfold tg_K at h
        simp only at h
        split at h
        · assumption
        · cases h
      rw [this]
      exact tg_ol7) tg_oi tg_oc2 ⟨by decide, by decide⟩ (fun j k hj => by
      unfold tg_K at hj
      simp only at hj
      split at hj
      · cases hj
      · cases hj) (fun k bh x bh2 h => by cases h) hd h hw hLo hso)
    2000 0 (tf_en 1 [.ref 0]) [] [(7, 44, tg_new 7)] _ _ tj_run_eq (by decide +kernel) (by decide +kernel) rfl
  obtain ⟨-, m5⟩ := hmain
  rw [lg_entry_eq]
  refine m5 (by rw [tj_len]; decide) (by rw [tj_slots]; decide) ?_ (by decide) (by decide +kernel) (fun _ => a) s.heap [] _ 0 0 rfl (by decide +kernel) (by decide +kernel) (by decide +kernel) rfl (fun _ _ => rfl) hP hD0.self va_S.rf (tf_rel_en (As := [.ref 0]) (by decide))
  intro adm H locs ls cells slots e1 e2 w1 w2 w3 ha hP1 hD1 hS1 hL
  rw [tj_len] at e1
  rw [tj_slots] at e2
  have hc1 : cells = 26 := by omega
  have hc2 : slots = 5006 := by omega
  subst hc1
  subst hc2
  obtain ⟨hinj, hAc⟩ := tj_inj hD1
  have hP2 := tj_world hP1
  have h270 : tj_ad ad adm 270 = adm 0 := by simp [tj_ad]
  have hL2 : tf_rel (tj_ad ad adm) ls 1 [.ref 270] := by
    refine ⟨hL.1, hL.2.1, rfl, fun i v hi hz => ?_⟩
    match i, hi with
    | 0, hi =>
      cases hi
      have := hL.2.2.2 0 _ rfl (by simp [tf_z])
      rw [this]
      simp only [tf_tr, h270]
    | n + 1, hi => simp at hi
  have hSX2 : tf_SX 297 (tj_ad ad adm) (va_A (tf_ws cA ad 270 ti_h ++ [(a, (.inr (7, tg_new 7) : va_E))]) s.heap.size) s s.heap := ⟨hW3, fun z => absurd z (by decide), fun z => absurd z (by decide)⟩
  refine tf_LW_ok (C := tf_Cd 297 3) (F := tf_F 7) (M := tf_M 7) (I := tf_I 7) (E := fun _ => none) (rk := 0) (Q := fun _ h => h = tj_h) (B := tj_B) (nc := 297) (nL := 1) (own := tf_own 7) (Ts := Jvm.Cond.code yX9_init cX9_init 1 none :: tf_BW) hx hb hown hts hK hinj hAc ?_ ?_ ?_ ?_ ?_ ?_ ?_ ?_ tj_B_ok (tf_xr_ok (tf_xd_ok 3) 20 214 [.ref 270] [] (tj_h0 ti_h) tf_z tj_h tj_x_eq rfl) H locs ls hP2 hS1 hL2
  · intro j ci q hf
    obtain ⟨C, T, N, ty, h1, h2, h3, h4, h5, h6, h7⟩ := tf_F_ok (o := 7) (by decide) j ci q hf
    exact ⟨C, T, N, ty, h1, h2, h3, h4, hsub _ h5, fun w hw => hsub _ (h6 w hw), h7⟩
  · intro j v hi
    exact hts _ (hsub _ (tf_I_ok (o := 7) (by decide) hi))
  · intro j v hi
    exact hts _ (hsub _ (tf_J_ok (o := 7) (by decide) hi))
  · exact tf_hC (o := 7) (d := 3) (by decide) hx hb hml hown hts hsub hK hinj hAc hA2 hSX2 ⟨by decide, by decide⟩ ⟨by decide, by decide⟩
  · intro pc n i f L st h2 k X hE
    cases hE
  · intro v h2 pc L hdc hrb
    exact hrb.1.elim
  · intro h2 pc L hdc hrb H2 locs2 ls2 hP3 hS3 hL3
    obtain ⟨-, rfl⟩ := hrb
    exact W.vret hx hb hr (fun t ht hW => ⟨⟨tj_ad ad adm, rfl, by rw [h270]; exact ha 0 (by decide), fun c hc => by simp only [tj_ad]; rw [if_neg hc], hinj, hAc, by rw [ht]; exact hP3⟩, hS3.F ht⟩) hS3.2.2 hdc
  · intro v h2 pc L hdc hv hrb
    exact absurd hrb.1 (by decide)
