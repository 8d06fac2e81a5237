/-! ===== the builder's step is sound ===== -/
section TGS
variable {p : Program} {l : Launch} {e : Env} {R : Room} {s : State} {m : MethodId} {args : Array Value} {below : List Frame} {meth : Method} {c : Code} {QW : State → Prop}
variable {cc : ByteArray} {D : va_G} {cA : Nat → ClassId} {wx : va_W} {A : Nat → Prop} {ad0 : Nat → Nat} {n0 s0 nL : Nat} {own : String} {Ts : List Jvm.Cond}
variable {oc : Nat} {F : Nat → Option (Nat × Nat)} {N N2 K : Nat → Option Nat} {sub : Nat → BH → Nat → Option BH}
set_option maxHeartbeats 4000000 in
set_option maxRecDepth 100000 in
theorem tg_step_ok (hx : p.tables.exec = Jvm.exec) (hb : c.code = cc) (hml : c.maxLocals = nL) (hown : s.vm.findClass own = some m.cls) (hts : ∀ w ∈ Ts, w.before args s = true) (hsub : ∀ w ∈ tf_BW, w ∈ Ts) (hnm : meth.name = "<init>") (hK : va_K D vwCl (tf_ty cA) s) (hA2 : ∀ q, s.heap.size ≤ q → A q) (hSX : tg_SX s)
    (hoc : ∀ C T n, vwCl[oc]? = some (C, T, n) → C = own)
    (hF : ∀ j ci q, F j = some (ci, q) → ∃ (C : String) (T : u_T) (n : Nat), vwCl[ci]? = some (C, T, n) ∧ q < n ∧ Jvm.Cond.fieldLink own j (T q).1 (T q).2.1 (T q).2.2.1 ∈ tf_BW)
    (hN : ∀ j ci, N j = some ci → ∃ (C : String) (T : u_T) (n : Nat), vwCl[ci]? = some (C, T, n) ∧ Jvm.Cond.classLink own j C ∈ tf_BW ∧ Jvm.Cond.instantiable C n ∈ tf_BW ∧ Jvm.Cond.initialized C ∈ tf_BW)
    (hN2 : ∀ j ci, N2 j = some ci → ∃ C : String, Jvm.Cond.classLink own j C ∈ tf_BW ∧ va_AO C s ∧ (tf_ty cA)[5 + ci]? = some (cA (13 + ci), .object C))
    (har : ∀ t : ArrayType, (t = .int ∨ t = .char ∨ t = .byte ∨ t = .boolean ∨ t = .long) → Jvm.Cond.arrayClass (newarray.typeOf t) ∈ tf_BW)
    (hcl : ∀ ci, ci < 2 → ∃ (C : String) (T : u_T) (n : Nat), vwCl[ci]? = some (C, T, n) ∧ (tf_ty cA)[5 + ci]? = some (cA (13 + ci), .object C))
    (hK0 : ∀ j, K j = some 0 → Jvm.Cond.methodLink own j objectInit ∈ tf_BW) (hoi : Jvm.Cond.instanceMethod objectInit ∈ tf_BW) (hoc2 : Jvm.Cond.code objectInit ⟨#[0xb1]⟩ 1 none ∈ tf_BW) (hfr : 1 ≤ R.frames ∧ 20 ≤ R.locals)
    (hKk : ∀ j k, K j = some (k + 1) → ∃ (yk : MethodName) (bk : ByteArray) (Lk dk : Nat), tg_Met l D cA yk (Jvm.Cond.code yk bk Lk none :: tf_BW) dk (sub k) ∧ Jvm.Cond.code yk bk Lk none ∈ tf_BW ∧ va_Nw (.methodLinkNest own j yk RX8) s ∧ Jvm.Cond.initialized yk.cls ∈ tf_BW ∧ Jvm.Cond.instanceMethod yk ∈ tf_BW ∧ yk.name = "<init>" ∧ (yk.cls ≠ "java/lang/invoke/MethodHandle" ∧ yk.cls ≠ "java/lang/invoke/VarHandle" ∧ (parseMethodDescriptor yk.desc).map (fun d => d.parameters.length) = some 0) ∧ dk + 1 ≤ R.frames ∧ 8 + (Lk + 11) + 32 * dk ≤ R.locals)
    (hsm : ∀ k bh x bh2, sub k bh x = some bh2 → tg_wf bh = true → x < bh.length → bh.length ≤ bh2.length ∧ tg_sl bh ≤ tg_sl bh2 ∧ tg_wf bh2 = true)
    {pc ln : Nat} {i : Instr} {L st : List Value} {bh : BH} {pc' : Nat} {L' st' : List Value} {bh' : BH} (hd : decode cc pc = .ok (i, ln)) (h : tg_step oc F N N2 K sub pc i ln L st bh = some (pc', L', st', bh')) (hw : tg_wf bh = true) (hLo : L.all (tg_vok bh.length) = true) (hso : st.all (tg_vok bh.length) = true) :
    (bh.length ≤ bh'.length ∧ tg_sl bh ≤ tg_sl bh' ∧ tg_wf bh' = true ∧ L'.all (tg_vok bh'.length) = true ∧ st'.all (tg_vok bh'.length) = true) ∧
    (bh'.length ≤ n0 + R.cells → tg_sl bh' ≤ s0 + R.slots → tg_At (fun k n H locs g => W p l e R s m args below meth c H locs k n QW g) m s.heap D cA wx A ad0 n0 s0 nL pc' L' st' bh' → n0 ≤ bh.length → s0 ≤ tg_sl bh → tg_At (fun k n H locs g => W p l e R s m args below meth c H locs k n QW g) m s.heap D cA wx A ad0 n0 s0 nL pc L st bh) := by
  have hts' : ∀ w ∈ tf_BW, w.before args s = true := fun w hw => hts w (hsub w hw)
  cases i <;> try (exact absurd (show (none : Option (Nat × List Value × List Value × BH)) = some _ from h) (by simp))
  case aload_n k =>
    simp only [tg_step] at h
    split at h
    · rename_i x he
      split at h
      · rename_i hl
        subst hl
        cases h
        have hv := List.all_eq_true.mp hLo _ (List.mem_of_getElem? he)
        refine ⟨⟨Nat.le_refl _, Nat.le_refl _, hw, hLo, by simp only [List.all_cons, Bool.and_eq_true]; exact ⟨hv, hso⟩⟩, fun _ _ hk _ _ => ?_⟩
        intro ad H locs ls cells slots e1 e2 w1 w2 w3 ha hP hD hS hL
        exact lv_aload_n hx hb hd rfl (by simpa [tf_tr] using hL.2.2.2 _ _ he (by simp [tf_z])) (hk ad H locs ls cells slots e1 e2 w1 w2 (by simp only [List.all_cons, Bool.and_eq_true]; exact ⟨hv, hso⟩) ha hP hD hS hL)
      · cases h
    · cases h
  case iload_n k =>
    simp only [tg_step] at h
    split at h
    · rename_i x he
      split at h
      · rename_i hl
        subst hl
        cases h
        refine ⟨⟨Nat.le_refl _, Nat.le_refl _, hw, hLo, by simp only [List.all_cons, Bool.and_eq_true]; exact ⟨rfl, hso⟩⟩, fun _ _ hk _ _ => ?_⟩
        intro ad H locs ls cells slots e1 e2 w1 w2 w3 ha hP hD hS hL
        exact lv_iload_n hx hb hd rfl (by simpa [tf_tr] using hL.2.2.2 _ _ he (by simp [tf_z])) (hk ad H locs ls cells slots e1 e2 w1 w2 (by simp only [List.all_cons, Bool.and_eq_true]; exact ⟨rfl, hso⟩) ha hP hD hS hL)
      · cases h
    · cases h
  case iconst v =>
    simp only [tg_step] at h
    split at h
    · rename_i hl
      subst hl
      cases h
      refine ⟨⟨Nat.le_refl _, Nat.le_refl _, hw, hLo, by simp only [List.all_cons, Bool.and_eq_true]; exact ⟨rfl, hso⟩⟩, fun _ _ hk _ _ => ?_⟩
      intro ad H locs ls cells slots e1 e2 w1 w2 w3 ha hP hD hS hL
      exact lv_iconst hx hb hd rfl (hk ad H locs ls cells slots e1 e2 w1 w2 (by simp only [List.all_cons, Bool.and_eq_true]; exact ⟨rfl, hso⟩) ha hP hD hS hL)
    · cases h
  case bipush v =>
    simp only [tg_step] at h
    split at h
    · rename_i hl
      subst hl
      cases h
      refine ⟨⟨Nat.le_refl _, Nat.le_refl _, hw, hLo, by simp only [List.all_cons, Bool.and_eq_true]; exact ⟨rfl, hso⟩⟩, fun _ _ hk _ _ => ?_⟩
      intro ad H locs ls cells slots e1 e2 w1 w2 w3 ha hP hD hS hL
      exact lv_bipush hx hb hd rfl (hk ad H locs ls cells slots e1 e2 w1 w2 (by simp only [List.all_cons, Bool.and_eq_true]; exact ⟨rfl, hso⟩) ha hP hD hS hL)
    · cases h
  case sipush v =>
    simp only [tg_step] at h
    split at h
    · rename_i hl
      subst hl
      cases h
      refine ⟨⟨Nat.le_refl _, Nat.le_refl _, hw, hLo, by simp only [List.all_cons, Bool.and_eq_true]; exact ⟨rfl, hso⟩⟩, fun _ _ hk _ _ => ?_⟩
      intro ad H locs ls cells slots e1 e2 w1 w2 w3 ha hP hD hS hL
      exact lv_sipush hx hb hd rfl (hk ad H locs ls cells slots e1 e2 w1 w2 (by simp only [List.all_cons, Bool.and_eq_true]; exact ⟨rfl, hso⟩) ha hP hD hS hL)
    · cases h
  case istore_n k =>
    simp only [tg_step] at h
    split at h
    · rename_i x st2
      split at h
      · rename_i hl
        obtain ⟨rfl, hkl⟩ := hl
        cases h
        simp only [List.all_cons, Bool.and_eq_true] at hso
        have hL2 := tg_s1_ok (i := (k : Nat)) (v := .int x) hLo rfl
        refine ⟨⟨Nat.le_refl _, Nat.le_refl _, hw, hL2, hso.2⟩, fun _ _ hk _ _ => ?_⟩
        intro ad H locs ls cells slots e1 e2 w1 w2 w3 ha hP hD hS hL
        exact lv_istore_n hx hb hd rfl (tf_rel_has hL) (by rw [← hL.2.2.1]; exact hkl) rfl (fun ls' hl' => hk ad H locs ls' cells slots e1 e2 w1 hL2 hso.2 ha hP hD hS (tf_rel_s1 (v := .int x) hL.2.2.1 hl'))
      · cases h
    · cases h
  case iinc k v =>
    simp only [tg_step] at h
    split at h
    · rename_i x he
      split at h
      · rename_i hl
        obtain ⟨rfl, hkl⟩ := hl
        cases h
        have hL2 := tg_s1_ok (i := k) (v := .int (x + Int32.ofInt v)) hLo rfl
        refine ⟨⟨Nat.le_refl _, Nat.le_refl _, hw, hL2, hso⟩, fun _ _ hk _ _ => ?_⟩
        intro ad H locs ls cells slots e1 e2 w1 w2 w3 ha hP hD hS hL
        have hm : (k, tf_tr ad (.int x)) ∈ tf_prs ad 0 L := (tf_prs_mem L 0 _).mpr ⟨k, _, he, by simp [tf_z], by simp⟩
        obtain ⟨q, hq⟩ := List.getElem?_of_mem hm
        exact lv_iinc hx hb hd (tf_rel_has hL) (k := q) hq rfl (by rw [← hL.2.2.1]; exact hkl) rfl (fun ls' hl' => hk ad H locs ls' cells slots e1 e2 w1 hL2 hso ha hP hD hS (tf_rel_s1 (v := .int _) hL.2.2.1 hl'))
      · cases h
    · cases h
  case dup =>
    simp only [tg_step] at h
    split at h
    · rename_i x st2
      split at h
      · rename_i hl
        subst hl
        cases h
        simp only [List.all_cons, Bool.and_eq_true] at hso
        refine ⟨⟨Nat.le_refl _, Nat.le_refl _, hw, hLo, by simp only [List.all_cons, Bool.and_eq_true]; exact ⟨hso.1, hso.1, hso.2⟩⟩, fun _ _ hk _ _ => ?_⟩
        intro ad H locs ls cells slots e1 e2 w1 w2 w3 ha hP hD hS hL
        exact lv_dup hx hb hd rfl (hk ad H locs ls cells slots e1 e2 w1 w2 (by simp only [List.all_cons, Bool.and_eq_true]; exact ⟨hso.1, hso.1, hso.2⟩) ha hP hD hS hL)
      · cases h
    · cases h
  case goto o =>
    simp only [tg_step] at h
    split at h
    · rename_i hl
      obtain ⟨rfl, hn⟩ := hl
      cases h
      refine ⟨⟨Nat.le_refl _, Nat.le_refl _, hw, hLo, hso⟩, fun _ _ hk _ _ => ?_⟩
      intro ad H locs ls cells slots e1 e2 w1 w2 w3 ha hP hD hS hL
      exact lv_goto hx hb hd (tf_tgt hn) (hk ad H locs ls cells slots e1 e2 w1 w2 w3 ha hP hD hS hL)
    · cases h
  case if_icmp c9 o =>
    simp only [tg_step] at h
    split at h
    · rename_i y x st2
      split at h
      · rename_i hl
        obtain ⟨rfl, hn⟩ := hl
        simp only [List.all_cons, Bool.and_eq_true] at hso
        split at h
        · rename_i hc
          cases h
          refine ⟨⟨Nat.le_refl _, Nat.le_refl _, hw, hLo, hso.2.2⟩, fun _ _ hk _ _ => ?_⟩
          intro ad H locs ls cells slots e1 e2 w1 w2 w3 ha hP hD hS hL
          exact lv_icmp_ge hx hb hd (tf_tgt hn) (fun _ => hk ad H locs ls cells slots e1 e2 w1 w2 hso.2.2 ha hP hD hS hL) (fun q => absurd hc q)
        · rename_i hc
          cases h
          refine ⟨⟨Nat.le_refl _, Nat.le_refl _, hw, hLo, hso.2.2⟩, fun _ _ hk _ _ => ?_⟩
          intro ad H locs ls cells slots e1 e2 w1 w2 w3 ha hP hD hS hL
          exact lv_icmp_ge hx hb hd (tf_tgt hn) (fun q => absurd q hc) (fun _ => hk ad H locs ls cells slots e1 e2 w1 w2 hso.2.2 ha hP hD hS hL)
      · cases h
    · cases h
  case newarray t =>
    simp only [tg_step] at h
    split at h
    · rename_i k st2
      split at h
      · rename_i hl
        obtain ⟨rfl, hk0, hk6⟩ := hl
        cases h
        simp only [List.all_cons, Bool.and_eq_true] at hso
        have hbo : ((8, k.toNatClampNeg, []) : Nat × Nat × List Value).2.2.all (tg_vok bh.length) = true := rfl
        have hw' := tg_wf_push hw hbo
        have hle : bh.length ≤ (bh ++ [(8, k.toNatClampNeg, ([] : List Value))]).length := by simp
        have hso' : (Value.ref bh.length :: st2).all (tg_vok (bh ++ [(8, k.toNatClampNeg, ([] : List Value))]).length) = true := by
          simp only [List.all_cons, Bool.and_eq_true]
          exact ⟨by simp [tg_vok], tg_all_mono hso.2 hle⟩
        refine ⟨⟨hle, by rw [tg_sl_push]; exact Nat.le_add_right _ _, hw', tg_all_mono hLo hle, hso'⟩, fun hr1 hr2 hk hn0 hs0 => ?_⟩
        intro ad H locs ls cells slots e1 e2 w1 w2 w3 ha hP hD hS hL
        rw [tg_sl_push] at hr2
        simp only [List.length_append, List.length_singleton] at hr1
        have hcb : k.toNatClampNeg * componentBytes .int ≤ 536870912 := by
          have h3 := Nat.mul_le_mul hk6 (show componentBytes .int ≤ 8 by decide)
          omega
        refine va_newa (atype := .int) (ty := .int) (a0 := (k.toNatClampNeg, .inl (fun _ => 0))) hx hb (hts' _ (har _ (by simp))) rfl hK hP hD hS hA2 (fun _ => rfl) hk0 rfl hcb (by omega) (by simp only at hr2; omega) hd (fun q cA2 H1 hK1 hP1 hD1 hS1 => ?_)
        have hcA := tg_kA (k := 8) (t := 0) hK hK1 rfl
        subst hcA
        have hE : (Sum.inl (cA 8, k.toNatClampNeg, .inl (fun _ => 0)) : va_E) = tg_E cA ad (8, k.toNatClampNeg, []) := rfl
        rw [hE, tg_push hw hbo] at hP1 hD1
        have hup : ∀ i, i < bh.length → va_up ad bh.length q i = ad i := fun i hi => by simp [va_up, Nat.ne_of_lt hi]
        have hfin := hk (va_up ad bh.length q) H1 locs ls (cells + 1) (slots + k.toNatClampNeg) (by simp; omega) (by rw [tg_sl_push]; simp only; omega) hw' (tg_all_mono hLo hle) hso' (fun i hi => by rw [hup i (by omega)]; exact ha i hi) hP1 hD1 hS1 (tg_rel hLo hup hL)
        simp only [List.map_cons, tg_trs hso.2 hup, tf_tr, show va_up ad bh.length q bh.length = q by simp [va_up]] at hfin
        exact hfin
      · cases h
    · rename_i k st2
      split at h
      · rename_i hl
        obtain ⟨rfl, hk0, hk6⟩ := hl
        cases h
        simp only [List.all_cons, Bool.and_eq_true] at hso
        have hbo : ((9, k.toNatClampNeg, []) : Nat × Nat × List Value).2.2.all (tg_vok bh.length) = true := rfl
        have hw' := tg_wf_push hw hbo
        have hle : bh.length ≤ (bh ++ [(9, k.toNatClampNeg, ([] : List Value))]).length := by simp
        have hso' : (Value.ref bh.length :: st2).all (tg_vok (bh ++ [(9, k.toNatClampNeg, ([] : List Value))]).length) = true := by
          simp only [List.all_cons, Bool.and_eq_true]
          exact ⟨by simp [tg_vok], tg_all_mono hso.2 hle⟩
        refine ⟨⟨hle, by rw [tg_sl_push]; exact Nat.le_add_right _ _, hw', tg_all_mono hLo hle, hso'⟩, fun hr1 hr2 hk hn0 hs0 => ?_⟩
        intro ad H locs ls cells slots e1 e2 w1 w2 w3 ha hP hD hS hL
        rw [tg_sl_push] at hr2
        simp only [List.length_append, List.length_singleton] at hr1
        have hcb : k.toNatClampNeg * componentBytes .char ≤ 536870912 := by
          have h3 := Nat.mul_le_mul hk6 (show componentBytes .char ≤ 8 by decide)
          omega
        refine va_newa (atype := .char) (ty := .char) (a0 := (k.toNatClampNeg, .inl (fun _ => 0))) hx hb (hts' _ (har _ (by simp))) rfl hK hP hD hS hA2 (fun _ => rfl) hk0 rfl hcb (by omega) (by simp only at hr2; omega) hd (fun q cA2 H1 hK1 hP1 hD1 hS1 => ?_)
        have hcA := tg_kA (k := 9) (t := 1) hK hK1 rfl
        subst hcA
        have hE : (Sum.inl (cA 9, k.toNatClampNeg, .inl (fun _ => 0)) : va_E) = tg_E cA ad (9, k.toNatClampNeg, []) := rfl
        rw [hE, tg_push hw hbo] at hP1 hD1
        have hup : ∀ i, i < bh.length → va_up ad bh.length q i = ad i := fun i hi => by simp [va_up, Nat.ne_of_lt hi]
        have hfin := hk (va_up ad bh.length q) H1 locs ls (cells + 1) (slots + k.toNatClampNeg) (by simp; omega) (by rw [tg_sl_push]; simp only; omega) hw' (tg_all_mono hLo hle) hso' (fun i hi => by rw [hup i (by omega)]; exact ha i hi) hP1 hD1 hS1 (tg_rel hLo hup hL)
        simp only [List.map_cons, tg_trs hso.2 hup, tf_tr, show va_up ad bh.length q bh.length = q by simp [va_up]] at hfin
        exact hfin
      · cases h
    · rename_i k st2
      split at h
      · rename_i hl
        obtain ⟨rfl, hk0, hk6⟩ := hl
        cases h
        simp only [List.all_cons, Bool.and_eq_true] at hso
        have hbo : ((10, k.toNatClampNeg, []) : Nat × Nat × List Value).2.2.all (tg_vok bh.length) = true := rfl
        have hw' := tg_wf_push hw hbo
        have hle : bh.length ≤ (bh ++ [(10, k.toNatClampNeg, ([] : List Value))]).length := by simp
        have hso' : (Value.ref bh.length :: st2).all (tg_vok (bh ++ [(10, k.toNatClampNeg, ([] : List Value))]).length) = true := by
          simp only [List.all_cons, Bool.and_eq_true]
          exact ⟨by simp [tg_vok], tg_all_mono hso.2 hle⟩
        refine ⟨⟨hle, by rw [tg_sl_push]; exact Nat.le_add_right _ _, hw', tg_all_mono hLo hle, hso'⟩, fun hr1 hr2 hk hn0 hs0 => ?_⟩
        intro ad H locs ls cells slots e1 e2 w1 w2 w3 ha hP hD hS hL
        rw [tg_sl_push] at hr2
        simp only [List.length_append, List.length_singleton] at hr1
        have hcb : k.toNatClampNeg * componentBytes .byte ≤ 536870912 := by
          have h3 := Nat.mul_le_mul hk6 (show componentBytes .byte ≤ 8 by decide)
          omega
        refine va_newa (atype := .byte) (ty := .byte) (a0 := (k.toNatClampNeg, .inl (fun _ => 0))) hx hb (hts' _ (har _ (by simp))) rfl hK hP hD hS hA2 (fun _ => rfl) hk0 rfl hcb (by omega) (by simp only at hr2; omega) hd (fun q cA2 H1 hK1 hP1 hD1 hS1 => ?_)
        have hcA := tg_kA (k := 10) (t := 2) hK hK1 rfl
        subst hcA
        have hE : (Sum.inl (cA 10, k.toNatClampNeg, .inl (fun _ => 0)) : va_E) = tg_E cA ad (10, k.toNatClampNeg, []) := rfl
        rw [hE, tg_push hw hbo] at hP1 hD1
        have hup : ∀ i, i < bh.length → va_up ad bh.length q i = ad i := fun i hi => by simp [va_up, Nat.ne_of_lt hi]
        have hfin := hk (va_up ad bh.length q) H1 locs ls (cells + 1) (slots + k.toNatClampNeg) (by simp; omega) (by rw [tg_sl_push]; simp only; omega) hw' (tg_all_mono hLo hle) hso' (fun i hi => by rw [hup i (by omega)]; exact ha i hi) hP1 hD1 hS1 (tg_rel hLo hup hL)
        simp only [List.map_cons, tg_trs hso.2 hup, tf_tr, show va_up ad bh.length q bh.length = q by simp [va_up]] at hfin
        exact hfin
      · cases h
    · rename_i k st2
      split at h
      · rename_i hl
        obtain ⟨rfl, hk0, hk6⟩ := hl
        cases h
        simp only [List.all_cons, Bool.and_eq_true] at hso
        have hbo : ((11, k.toNatClampNeg, []) : Nat × Nat × List Value).2.2.all (tg_vok bh.length) = true := rfl
        have hw' := tg_wf_push hw hbo
        have hle : bh.length ≤ (bh ++ [(11, k.toNatClampNeg, ([] : List Value))]).length := by simp
        have hso' : (Value.ref bh.length :: st2).all (tg_vok (bh ++ [(11, k.toNatClampNeg, ([] : List Value))]).length) = true := by
          simp only [List.all_cons, Bool.and_eq_true]
          exact ⟨by simp [tg_vok], tg_all_mono hso.2 hle⟩
        refine ⟨⟨hle, by rw [tg_sl_push]; exact Nat.le_add_right _ _, hw', tg_all_mono hLo hle, hso'⟩, fun hr1 hr2 hk hn0 hs0 => ?_⟩
        intro ad H locs ls cells slots e1 e2 w1 w2 w3 ha hP hD hS hL
        rw [tg_sl_push] at hr2
        simp only [List.length_append, List.length_singleton] at hr1
        have hcb : k.toNatClampNeg * componentBytes .boolean ≤ 536870912 := by
          have h3 := Nat.mul_le_mul hk6 (show componentBytes .boolean ≤ 8 by decide)
          omega
        refine va_newa (atype := .boolean) (ty := .boolean) (a0 := (k.toNatClampNeg, .inl (fun _ => 0))) hx hb (hts' _ (har _ (by simp))) rfl hK hP hD hS hA2 (fun _ => rfl) hk0 rfl hcb (by omega) (by simp only at hr2; omega) hd (fun q cA2 H1 hK1 hP1 hD1 hS1 => ?_)
        have hcA := tg_kA (k := 11) (t := 3) hK hK1 rfl
        subst hcA
        have hE : (Sum.inl (cA 11, k.toNatClampNeg, .inl (fun _ => 0)) : va_E) = tg_E cA ad (11, k.toNatClampNeg, []) := rfl
        rw [hE, tg_push hw hbo] at hP1 hD1
        have hup : ∀ i, i < bh.length → va_up ad bh.length q i = ad i := fun i hi => by simp [va_up, Nat.ne_of_lt hi]
        have hfin := hk (va_up ad bh.length q) H1 locs ls (cells + 1) (slots + k.toNatClampNeg) (by simp; omega) (by rw [tg_sl_push]; simp only; omega) hw' (tg_all_mono hLo hle) hso' (fun i hi => by rw [hup i (by omega)]; exact ha i hi) hP1 hD1 hS1 (tg_rel hLo hup hL)
        simp only [List.map_cons, tg_trs hso.2 hup, tf_tr, show va_up ad bh.length q bh.length = q by simp [va_up]] at hfin
        exact hfin
      · cases h
    · rename_i k st2
      split at h
      · rename_i hl
        obtain ⟨rfl, hk0, hk6⟩ := hl
        cases h
        simp only [List.all_cons, Bool.and_eq_true] at hso
        have hbo : ((12, k.toNatClampNeg, []) : Nat × Nat × List Value).2.2.all (tg_vok bh.length) = true := rfl
        have hw' := tg_wf_push hw hbo
        have hle : bh.length ≤ (bh ++ [(12, k.toNatClampNeg, ([] : List Value))]).length := by simp
        have hso' : (Value.ref bh.length :: st2).all (tg_vok (bh ++ [(12, k.toNatClampNeg, ([] : List Value))]).length) = true := by
          simp only [List.all_cons, Bool.and_eq_true]
          exact ⟨by simp [tg_vok], tg_all_mono hso.2 hle⟩
        refine ⟨⟨hle, by rw [tg_sl_push]; exact Nat.le_add_right _ _, hw', tg_all_mono hLo hle, hso'⟩, fun hr1 hr2 hk hn0 hs0 => ?_⟩
        intro ad H locs ls cells slots e1 e2 w1 w2 w3 ha hP hD hS hL
        rw [tg_sl_push] at hr2
        simp only [List.length_append, List.length_singleton] at hr1
        have hcb : k.toNatClampNeg * componentBytes .long ≤ 536870912 := by
          have h3 := Nat.mul_le_mul hk6 (show componentBytes .long ≤ 8 by decide)
          omega
        refine va_newa (atype := .long) (ty := .long) (a0 := (k.toNatClampNeg, .inr (.inl (fun _ => 0)))) hx hb (hts' _ (har _ (by simp))) rfl hK hP hD hS hA2 (fun _ => rfl) hk0 rfl hcb (by omega) (by simp only at hr2; omega) hd (fun q cA2 H1 hK1 hP1 hD1 hS1 => ?_)
        have hcA := tg_kA (k := 12) (t := 4) hK hK1 rfl
        subst hcA
        have hE : (Sum.inl (cA 12, k.toNatClampNeg, .inr (.inl (fun _ => 0))) : va_E) = tg_E cA ad (12, k.toNatClampNeg, []) := rfl
        rw [hE, tg_push hw hbo] at hP1 hD1
        have hup : ∀ i, i < bh.length → va_up ad bh.length q i = ad i := fun i hi => by simp [va_up, Nat.ne_of_lt hi]
        have hfin := hk (va_up ad bh.length q) H1 locs ls (cells + 1) (slots + k.toNatClampNeg) (by simp; omega) (by rw [tg_sl_push]; simp only; omega) hw' (tg_all_mono hLo hle) hso' (fun i hi => by rw [hup i (by omega)]; exact ha i hi) hP1 hD1 hS1 (tg_rel hLo hup hL)
        simp only [List.map_cons, tg_trs hso.2 hup, tf_tr, show va_up ad bh.length q bh.length = q by simp [va_up]] at hfin
        exact hfin
      · cases h
    · cases h
  case anewarray j =>
    simp only [tg_step] at h
    split at h
    · rename_i ci k st2 hj
      split at h
      · rename_i hl
        obtain ⟨rfl, hk0, hk6, hci⟩ := hl
        cases h
        simp only [List.all_cons, Bool.and_eq_true] at hso
        obtain ⟨C, hc1, hc2, hc3⟩ := hN2 _ _ hj
        have hbo : ((13 + ci, k.toNatClampNeg, List.replicate k.toNatClampNeg Value.null) : Nat × Nat × List Value).2.2.all (tg_vok bh.length) = true := List.all_eq_true.mpr fun v hv => by rw [List.eq_of_mem_replicate hv]; rfl
        have hw' := tg_wf_push hw hbo
        have hle : bh.length ≤ (bh ++ [(13 + ci, k.toNatClampNeg, List.replicate k.toNatClampNeg Value.null)]).length := by simp
        have hso' : (Value.ref bh.length :: st2).all (tg_vok (bh ++ [(13 + ci, k.toNatClampNeg, List.replicate k.toNatClampNeg Value.null)]).length) = true := by
          simp only [List.all_cons, Bool.and_eq_true]
          exact ⟨by simp [tg_vok], tg_all_mono hso.2 hle⟩
        refine ⟨⟨hle, by rw [tg_sl_push]; exact Nat.le_add_right _ _, hw', tg_all_mono hLo hle, hso'⟩, fun hr1 hr2 hk hn0 hs0 => ?_⟩
        intro ad H locs ls cells slots e1 e2 w1 w2 w3 ha hP hD hS hL
        rw [tg_sl_push] at hr2
        simp only [List.length_append, List.length_singleton] at hr1
        refine va_newq hx hb hown (hts' _ hc1) hc2 hK hP hD hS hA2 hk0 rfl (by omega) (by omega) (by simp only at hr2; omega) hd (fun q cA2 H1 hK1 hP1 hD1 hS1 => ?_)
        have hcA := tg_kA hK hK1 hc3
        subst hcA
        have hE : (Sum.inl (cA (13 + ci), k.toNatClampNeg, .inr (.inr (.inr (.inr (fun _ => none))))) : va_E) = tg_E cA ad (13 + ci, k.toNatClampNeg, List.replicate k.toNatClampNeg Value.null) := by
          have hf : (fun i => tg_rf ad ((List.replicate k.toNatClampNeg Value.null).getD i .null)) = fun _ => none := by
            funext i
            rw [List.getD_eq_getElem?_getD, List.getElem?_replicate]
            split <;> rfl
          unfold tg_E
          rw [if_neg (by show ¬ 13 + ci < 8; omega), if_neg (by show ¬ 13 + ci < 12; omega), if_neg (by show ¬ 13 + ci = 12; omega)]
          simp only [hf]
        rw [hE, tg_push hw hbo] at hP1 hD1
        have hup : ∀ i, i < bh.length → va_up ad bh.length q i = ad i := fun i hi => by simp [va_up, Nat.ne_of_lt hi]
        have hfin := hk (va_up ad bh.length q) H1 locs ls (cells + 1) (slots + k.toNatClampNeg) (by simp; omega) (by rw [tg_sl_push]; simp only; omega) hw' (tg_all_mono hLo hle) hso' (fun i hi => by rw [hup i (by omega)]; exact ha i hi) hP1 hD1 hS1 (tg_rel hLo hup hL)
        simp only [List.map_cons, tg_trs hso.2 hup, tf_tr, show va_up ad bh.length q bh.length = q by simp [va_up]] at hfin
        exact hfin
      · cases h
    · cases h
  case new j =>
    simp only [tg_step] at h
    split at h
    · rename_i ci hj
      split at h
      · rename_i hl
        subst hl
        cases h
        obtain ⟨C, T, n, hc1, hc2, hc3, hc4⟩ := hN _ _ hj
        obtain ⟨d1, d2, d3⟩ := tg_cls hc1
        obtain ⟨f1, f2, f3, f4, f5, f6⟩ := tg_cls2 hc1
        have hbo : ((ci, tf_Wl ci, tg_new ci) : Nat × Nat × List Value).2.2.all (tg_vok bh.length) = true := by
          refine List.all_eq_true.mpr fun v hv => ?_
          simp only [tg_new, List.mem_map] at hv
          obtain ⟨a, -, rfl⟩ := hv
          split
          · rfl
          · split <;> rfl
        have hw' := tg_wf_push hw hbo
        have hle : bh.length ≤ (bh ++ [(ci, tf_Wl ci, tg_new ci)]).length := by simp
        have hso' : (Value.ref bh.length :: st).all (tg_vok (bh ++ [(ci, tf_Wl ci, tg_new ci)]).length) = true := by
          simp only [List.all_cons, Bool.and_eq_true]
          exact ⟨by simp [tg_vok], tg_all_mono hso hle⟩
        refine ⟨⟨hle, by rw [tg_sl_push]; exact Nat.le_add_right _ _, hw', tg_all_mono hLo hle, hso'⟩, fun hr1 hr2 hk hn0 hs0 => ?_⟩
        intro ad H locs ls cells slots e1 e2 w1 w2 w3 ha hP hD hS hL
        rw [tg_sl_push] at hr2
        simp only [List.length_append, List.length_singleton] at hr1
        refine va_new (ci := ci) (fs := tg_new ci) (C := C) (T := T) (N := n) hx hb hts (fun w hw => hsub _ (f3 w hw)) (tf_tyf ci) f4 hown (hts' _ hc2) (hts' _ hc3) (hts' _ hc4) hK hP hD hS hA2 hc1 d2 (by omega) (by simp only at hr2; omega) hd (fun q H1 hP1 hD1 hS1 => ?_)
        have hE : (Sum.inr (ci, tg_new ci) : va_E) = tg_E cA ad (ci, tf_Wl ci, tg_new ci) := by
          unfold tg_E
          rw [if_pos (show ci < 8 from f1)]
          have : (tg_new ci).map (tf_tr ad) = tg_new ci := by
            conv => rhs; rw [← List.map_id (tg_new ci)]
            refine List.map_congr_left fun v hv => ?_
            simp only [tg_new, List.mem_map] at hv
            obtain ⟨a, -, rfl⟩ := hv
            split
            · rfl
            · split <;> rfl
          rw [this]
        rw [hE, tg_push hw hbo] at hP1 hD1
        have hup : ∀ i, i < bh.length → va_up ad bh.length q i = ad i := fun i hi => by simp [va_up, Nat.ne_of_lt hi]
        have hfin := hk (va_up ad bh.length q) H1 locs ls (cells + 1) (slots + n) (by simp; omega) (by rw [tg_sl_push]; simp only; omega) hw' (tg_all_mono hLo hle) hso' (fun i hi => by rw [hup i (by omega)]; exact ha i hi) hP1 hD1 hS1 (tg_rel hLo hup hL)
        simp only [List.map_cons, tg_trs hso hup, tf_tr, show va_up ad bh.length q bh.length = q by simp [va_up]] at hfin
        exact hfin
      · cases h
    · cases h
  case putfield j =>
    simp only [tg_step] at h
    split at h
    · rename_i ci q v x st2 hj
      split at h
      · rename_i kd ln2 vals hbx
        split at h
        · rename_i hl
          obtain ⟨rfl, rfl, hq, hs⟩ := hl
          cases h
          obtain ⟨C, T, n, hc1, hc2, hc3⟩ := hF _ _ _ hj
          obtain ⟨f1, f2, f3, f4, f5, f6⟩ := tg_cls2 hc1
          simp only [List.all_cons, Bool.and_eq_true] at hso
          have hbo : ((kd, ln2, vals.set q (.int v)) : Nat × Nat × List Value).2.2.all (tg_vok bh.length) = true := tg_vset (tg_wf_at hw hbx) rfl
          have hw' := tg_wf_set (x := x) hw hbo
          have hsl : tg_sl (bh.set x (kd, ln2, vals.set q (.int v))) = tg_sl bh := tg_sl_set hbx rfl
          refine ⟨⟨by simp, by rw [hsl]; exact Nat.le_refl _, hw', by simpa using hLo, by simpa using hso.2.2⟩, fun hr1 hr2 hk hn0 hs0 => ?_⟩
          intro ad H locs ls cells slots e1 e2 w1 w2 w3 ha hP hD hS hL
          have hwe : (wx ++ tg_ws cA ad bh)[wx.length + x]? = some (ad x, .inr (kd, vals.map (tf_tr ad))) := by
            rw [tg_get hbx wx, tg_E, if_pos (show kd < 8 from f1)]
          have hset := tg_set (cA := cA) (ad := ad) (b' := (kd, ln2, vals.set q (.int v))) (e := .inr (kd, (vals.map (tf_tr ad)).set q (.int v))) hbx (by rw [tg_E, if_pos (show kd < 8 from f1), List.map_set]; rfl) wx
          refine va_put (D := D) (v := .int v) (ty := .int) (C := C) (T := T) (N := n) hx hb hts (fun w hw => hsub _ (f3 w hw)) (tf_tyf kd) f4 f5 hown hK hP hD hS (wx.length + x) hwe hc1 q hc2 (hts' _ hc3) (fun _ h => h) (f6 q hc2 hs).1 (by rw [f4 q hc2, (f6 q hc2 hs).2]) rfl rfl (by simpa using hq) hd (fun H1 locs1 hP1 hD1 hS1 => ?_)
          rw [hset] at hP1 hD1
          exact hk ad H1 locs1 ls cells slots (by simpa using e1) (by rw [hsl]; exact e2) hw' (by simpa using hLo) (by simpa using hso.2.2) ha hP1 hD1 hS1 hL
        · cases h
      · cases h
    · rename_i ci q v x st2 hj
      split at h
      · rename_i kd ln2 vals hbx
        split at h
        · rename_i hl
          obtain ⟨rfl, rfl, rfl, hq, hs⟩ := hl
          cases h
          obtain ⟨C, T, n, hc1, hc2, hc3⟩ := hF _ _ _ hj
          obtain ⟨d1, d2, d3⟩ := tg_cls hc1
          obtain ⟨f1, f2, f3, f4, f5, f6⟩ := tg_cls2 hc1
          obtain ⟨g1, g2, g3⟩ := d1 q hc2 hs
          simp only [List.all_cons, Bool.and_eq_true] at hso
          have hbo : ((kd, ln2, vals.set q (.ref v)) : Nat × Nat × List Value).2.2.all (tg_vok bh.length) = true := tg_vset (tg_wf_at hw hbx) hso.1
          have hw' := tg_wf_set (x := x) hw hbo
          have hsl : tg_sl (bh.set x (kd, ln2, vals.set q (.ref v))) = tg_sl bh := tg_sl_set hbx rfl
          refine ⟨⟨by simp, by rw [hsl]; exact Nat.le_refl _, hw', by simpa using hLo, by simpa using hso.2.2⟩, fun hr1 hr2 hk hn0 hs0 => ?_⟩
          intro ad H locs ls cells slots e1 e2 w1 w2 w3 ha hP hD hS hL
          have hwe : (wx ++ tg_ws cA ad bh)[wx.length + x]? = some (ad x, .inr (kd, vals.map (tf_tr ad))) := by
            rw [tg_get hbx wx, tg_E, if_pos (show kd < 8 from f1)]
          have hset := tg_set (cA := cA) (ad := ad) (b' := (kd, ln2, vals.set q (.ref v))) (e := .inr (kd, (vals.map (tf_tr ad)).set q (.ref (ad v)))) hbx (by rw [tg_E, if_pos (show kd < 8 from f1), List.map_set]; rfl) wx
          refine va_putF (D := D) (v := .ref (ad v)) (ty := tf_tyf kd q) (C := C) (T := T) (N := n) hx hb hts (fun w hw => hsub _ (f3 w hw)) (tf_tyf kd) f4 f5 hown hK hP hD hS (wx.length + x) hwe hc1 q hc2 (hts' _ hc3) (fun _ h => h) g1 hnm (by rw [g2]; exact hoc _ _ _ hc1) (f4 q hc2) (g3 _).1 (g3 _).2 (by simpa using hq) hd (fun H1 locs1 hP1 hD1 hS1 => ?_)
          rw [hset] at hP1 hD1
          exact hk ad H1 locs1 ls cells slots (by simpa using e1) (by rw [hsl]; exact e2) hw' (by simpa using hLo) (by simpa using hso.2.2) ha hP1 hD1 hS1 hL
        · cases h
      · cases h
    · cases h
  case getfield j =>
    simp only [tg_step] at h
    split at h
    · rename_i ci q x st2 hj
      split at h
      · rename_i kd ln2 vals hbx
        split at h
        · rename_i c2 hvq
          split at h
          · rename_i hl
            obtain ⟨rfl, rfl⟩ := hl
            cases h
            obtain ⟨C, T, n, hc1, hc2, hc3⟩ := hF _ _ _ hj
            obtain ⟨f1, f2, f3, f4, f5, f6⟩ := tg_cls2 hc1
            simp only [List.all_cons, Bool.and_eq_true] at hso
            have hv := List.all_eq_true.mp (tg_wf_at hw hbx) _ (List.mem_of_getElem? hvq)
            refine ⟨⟨Nat.le_refl _, Nat.le_refl _, hw, hLo, by simp only [List.all_cons, Bool.and_eq_true]; exact ⟨hv, hso.2⟩⟩, fun _ _ hk _ _ => ?_⟩
            intro ad H locs ls cells slots e1 e2 w1 w2 w3 ha hP hD hS hL
            have hwe : (wx ++ tg_ws cA ad bh)[wx.length + x]? = some (ad x, .inr (kd, vals.map (tf_tr ad))) := by
              rw [tg_get hbx wx, tg_E, if_pos (show kd < 8 from f1)]
            exact va_get (D := D) (C := C) (T := T) (N := n) hx hb hts (fun w hw => hsub _ (f3 w hw)) hown hK hP (wx.length + x) hwe hc1 q hc2 (hts' _ hc3) (fun _ h => h) (v := .ref (ad c2)) (by rw [List.getElem?_map, hvq]; rfl) hd (hk ad H locs ls cells slots e1 e2 w1 w2 (by simp only [List.all_cons, Bool.and_eq_true]; exact ⟨hv, hso.2⟩) ha hP hD hS hL)
          · cases h
        · cases h
      · cases h
    · cases h
  case aastore =>
    simp only [tg_step] at h
    split at h
    · rename_i v i x st2
      split at h
      · rename_i kd len vals ci l2 v2 hbx hbv
        split at h
        · rename_i hl
          obtain ⟨rfl, hci, rfl, rfl, hi0, hil⟩ := hl
          cases h
          obtain ⟨C, T, n, hc1, hc2⟩ := hcl ci hci
          simp only [List.all_cons, Bool.and_eq_true] at hso
          have hbo : ((13 + ci, vals.length, vals.set i.toNatClampNeg (.ref v)) : Nat × Nat × List Value).2.2.all (tg_vok bh.length) = true := tg_vset (tg_wf_at hw hbx) hso.1
          have hw' := tg_wf_set (x := x) hw hbo
          have hsl : tg_sl (bh.set x (13 + ci, vals.length, vals.set i.toNatClampNeg (.ref v))) = tg_sl bh := tg_sl_set hbx rfl
          refine ⟨⟨by simp, by rw [hsl]; exact Nat.le_refl _, hw', by simpa using hLo, by simpa using hso.2.2.2⟩, fun hr1 hr2 hk hn0 hs0 => ?_⟩
          intro ad H locs ls cells slots e1 e2 w1 w2 w3 ha hP hD hS hL
          have hE : ∀ vs : List Value, tg_E cA ad (13 + ci, vals.length, vs) = .inl (cA (13 + ci), vals.length, .inr (.inr (.inr (.inr (fun i => tg_rf ad (vs.getD i .null)))))) := by
            intro vs
            unfold tg_E
            rw [if_neg (by show ¬ 13 + ci < 8; omega), if_neg (by show ¬ 13 + ci < 12; omega), if_neg (by show ¬ 13 + ci = 12; omega)]
          have hwe := tg_get (cA := cA) (ad := ad) hbx wx
          rw [hE] at hwe
          have hwv := tg_get (cA := cA) (ad := ad) hbv wx
          rw [tg_E, if_pos (show ci < 8 by omega)] at hwv
          have hset := tg_set (cA := cA) (ad := ad) (b' := (13 + ci, vals.length, vals.set i.toNatClampNeg (.ref v))) (e := .inl (cA (13 + ci), vals.length, .inr (.inr (.inr (.inr (va_up (fun i => tg_rf ad (vals.getD i .null)) i.toNatClampNeg (some (ad v)))))))) hbx (by
            rw [hE]
            refine congrArg (fun f => (Sum.inl (cA (13 + ci), vals.length, .inr (.inr (.inr (.inr f)))) : va_E)) ?_
            funext k
            simp only [va_up, List.getD_eq_getElem?_getD, List.getElem?_set]
            by_cases hk : k = i.toNatClampNeg
            · rw [if_pos hk, if_pos hk.symm, if_pos hil]
              rfl
            · rw [if_neg hk, if_neg (fun q => hk q.symm)]) wx
          refine va_astq hx hb hK hP hD hS (wx.length + x) (5 + ci) (wx.length + v) ci (r := (C, T, n)) hwe hc2 hwv hc1 (fun q => q.elim hi0 (fun q => absurd hil (Nat.not_lt.mpr q))) hd (fun H1 locs1 hP1 hD1 hS1 => ?_)
          rw [hset] at hP1 hD1
          exact hk ad H1 locs1 ls cells slots (by simpa using e1) (by rw [hsl]; exact e2) hw' (by simpa using hLo) (by simpa using hso.2.2.2) ha hP1 hD1 hS1 hL
        · cases h
      · cases h
    · cases h
  case invokespecial j =>
    simp only [tg_step] at h
    split at h
    · rename_i x st2 hj
      split at h
      · rename_i hl
        obtain ⟨rfl, hsum⟩ := hl
        cases h
        simp only [List.all_cons, Bool.and_eq_true] at hso
        refine ⟨⟨Nat.le_refl _, Nat.le_refl _, hw, hLo, hso.2⟩, fun _ _ hk _ _ => ?_⟩
        intro ad H locs ls cells slots e1 e2 w1 w2 w3 ha hP hD hS hL
        exact W.objInit hx hb hown (hts' _ (hK0 _ hj)) (hts' _ hoi) (hts' _ hoc2) rfl (hL.1.trans hml.symm) rfl hd hfr.1 (by show 2 * 0 + _ + 12 ≤ _; rw [tf_catsum]; omega) (hk ad H locs ls cells slots e1 e2 w1 w2 hso.2 ha hP hD hS hL)
      · cases h
    · rename_i k x st2 hj
      split at h
      · rename_i bh2 hsb
        split at h
        · rename_i hl
          obtain ⟨rfl, hsum⟩ := hl
          cases h
          simp only [List.all_cons, Bool.and_eq_true] at hso
          have hxl : x < bh.length := by simpa [tg_vok] using hso.1
          obtain ⟨m1, m2, m3⟩ := hsm _ _ _ _ hsb hw hxl
          refine ⟨⟨m1, m2, m3, tg_all_mono hLo m1, tg_all_mono hso.2 m1⟩, fun hr1 hr2 hk hn0 hs0 => ?_⟩
          intro ad H locs ls cells slots e1 e2 w1 w2 w3 ha hP hD hS hL
          obtain ⟨yk, bk, Lk, dk, hM, hcode, hlk, hini, hin, hyn, hdd, hR1, hR2⟩ := hKk _ _ hj
          have hM1 := hM wx ad x bh bh' H.size (bh'.length - bh.length) (tg_sl bh' - tg_sl bh) hsb hw hxl (by omega) (by omega)
          have hsubA : ∀ q, va_A (wx ++ tg_ws cA ad bh) H.size q → A q := by
            intro q hq
            rcases hq with ⟨k2, e2, h2⟩ | hq
            · exact hD.2 k2 (q, e2) h2
            · exact hA2 q (Nat.le_trans hS.1 hq)
          have cw := va_cnB (R := R) 0 hts (tf_goodBW tf_BW_good hsub hcode) rfl (rm := { frames := dk, cells := bh'.length - bh.length, slots := tg_sl bh' - tg_sl bh, locals := 32 * dk }) rfl rfl hlk (hts' _ hini) hdd ⟨hR1, hR2⟩
          have hpre : PreS s H (tg_Pc D cA wx ad x bh H.size) [.ref (ad x)] := by
            refine ⟨fun a U g mk q => ?_, fun U hU hW => ?_⟩
            · obtain ⟨q0, q1, qP, qK, qX, qD⟩ := q
              exact ⟨q0, q1, qP, va_K.moved (u := U) (U := U.calling g mk a) (Vm.Alike.refl U.vm) qK, tg_SX.same (u := U) (U := U.calling g mk a) rfl qX, qD⟩
            · exact ⟨rfl, by rw [hU], by rw [hU]; exact hP, va_K.moved hW.alike hK, hSX.warm hW, hD.weaken (fun _ _ _ _ => trivial)⟩
          have hrun : va_Run p l e R s m args below meth c H locs cells slots (bh'.length - bh.length) (tg_sl bh' - tg_sl bh) (F0 m pc ls (.ref (ad x) :: st'.map (tf_tr ad))) (st'.map (tf_tr ad)) (tg_Qc D cA wx ad bh bh' (va_A (wx ++ tg_ws cA ad bh) H.size) [.ref (ad x)].toArray) (va_A (wx ++ tg_ws cA ad bh) H.size) :=
            va_runIN (As := []) (rest := st'.map (tf_tr ad)) (b := ad x) ⟨hx, hb, hml, hown, hts⟩ hM1 ⟨cw, hyn, hts' _ hin⟩ hpre rfl rfl hL.1 rfl (by show 2 * 0 + _ ≤ 8; rw [tf_catsum]; omega) hd ⟨by omega, by omega⟩
          intro T hT X
          obtain ⟨v, st₀, t, T', L3, h0, X', hL3, e3, e4, ⟨⟨ad', hv, hag, hP1, hD1⟩, hz, hkk⟩, hst⟩ := hrun T hT X
          cases hv
          rw [h0] at hz hkk
          have hS1 : va_S A s.heap T'.heap (locs ++ L3) := ⟨Nat.le_trans hS.1 (by rw [e3]; exact hz), fun q h1 h2 => by rw [e3, hkk q (Nat.lt_of_lt_of_le h1 hS.1) (fun z => h2 (hsubA q z))]; exact hS.2.1 q h1 h2, fun q hq => by
            rcases List.mem_append.mp hq with h | h
            · exact hS.2.2 q h
            · exact hsubA _ (hL3 q h)⟩
          have hfin := hk ad' T'.heap (locs ++ L3) ls (cells + (bh'.length - bh.length)) (slots + (tg_sl bh' - tg_sl bh)) (by omega) (by omega) m3 (tg_all_mono hLo m1) (tg_all_mono hso.2 m1) (fun i hi => by rw [hag i (by omega)]; exact ha i hi) (by rw [e3]; exact hP1) (hD1.weaken (fun k2 q _ hq => hsubA _ hq)) hS1 (tg_rel hLo hag hL)
          rw [tg_trs hso.2 hag] at hfin
          obtain ⟨t2, a1, b1⟩ := hfin T' rfl X'
          exact ⟨t2, hst t2 a1, b1⟩
        · cases h
      · cases h
    · cases h
end TGS
