/-! ===== the builder is sound ===== -/
/-- final fields of references: what their table says -/
def tg_ckC (ci : Nat) : Bool := match vwCl[ci]? with
  | some (C, T, N) => (List.range N).all (fun k => (tf_S ci k != 2 || (decide ((T k).2.2.2 = true) && decide ((T k).1 = C) && (match tf_tyf ci k with | .object _ => true | .array _ => true | _ => false))) && decide (defaultValue (tf_tyf ci k) = vp_V (tg_new ci) k)) && decide ((tg_new ci).length = N)
  | none => false
theorem tg_ckC_all : (List.range 8).all tg_ckC = true := by decide +kernel
theorem tg_cls {ci : Nat} {C : String} {T : u_T} {N : Nat} (h : vwCl[ci]? = some (C, T, N)) : (∀ k, k < N → tf_S ci k = 2 → (T k).2.2.2 = true ∧ (T k).1 = C ∧ ∀ q, narrow (tf_tyf ci k) (.ref q) = .ref q ∧ fits (tf_tyf ci k) (.ref q) = true) ∧ (∀ k, k < N → defaultValue (tf_tyf ci k) = vp_V (tg_new ci) k) ∧ (tg_new ci).length = N := by
  have h8 : ci < 8 := by
    have := (List.getElem?_eq_some_iff.mp h).1
    simpa using this
  have h1 := tf_rng tg_ckC_all h8
  simp only [tg_ckC, h, Bool.and_eq_true, decide_eq_true_eq] at h1
  refine ⟨fun k hk hs => ?_, fun k hk => ?_, h1.2⟩
  · have h2 := tf_rng h1.1 hk
    simp only [hs, Bool.and_eq_true, Bool.or_eq_true, decide_eq_true_eq] at h2
    have h3 := h2.1.resolve_left (by decide)
    refine ⟨h3.1.1, h3.1.2, fun q => ?_⟩
    have h4 := h3.2
    cases hty : tf_tyf ci k with
    | object n => exact ⟨rfl, rfl⟩
    | array t => exact ⟨rfl, rfl⟩
    | _ => rw [hty] at h4; cases h4
  · have h2 := tf_rng h1.1 hk
    simp only [Bool.and_eq_true, decide_eq_true_eq] at h2
    exact h2.2
theorem tg_cls2 {ci : Nat} {C : String} {T : u_T} {N : Nat} (h : vwCl[ci]? = some (C, T, N)) : ci < 8 ∧ N = tf_Wl ci ∧ (∀ w ∈ u_ws C T N, w ∈ tf_BW) ∧ (∀ k, k < N → parseFieldDescriptor (T k).2.2.1 = some (tf_tyf ci k)) ∧ (∀ a, a < N → ∀ b, b < N → a ≠ b → (T a).2.1 ≠ (T b).2.1) ∧ (∀ k, k < N → tf_S ci k = 0 → (T k).2.2.2 = false ∧ tf_tyf ci k = .int) := by
  have ha8 : ci < 8 := by
    have := (List.getElem?_eq_some_iff.mp h).1
    simpa using this
  have h2 := tf_rng tf_ckC_all ha8
  simp only [tf_ckC, h, Bool.and_eq_true, decide_eq_true_eq] at h2
  obtain ⟨⟨⟨hN, hlay⟩, hty⟩, hnm⟩ := h2
  refine ⟨ha8, hN, ?_, ?_, ?_, ?_⟩
  · intro w hw
    simp only [u_ws, List.mem_map, List.mem_range] at hw
    obtain ⟨k, hk, rfl⟩ := hw
    exact tf_isw_in (tf_rng hlay hk)
  · intro k hk
    have := tf_rng hty hk
    simp only [Bool.and_eq_true, decide_eq_true_eq] at this
    exact this.1
  · intro x hx y hy hne
    have := tf_rng (tf_rng hnm hx) hy
    simp only [Bool.or_eq_true, beq_iff_eq, decide_eq_true_eq] at this
    exact this.resolve_left hne
  · intro k hk hs
    have := tf_rng hty hk
    simp [hs] at this
    exact this.2
/-- what stands still while objects are made: links to nest mates' constructors, arrays of objects -/
def tg_SX (U : State) : Prop := (va_Nw (.methodLinkNest RX8 11 yX1_init RX8) U ∧ va_Nw (.methodLinkNest RX8 21 yX3_init RX8) U ∧ va_Nw (.methodLinkNest RX8 28 yX6_init RX8) U ∧ va_Nw (.methodLinkNest RX8 35 yX2_init RX8) U ∧ va_Nw (.methodLinkNest RX8 42 yX4_init RX8) U ∧ va_Nw (.methodLinkNest RX1 44 yX5_init RX8) U) ∧ va_AO RX1 U ∧ va_AO RX2 U ∧ va_AO RX7 U
theorem tg_SX.warm {u U : State} (hW : u.WarmedH U.vm) (h : tg_SX u) : tg_SX U := ⟨⟨h.1.1.warmM hW, h.1.2.1.warmM hW, h.1.2.2.1.warmM hW, h.1.2.2.2.1.warmM hW, h.1.2.2.2.2.1.warmM hW, h.1.2.2.2.2.2.warmM hW⟩, h.2.1.moved hW.alike, h.2.2.1.moved hW.alike, h.2.2.2.moved hW.alike⟩
theorem tg_SX.same {u U : State} (hv : u.vm = U.vm) (h : tg_SX u) : tg_SX U := ⟨⟨h.1.1.same rfl hv, h.1.2.1.same rfl hv, h.1.2.2.1.same rfl hv, h.1.2.2.2.1.same rfl hv, h.1.2.2.2.2.1.same rfl hv, h.1.2.2.2.2.2.same rfl hv⟩, h.2.1.moved (by rw [hv]; exact Vm.Alike.refl _), h.2.2.1.moved (by rw [hv]; exact Vm.Alike.refl _), h.2.2.2.moved (by rw [hv]; exact Vm.Alike.refl _)⟩
/-- where the builder stands -/
def tg_At (Wf : Nat → Nat → Heap → List Loc → JFrame → Prop) (m : MethodId) (H0 : Heap) (D : va_G) (cA : Nat → ClassId) (wx : va_W) (A : Nat → Prop) (ad0 : Nat → Nat) (n0 s0 nL pc : Nat) (L st : List Value) (bh : BH) : Prop :=
  ∀ (ad : Nat → Nat) (H : Heap) (locs : List Loc) (ls : Array Slot) (cells slots : Nat), n0 + cells = bh.length → s0 + slots = tg_sl bh → tg_wf bh = true → L.all (tg_vok bh.length) = true → st.all (tg_vok bh.length) = true → (∀ i, i < n0 → ad i = ad0 i) → va_P D vwCl (wx ++ tg_ws cA ad bh) H → va_D A (wx ++ tg_ws cA ad bh) → va_S A H0 H locs → tf_rel ad ls nL L → Wf cells slots H locs (F0 m pc ls (st.map (tf_tr ad)))
def tg_Pc (D : va_G) (cA : Nat → ClassId) (wx : va_W) (ad : Nat → Nat) (x : Nat) (bh : BH) (sz : Nat) : Array Value → State → Prop := va_Pc [.ref (ad x)] (fun U => U.heap.size = sz ∧ va_P D vwCl (wx ++ tg_ws cA ad bh) U.heap ∧ va_K D vwCl (tf_ty cA) U ∧ tg_SX U ∧ va_D (fun _ => True) (wx ++ tg_ws cA ad bh))
def tg_Qc (D : va_G) (cA : Nat → ClassId) (wx : va_W) (ad : Nat → Nat) (bh bh' : BH) (A : Nat → Prop) : Array Value → State → Outcome → State → Prop := fun _ st oc t => (∃ ad' : Nat → Nat, oc = .returned none ∧ (∀ i, i < bh.length → ad' i = ad i) ∧ va_P D vwCl (wx ++ tg_ws cA ad' bh') t.heap ∧ va_D A (wx ++ tg_ws cA ad' bh')) ∧ va_F A st t
/-- a constructor's contract: whatever the builder's run 'sub' does -/
def tg_Met (l : Launch) (D : va_G) (cA : Nat → ClassId) (y : MethodName) (ws : List Jvm.Cond) (d : Nat) (sub : BH → Nat → Option BH) : Prop :=
  ∀ (wx : va_W) (ad : Nat → Nat) (x : Nat) (bh bh' : BH) (sz mc ms : Nat), sub bh x = some bh' → tg_wf bh = true → x < bh.length → bh.length + mc = bh'.length → tg_sl bh + ms = tg_sl bh' → Met l y ws { frames := d, cells := mc, slots := ms, locals := 32 * d } (tg_Pc D cA wx ad x bh sz) (tg_Qc D cA wx ad bh bh' (va_A (wx ++ tg_ws cA ad bh) sz)) mc ms (va_A (wx ++ tg_ws cA ad bh) sz)
theorem tg_kA {s : State} {D : va_G} {cA : Nat → ClassId} {tys : List (ClassId × FieldType)} {q : ClassId} {ty : FieldType} {k t : Nat} (hK : va_K D vwCl (tf_ty cA) s) (hK2 : va_K D vwCl (tys ++ [(q, ty)]) s) (ht : (tf_ty cA)[t]? = some (cA k, ty)) : q = cA k := by
  have h1 := (hK.2 t _ ht).2
  have h2 := (hK2.2 tys.length (q, ty) (by simp)).2
  cases ty with
  | object C =>
    obtain ⟨_, _, _, _, _, e1⟩ := h1
    obtain ⟨_, _, _, _, _, e2⟩ := h2
    exact Option.some.inj (e2.symm.trans e1)
  | _ => exact Option.some.inj ((show s.vm.findClass _ = some q from h2).symm.trans h1)
