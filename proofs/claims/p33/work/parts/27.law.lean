/-! THE CLAIM OUT OF ONE WALK OF THE LAW'S BODY. Your part is whole_start (and what it stands on); all else here is the same for every law, but numbers. -/
def R_law : String := "TreeFlowsLaw"
def lw_P (b : Addr) (xs : List Int32) (args : Array Value) (s : State) : Prop := args = #[.ref b] ∧ s.IntsAt b xs ∧ xs.length ≤ 2048 ∧ (Jvm.Cond.and given_1 narrow_1).before args s = true
def lw_Q (_ : Array Value) (s : State) (o : Outcome) (t : State) : Prop := o = .returned (some (.int 1)) ∧ Framed s o t [] 601024 7293034
def lw_Z (below : List Frame) (a : Array Value) (s : State) : State → Prop := fun t => ∃ o, t.status = .running ∧ Ended t below o ∧ lw_Q a s o t
/-- the law's own end, with 1 on the stack, nothing written that was there before, its room as the claim has it -/
theorem lw_ret {p : Program} {l : Launch} {e : Env} {s : State} {m : MethodId} {below : List Frame} {meth : Method} {c : Code} {b : Nat} (hx : p.tables.exec = Jvm.exec) (hb : c.code = code) (hr : meth.sig.returnType = ret) (hlocks : meth.locks = false) {pc : Nat} {H : Heap} {ls : Array Slot} (hdg : decode code pc = .ok (.ireturn, 1)) : W p l e room_1 s m #[Value.ref b] below meth c H [] 601024 7293034 (lw_Z below #[Value.ref b] s) (F0 m pc ls [.int 1]) := by
  intro T hT X
  obtain ⟨fs, hret, hrun, hended, hW, hframe⟩ := X.leave (v := some (.int 1)) (hlocks := hlocks) (fun h => by rw [hr] at h; cases h)
  have hmeth' : T.vm.method? m = some meth := X.method'
  refine ⟨T.setFrames fs, ?_, .returned (some (.int 1)), hrun, hended, rfl, ⟨_, rfl⟩, hW, hframe⟩
  jvm_step X.here [X.here.top, hx, hb, hdg, hmeth', hr, ret, narrow_b1]
  (try refine ⟨rfl, ?_⟩); (try refine ⟨rfl, ?_⟩)
  first | (intro acts; rw [hret _ acts rfl rfl rfl]) | rw [hret _ _ rfl rfl rfl]
  exact Steps.refl _
/-- what holds at the law's entry: the machine, the code, the tables' words (any of lw_tbl by 'hts w (by decide +kernel)'), the script of L ints xs at the cell b, what the Statement gives of the start (any of its parts by flat_of_before) -/
def lw_At (p : Program) (s : State) (m : MethodId) (meth : Method) (c : Code) (b L : Nat) (xs : Nat → Int32) : Prop :=
  p.tables.exec = Jvm.exec ∧ c.code = code ∧ meth.sig.returnType = ret ∧ c.maxLocals = 7 ∧ s.vm.findClass R_law = some m.cls ∧ (∀ w ∈ lw_tbl, w.before #[Value.ref b] s = true) ∧ va_X b L xs s s.heap ∧ b < s.heap.size ∧ meth.locks = false ∧ (Jvm.Cond.and given_1 narrow_1).before #[Value.ref b] s = true
/-! ===== the law's start: two objects and a row of one long ===== -/
theorem tk_BW : ∀ w ∈ tf_BW, w ∈ lw_tbl := fun _ h => (List.mem_filter.mp h).1
theorem tk_BWin {l : List Jvm.Cond} (h : ∀ w ∈ l, w ∈ tf_BW) : ∀ w ∈ l, w ∈ lw_tbl := fun w hw => tk_BW w (h w hw)
theorem dL_0 : decode code 0 = .ok (.new 8, 3) := by decide +kernel
theorem dL_3 : decode code 3 = .ok (.dup, 1) := by decide +kernel
theorem dL_4 : decode code 4 = .ok (.invokespecial 18, 3) := by decide +kernel
theorem dL_7 : decode code 7 = .ok (.astore_n 1, 1) := by decide +kernel
theorem dL_8 : decode code 8 = .ok (.new 19, 3) := by decide +kernel
theorem dL_11 : decode code 11 = .ok (.dup, 1) := by decide +kernel
theorem dL_12 : decode code 12 = .ok (.invokespecial 21, 3) := by decide +kernel
theorem dL_15 : decode code 15 = .ok (.astore_n 2, 1) := by decide +kernel
theorem dL_16 : decode code 16 = .ok (.iconst 1, 1) := by decide +kernel
theorem dL_17 : decode code 17 = .ok (.newarray .long, 2) := by decide +kernel
theorem dL_19 : decode code 19 = .ok (.astore_n 3, 1) := by decide +kernel
theorem dL_20 : decode code 20 = .ok (.iconst 0, 1) := by decide +kernel
theorem dL_21 : decode code 21 = .ok (.istore 4, 2) := by decide +kernel
def tk_ad (ad ek : Nat → Nat) (q b : Nat) : Nat → Nat := fun c => if c = 297 then q else if c = 500 then b else if 400 ≤ c then ek c else ad c
def tk_h : LH := (fun c => if c = 297 then fun _ => 0 else tj_h.1 c, fun c => if c = 297 then fun _ => 0 else tj_h.2 c)
/-- where references of the first 297 cells lead: among these -/
def tk_ckr (c : Nat) : Bool := if tf_K c < 8 then (List.range (tf_Wl (tf_K c))).all (fun k => tf_S (tf_K c) k != 2 || decide (tf_R c k < 297)) else if tf_K c < 13 then true else if tf_K c = 15 then true else (List.range (tf_N c)).all (fun i => decide (tf_R c i < 297))
theorem tk_ckr_all : (List.range 297).all tk_ckr = true := by decide +kernel
/-- the cells of the verbs' row are empty at first -/
theorem tk_verbs : ∀ c, c < 297 → tf_K c = 15 → ∀ i, i < tf_N c → tj_h.1 c i = -1 := by
  have h : (List.range 297).all (fun c => tf_K c != 15 || (List.range (tf_N c)).all (fun i => decide (tj_h.1 c i = -1))) = true := by decide +kernel
  intro c hc hk i hi
  have h1 := tf_rng h hc
  simp only [hk, bne_self_eq_false, Bool.false_or] at h1
  exact of_decide_eq_true (tf_rng h1 hi)
theorem tk_old {D : va_G} {cA : Nat → ClassId} {ad ek : Nat → Nat} {q b : Nat} {H : Heap} {c : Nat} (hc : c < 297) (hv : va_at D vwCl (ad c, tf_E cA ad tj_h c) H) : va_at D vwCl (tk_ad ad ek q b c, tf_E cA (tk_ad ad ek q b) tk_h c) H := by
  have hk := tf_rng tk_ckr_all hc
  have ea : ∀ d, d < 297 → tk_ad ad ek q b d = ad d := fun d hd => by simp only [tk_ad]; rw [if_neg (by omega), if_neg (by omega), if_neg (by omega)]
  have e1 : tk_h.1 c = tj_h.1 c := by simp only [tk_h]; rw [if_neg (by omega)]
  have e2 : tk_h.2 c = tj_h.2 c := by simp only [tk_h]; rw [if_neg (by omega)]
  rw [ea c hc]
  unfold tk_ckr at hk
  unfold tf_E at hv ⊢
  by_cases h8 : tf_K c < 8
  · rw [if_pos h8] at hk hv ⊢
    have hl : (List.range (tf_Wl (tf_K c))).map (tf_fv (tk_ad ad ek q b) tk_h c) = (List.range (tf_Wl (tf_K c))).map (tf_fv ad tj_h c) := by
      refine List.map_congr_left fun k hkm => ?_
      have hq := tf_rng hk (List.mem_range.mp hkm)
      simp only [tf_fv, e1, e2]
      simp only [Bool.or_eq_true, bne_iff_ne, ne_eq, decide_eq_true_eq] at hq
      split
      · rfl
      · split
        · rfl
        · rename_i n0 n1
          rcases hq with hq | hq
          · exact absurd (tj_S3 h8 (List.mem_range.mp hkm) n0 n1) hq
          · rw [ea _ hq]
    rw [hl]
    exact hv
  · rw [if_neg h8] at hk hv ⊢
    by_cases h12 : tf_K c < 12
    · rw [if_pos h12] at hv ⊢
      rw [e1]
      exact hv
    · rw [if_neg h12] at hv ⊢
      by_cases h12' : tf_K c = 12
      · rw [if_pos h12'] at hv ⊢
        rw [e2]
        exact hv
      · rw [if_neg h12'] at hv ⊢
        by_cases h15 : tf_K c = 15
        · rw [if_pos h15] at hv ⊢
          have hv : H[ad c]? = some (vp_cell (cA 15) (tf_N c, .inr (.inr (.inr (.inr (fun i => tf_vb ad (tj_h.1 c i))))))) := hv
          show H[ad c]? = some (vp_cell _ _)
          rw [hv]
          refine congrArg some ?_
          rw [vp_cell_q, vp_cell_q]
          refine ti_arrV fun i hi => ?_
          rw [e1, tk_verbs c hc h15 i hi]
          rfl
        · rw [if_neg h15] at hv ⊢
          rw [if_neg (by omega), if_neg h15] at hk
          have hv : H[ad c]? = some (vp_cell (cA (tf_K c)) (tf_N c, .inr (.inr (.inr (.inr (fun i => some (ad (tf_R c i)))))))) := hv
          show H[ad c]? = some (vp_cell _ _)
          rw [hv]
          refine congrArg some ?_
          rw [vp_cell_q, vp_cell_q]
          refine ti_arrV fun i hi => ?_
          have := of_decide_eq_true (tf_rng hk hi)
          rw [ea _ this]
theorem tk_world {D : va_G} {cA : Nat → ClassId} {ad ek : Nat → Nat} {q b : Nat} {H : Heap} (hv : va_P D vwCl (tf_ws cA ad 297 tj_h ++ [(q, .inl (cA 12, 1, .inr (.inl (fun _ => 0))))]) H) : va_P D vwCl (tf_ws cA (tk_ad ad ek q b) 298 tk_h) H := by
  have hlen : (tf_ws cA ad 297 tj_h).length = 297 := by simp [tf_ws]
  intro k x hq
  obtain ⟨hk, rfl⟩ := tf_ws_lt hq
  by_cases h297 : k < 297
  · refine tk_old h297 (hv k _ ?_)
    rw [List.getElem?_append_left (by rw [hlen]; exact h297)]
    exact tf_ws_get h297
  · have : k = 297 := by omega
    subst this
    have h1 := hv 297 (q, .inl (cA 12, 1, .inr (.inl (fun _ => 0)))) (by rw [List.getElem?_append_right (by rw [hlen]; exact Nat.le_refl _), hlen]; rfl)
    exact h1
theorem tk_inj {cA : Nat → ClassId} {ad ek : Nat → Nat} {q b : Nat} {e : va_E} {A : Nat → Prop} (hD : va_D A (tf_ws cA ad 297 tj_h ++ [(q, e)])) : tf_inj (tk_ad ad ek q b) 298 ∧ ∀ c, c < 298 → A (tk_ad ad ek q b c) := by
  have hlen : (tf_ws cA ad 297 tj_h).length = 297 := by simp [tf_ws]
  have hg : ∀ c, c < 298 → ∃ e2, (tf_ws cA ad 297 tj_h ++ [(q, e)])[c]? = some (tk_ad ad ek q b c, e2) := by
    intro c hc
    by_cases h297 : c < 297
    · refine ⟨tf_E cA ad tj_h c, ?_⟩
      rw [List.getElem?_append_left (by rw [hlen]; exact h297), tf_ws_get h297]
      simp only [tk_ad]
      rw [if_neg (by omega), if_neg (by omega), if_neg (by omega)]
    · have : c = 297 := by omega
      subst this
      refine ⟨e, ?_⟩
      rw [List.getElem?_append_right (by rw [hlen]; exact Nat.le_refl _), hlen]
      rfl
  refine ⟨fun i j hi hj e0 => ?_, fun c hc => ?_⟩
  · obtain ⟨e1, h1⟩ := hg i hi
    obtain ⟨e2, h2⟩ := hg j hj
    exact hD.1 _ _ _ _ h1 h2 e0
  · obtain ⟨e1, h1⟩ := hg c hc
    exact hD.2 _ _ h1
section TKC
variable {p : Program} {l : Launch} {e : Env} {R : Room} {s : State} {m : MethodId} {args : Array Value} {below : List Frame} {meth : Method} {c : Code} {QW : State → Prop}
/-- behind a constructor: whatever it says of its end -/
theorem tk_call {H : Heap} {locs : List Loc} {cells slots mc ms pc : Nat} {ls : Array Slot} {st0 rest : List Value} {free : Addr → Prop} {P : State → Prop} {a : Array Value} {Qa : Array Value → State → Outcome → State → Prop}
    (hr : va_Run p l e R s m args below meth c H locs cells slots mc ms (F0 m pc ls st0) rest (Qa a) free) (hS : va_S (fun q : Nat => s.heap.size ≤ q) s.heap H locs) (hf : ∀ q, free q → s.heap.size ≤ q)
    (hQ : ∀ (st : State) (oc : Outcome) (t : State), Qa a st oc t → oc = .returned none ∧ P t ∧ st.heap.size ≤ t.heap.size ∧ ∀ q : Nat, q < st.heap.size → ¬ free q → t.heap[q]? = st.heap[q]?)
    (kk : ∀ (t : State) (H1 : Heap) (locs1 : List Loc), t.heap = H1 → P t → va_S (fun q : Nat => s.heap.size ≤ q) s.heap H1 locs1 → W p l e R s m args below meth c H1 locs1 (cells + mc) (slots + ms) QW (F0 m (pc + 3) ls rest)) : W p l e R s m args below meth c H locs cells slots QW (F0 m pc ls st0) := by
  intro T hT X
  obtain ⟨v, st₀, t, T', L, h0, X', hL, e1, e2, hqa, st⟩ := hr T hT X
  obtain ⟨hv, hp, hz, hk⟩ := hQ _ _ _ hqa
  cases hv
  rw [h0] at hz hk
  obtain ⟨t2, a1, b1⟩ := kk t T'.heap (locs ++ L) e1.symm hp
    ⟨Nat.le_trans hS.1 (by rw [e1]; exact hz), fun q h1 h2 => by rw [e1, hk q (Nat.lt_of_lt_of_le h1 hS.1) (fun z => h2 (hf q z))]; exact hS.2.1 q h1 h2, fun q hq => by
      rcases List.mem_append.mp hq with h | h
      · exact hS.2.2 q h
      · exact hf _ (hL q h)⟩ T' rfl X'
  exact ⟨t2, st t2 a1, b1⟩
end TKC
/-- the room's own words -/
def tk_SX (s : State) : Prop := (tg_SX s ∧ va_Nw tf_w4 s) ∧ va_Nw tf_w1 s ∧ va_Nw tf_w2 s ∧ va_Nw tf_w3 s
set_option maxHeartbeats 4000000 in
set_option maxRecDepth 100000 in
/-- from the law's entry to the head of its loop -/
theorem law_pre {p : Program} {e : Env} {s : State} {m : MethodId} {below : List Frame} {meth : Method} {c : Code} (l : Launch) {b L : Nat} {xs : Nat → Int32} {QW : State → Prop} (C0 : lw_At p s m meth c b L xs)
    (hloop : ∀ (D : va_G) (cA : Nat → ClassId) (ad : Nat → Nat) (H : Heap) (locs : List Loc) (ls : Array Slot), va_K D vwCl (tf_ty cA) s → tk_SX s → tf_inj ad 298 → (∀ d, d < 298 → s.heap.size ≤ ad d) → ad 500 = b → tv_K ad (fun q : Nat => s.heap.size ≤ q) s s.heap → va_P D vwCl (tf_ws cA ad 298 tk_h) H → va_S (fun q : Nat => s.heap.size ≤ q) s.heap H locs → tf_rel ad ls 7 [.ref 500, .ref 240, .ref 270, .ref 297, .int 0, tf_z, tf_z] → W p l e room_1 s m #[Value.ref b] below meth c H locs 298 11103 QW (F0 m 23 ls [])) :
    W p l e room_1 s m #[Value.ref b] below meth c s.heap [] 0 0 QW (entryFrame m ([Value.ref b] : List Value).toArray 7) := by
  obtain ⟨hx, hb, hr, hml, hown, hts, hX, hbl, hlocks, hgv⟩ := id C0
  have hA : ∀ q : Nat, s.heap.size ≤ q → (fun q : Nat => s.heap.size ≤ q) q := fun _ h => h
  obtain ⟨c0, iS0, hKn0⟩ := u_known (n := 14) hts (fun w hw => tk_BWin (tg_cls2 (ci := 0) rfl).2.2.1 w hw) (hts _ (tk_BW _ (tf_isw_in (i := 139) (w := .instantiable "TreeFlows$Net" 14) (by decide +kernel))))
  obtain ⟨c1, iS1, hKn1⟩ := u_known (n := 4) hts (fun w hw => tk_BWin (tg_cls2 (ci := 1) rfl).2.2.1 w hw) (hts _ (tk_BW _ (tf_isw_in (i := 321) (w := .instantiable "TreeFlows$Page" 4) (by decide +kernel))))
  obtain ⟨c2, iS2, hKn2⟩ := u_known (n := 7) hts (fun w hw => tk_BWin (tg_cls2 (ci := 2) rfl).2.2.1 w hw) (hts _ (tk_BW _ (tf_isw_in (i := 254) (w := .instantiable "TreeFlows$Route" 7) (by decide +kernel))))
  obtain ⟨c3, iS3, hKn3⟩ := u_known (n := 11) hts (fun w hw => tk_BWin (tg_cls2 (ci := 3) rfl).2.2.1 w hw) (hts _ (tk_BW _ (tf_isw_in (i := 346) (w := .instantiable "TreeFlows$Script" 11) (by decide +kernel))))
  obtain ⟨c4, iS4, hKn4⟩ := u_known (n := 7) hts (fun w hw => tk_BWin (tg_cls2 (ci := 4) rfl).2.2.1 w hw) (hts _ (tk_BW _ (tf_isw_in (i := 145) (w := .instantiable "TreeFlows$Tally" 7) (by decide +kernel))))
  obtain ⟨c5, iS5, hKn5⟩ := u_known (n := 9) hts (fun w hw => tk_BWin (tg_cls2 (ci := 5) rfl).2.2.1 w hw) (hts _ (tk_BW _ (tf_isw_in (i := 286) (w := .instantiable "TreeFlows$Trips" 9) (by decide +kernel))))
  obtain ⟨c6, iS6, hKn6⟩ := u_known (n := 13) hts (fun w hw => tk_BWin (tg_cls2 (ci := 6) rfl).2.2.1 w hw) (hts _ (tk_BW _ (tf_isw_in (i := 131) (w := .instantiable "TreeFlows" 13) (by decide +kernel))))
  obtain ⟨c7, iS7, hKn7⟩ := u_known (n := 44) hts (fun w hw => tk_BWin (tg_cls2 (ci := 7) rfl).2.2.1 w hw) (hts _ (tk_BW _ (tf_isw_in (i := 1136) (w := .instantiable "TreeFlowsModel" 44) (by decide +kernel))))
  obtain ⟨a8, k8, m8, f8, g8, h8⟩ := Cond.arrayClass_spec (hts _ (tk_BW _ (tf_isw_in (i := 178) (w := .arrayClass .int) (by decide +kernel))))
  obtain ⟨a9, k9, m9, f9, g9, h9⟩ := Cond.arrayClass_spec (hts _ (tk_BW _ (tf_isw_in (i := 344) (w := .arrayClass .char) (by decide +kernel))))
  obtain ⟨a10, k10, m10, f10, g10, h10⟩ := Cond.arrayClass_spec (hts _ (tk_BW _ (tf_isw_in (i := 1294) (w := .arrayClass .byte) (by decide +kernel))))
  obtain ⟨a11, k11, m11, f11, g11, h11⟩ := Cond.arrayClass_spec (hts _ (tk_BW _ (tf_isw_in (i := 284) (w := .arrayClass .boolean) (by decide +kernel))))
  obtain ⟨a12, k12, m12, f12, g12, h12⟩ := Cond.arrayClass_spec (hts _ (tk_BW _ (tf_isw_in (i := 1295) (w := .arrayClass .long) (by decide +kernel))))
  have o13 : (Jvm.Cond.arrayOver (.object "TreeFlows$Net")).before #[Value.ref b] s = true := hts _ (List.mem_of_getElem? (i := 390) (by decide +kernel))
  obtain ⟨m13, a13, k13, p13, -, g13, h13, f13⟩ := Cond.arrayOver_spec o13
  have o14 : (Jvm.Cond.arrayOver (.object "TreeFlows$Page")).before #[Value.ref b] s = true := hts _ (List.mem_of_getElem? (i := 391) (by decide +kernel))
  obtain ⟨m14, a14, k14, p14, -, g14, h14, f14⟩ := Cond.arrayOver_spec o14
  have o15 : (Jvm.Cond.arrayOver (.object "TreeFlows$Verb")).before #[Value.ref b] s = true := hts _ (List.mem_of_getElem? (i := 352) (by decide +kernel))
  obtain ⟨m15, a15, k15, p15, -, g15, h15, f15⟩ := Cond.arrayOver_spec o15
  obtain ⟨D, hKc⟩ : ∃ D : va_G, ∀ (k : Nat) (q : vw_C), vwCl[k]? = some q → u_Kn s q.1 q.2.1 q.2.2 (D.1 k) (D.2 k) := by
    refine ⟨(fun k => if k = 0 then c0 else if k = 1 then c1 else if k = 2 then c2 else if k = 3 then c3 else if k = 4 then c4 else if k = 5 then c5 else if k = 6 then c6 else c7, fun k => if k = 0 then iS0 else if k = 1 then iS1 else if k = 2 then iS2 else if k = 3 then iS3 else if k = 4 then iS4 else if k = 5 then iS5 else if k = 6 then iS6 else iS7), ?_⟩
    intro k q hq
    match k, hq with
    | 0, hq => cases hq; exact hKn0
    | 1, hq => cases hq; exact hKn1
    | 2, hq => cases hq; exact hKn2
    | 3, hq => cases hq; exact hKn3
    | 4, hq => cases hq; exact hKn4
    | 5, hq => cases hq; exact hKn5
    | 6, hq => cases hq; exact hKn6
    | 7, hq => cases hq; exact hKn7
    | k + 8, hq => simp at hq
  obtain ⟨cA, hKA⟩ : ∃ cA : Nat → ClassId, ∀ (k : Nat) (q : ClassId × FieldType), (tf_ty cA)[k]? = some q → ArrOfT s q.1 q.2 ∧ va_RA s q.1 q.2 := by
    refine ⟨fun k => if k = 8 then a8 else if k = 9 then a9 else if k = 10 then a10 else if k = 11 then a11 else if k = 12 then a12 else if k = 13 then a13 else if k = 14 then a14 else a15, ?_⟩
    intro k q hq
    match k, hq with
    | 0, hq => cases hq; exact ⟨fun n z => ⟨fun k h => (by cases h), k8, g8, m8, h8⟩, f8⟩
    | 1, hq => cases hq; exact ⟨fun n z => ⟨fun k h => (by cases h), k9, g9, m9, h9⟩, f9⟩
    | 2, hq => cases hq; exact ⟨fun n z => ⟨fun k h => (by cases h), k10, g10, m10, h10⟩, f10⟩
    | 3, hq => cases hq; exact ⟨fun n z => ⟨fun k h => (by cases h), k11, g11, m11, h11⟩, f11⟩
    | 4, hq => cases hq; exact ⟨fun n z => ⟨fun k h => (by cases h), k12, g12, m12, h12⟩, f12⟩
    | 5, hq => cases hq; exact ⟨fun n z => ⟨fun k h => (by cases h), k13, g13, m13, h13⟩, k13, m13, g13, h13, p13, f13⟩
    | 6, hq => cases hq; exact ⟨fun n z => ⟨fun k h => (by cases h), k14, g14, m14, h14⟩, k14, m14, g14, h14, p14, f14⟩
    | 7, hq => cases hq; exact ⟨fun n z => ⟨fun k h => (by cases h), k15, g15, m15, h15⟩, k15, m15, g15, h15, p15, f15⟩
    | k + 8, hq => simp [tf_ty] at hq
  have hK : va_K D vwCl (tf_ty cA) s := ⟨hKc, hKA⟩
  have hSX : tk_SX s := ⟨⟨⟨⟨va_Nw.of rfl (hts _ (List.mem_of_getElem? (i := 140) (by decide +kernel))), va_Nw.of rfl (hts _ (List.mem_of_getElem? (i := 255) (by decide +kernel))), va_Nw.of rfl (hts _ (List.mem_of_getElem? (i := 287) (by decide +kernel))), va_Nw.of rfl (hts _ (List.mem_of_getElem? (i := 322) (by decide +kernel))), va_Nw.of rfl (hts _ (List.mem_of_getElem? (i := 347) (by decide +kernel))), va_Nw.of rfl (hts _ (List.mem_of_getElem? (i := 146) (by decide +kernel)))⟩, va_AO.of o13, va_AO.of o14, va_AO.of o15⟩, va_Nw.of rfl (hts _ (List.mem_of_getElem? (i := 489) (by decide +kernel)))⟩, va_Nw.of rfl (hts _ (List.mem_of_getElem? (i := 744) (by decide +kernel))), va_Nw.of rfl (hts _ (List.mem_of_getElem? (i := 863) (by decide +kernel))), va_Nw.of rfl (hts _ (List.mem_of_getElem? (i := 889) (by decide +kernel)))⟩
  have hS : va_S (fun q : Nat => s.heap.size ≤ q) s.heap s.heap [] := va_S.rf
  have hP : va_P D vwCl [] s.heap := fun k q h => by simp at h
  have hD : va_D (fun q : Nat => s.heap.size ≤ q) [] := ⟨fun i j p q h => by simp at h, fun k q h => by simp at h⟩
  have hl := lv_entry ([.ref b]) (n := 7) (Nat.le_of_ble_eq_true rfl)
  rw [lg_entry_eq]
  generalize (lg_sl ([.ref b]) ++ List.replicate (7 - (lg_sl ([.ref b])).length) Slot.unset).toArray = ls at hl ⊢
  have hl : lv_has ls 7 [(0, .ref b)] := hl
  refine va_new (ci := 6) (fs := tg_new 6) (C := RX8) (T := TX8) (N := 13) hx hb hts (tk_BWin (tg_cls2 (ci := 6) rfl).2.2.1) (tf_tyf 6) (tg_cls2 (ci := 6) rfl).2.2.2.1 hown (hts _ (tk_BW _ (tf_isw_in (i := 130) (by decide +kernel)))) (hts _ (tk_BW _ (tf_isw_in (i := 131) (by decide +kernel)))) (hts _ (tk_BW _ (tf_isw_in (i := 108) (by decide +kernel)))) hK hP hD hS hA rfl (tg_cls (ci := 6) rfl).2.1 (by decide) (by decide) dL_0 (fun q0 H hP hD hS => ?_)
  have hP : va_P D vwCl [(q0, .inr (6, tg_new 6))] H := hP
  have hD : va_D (fun q : Nat => s.heap.size ≤ q) [(q0, .inr (6, tg_new 6))] := hD
  refine lv_dup hx hb dL_3 rfl ?_
  have hfree : ∀ q, va_A [(q0, (.inr (6, tg_new 6) : va_E))] H.size q → s.heap.size ≤ q := va_free (wc := [(q0, .inr (6, tg_new 6))]) hD hS hA [0] rfl
  have hrun : va_Run p l e room_1 s m #[Value.ref b] below meth c H [] 1 13 269 6039 (F0 m 4 ls [.ref q0, .ref q0]) [.ref q0] (ti_Qc D cA q0 (va_A [(q0, .inr (6, tg_new 6))] H.size) [.ref q0].toArray) (va_A [(q0, .inr (6, tg_new 6))] H.size) :=
    va_runI (As := []) (rest := [.ref q0]) (b := q0) ⟨hx, hb, hml, hown, hts⟩ (ti_met (l := l) (D := D) (cA := cA) q0 H.size) (cwI 0 hts (tf_goodBW tf_BW_good tk_BW tg_cw_X8) rfl rfl rfl (hts _ (tk_BW _ tg_in_X8)) (hts _ (tk_BW _ (tf_isw_in (i := 132) (by decide +kernel)))) (hts _ (tk_BW _ tg_im_X8)) rfl (by decide +kernel) ⟨by decide, by decide⟩)
      ⟨fun a U g mk q => by
        obtain ⟨r0, r1, rP, rK, rX, rW, rD⟩ := q
        exact ⟨r0, r1, rP, va_K.moved (u := U) (U := U.calling g mk a) (Vm.Alike.refl U.vm) rK, tg_SX.same (u := U) (U := U.calling g mk a) rfl rX, ⟨rW.1.same rfl rfl, rW.2.1.same rfl rfl, rW.2.2.same rfl rfl⟩, rD⟩, fun U hU hW => ⟨rfl, by rw [hU], by rw [hU]; exact hP, va_K.moved hW.alike hK, hSX.1.1.warm hW, ⟨hSX.2.1.warmM hW, hSX.2.2.1.warmM hW, hSX.2.2.2.warmM hW⟩, hD.weaken (fun _ _ _ _ => trivial)⟩⟩
      rfl rfl hl.1 rfl (lv_room (Nat.le_of_ble_eq_true rfl)) dL_4 ⟨by decide, by decide⟩
  refine tk_call (P := fun t => ∃ ad : Nat → Nat, ad 240 = q0 ∧ tf_inj ad 270 ∧ (∀ c, c < 270 → va_A [(q0, (.inr (6, tg_new 6) : va_E))] H.size (ad c)) ∧ va_P D vwCl (tf_ws cA ad 270 ti_h) t.heap) hrun hS hfree (fun st oc t hq => by
    obtain ⟨⟨ad, r1, r2, r3, r4, r5⟩, r6, r7⟩ := hq
    exact ⟨r1, ⟨ad, r2, r3, r4, r5⟩, r6, r7⟩) (fun t H1 locs ht hq hS => ?_)
  obtain ⟨ad, had, hinj, hAc, hP⟩ := hq
  rw [ht] at hP
  refine lv_astore_n (lv' := [(1, .ref q0), (0, .ref b)]) hx hb dL_7 rfl hl (by decide) rfl (fun ls hl => ?_)
  have hD : va_D (fun q : Nat => s.heap.size ≤ q) (tf_ws cA ad 270 ti_h) := tf_ws_D hinj (fun c hc => hfree _ (hAc c hc))
  refine va_new (ci := 7) (fs := tg_new 7) (C := RX9) (T := TX9) (N := 44) hx hb hts (tk_BWin (tg_cls2 (ci := 7) rfl).2.2.1) (tf_tyf 7) (tg_cls2 (ci := 7) rfl).2.2.2.1 hown (hts _ (tk_BW _ (tf_isw_in (i := 1135) (by decide +kernel)))) (hts _ (tk_BW _ (tf_isw_in (i := 1136) (by decide +kernel)))) (hts _ (tk_BW _ (tf_isw_in (i := 116) (by decide +kernel)))) hK hP hD hS hA rfl (tg_cls (ci := 7) rfl).2.1 (by decide) (by decide) dL_8 (fun q1 H hP hD hS => ?_)
  refine lv_dup hx hb dL_11 rfl ?_
  have hfree : ∀ q, va_A (tf_ws cA ad 270 ti_h ++ [(q1, (.inr (7, tg_new 7) : va_E))]) H.size q → s.heap.size ≤ q := by
    rintro q (⟨k2, e2, h2⟩ | h2)
    · exact hD.2 k2 (q, e2) h2
    · exact Nat.le_trans hS.1 h2
  have hrun : va_Run p l e room_1 s m #[Value.ref b] below meth c H locs 271 6096 26 5006 (F0 m 12 ls [.ref q1, .ref q1]) [.ref q1] (tj_Qc D cA ad q1 (va_A (tf_ws cA ad 270 ti_h ++ [(q1, .inr (7, tg_new 7))]) H.size) [.ref q1].toArray) (va_A (tf_ws cA ad 270 ti_h ++ [(q1, .inr (7, tg_new 7))]) H.size) :=
    va_runI (As := []) (rest := [.ref q1]) (b := q1) ⟨hx, hb, hml, hown, hts⟩ (tj_met (l := l) (D := D) (cA := cA) ad q1 H.size) (cwI 0 hts (tf_goodBW tf_BW_good tk_BW tg_cw_X9) rfl rfl rfl (hts _ (tk_BW _ tg_in_X9)) (hts _ (tk_BW _ (tf_isw_in (i := 1137) (by decide +kernel)))) (hts _ (tk_BW _ tg_im_X9)) rfl (by decide +kernel) ⟨by decide, by decide⟩)
      ⟨fun a U g mk q => by
        obtain ⟨r0, r1, rP, rK, rX, rW, rD⟩ := q
        exact ⟨r0, r1, rP, va_K.moved (u := U) (U := U.calling g mk a) (Vm.Alike.refl U.vm) rK, tg_SX.same (u := U) (U := U.calling g mk a) rfl rX, ⟨rW.1.same rfl rfl, rW.2.1.same rfl rfl, rW.2.2.same rfl rfl⟩, rD⟩, fun U hU hW => ⟨rfl, by rw [hU], by rw [hU]; exact hP, va_K.moved hW.alike hK, hSX.1.1.warm hW, ⟨hSX.2.1.warmM hW, hSX.2.2.1.warmM hW, hSX.2.2.2.warmM hW⟩, hD.weaken (fun _ _ _ _ => trivial)⟩⟩
      rfl rfl hl.1 rfl (lv_room (Nat.le_of_ble_eq_true rfl)) dL_12 ⟨by decide, by decide⟩
  refine tk_call (P := fun t => ∃ ad' : Nat → Nat, ad' 270 = q1 ∧ (∀ c, ¬ (270 ≤ c ∧ c < 297) → ad' c = ad c) ∧ tf_inj ad' 297 ∧ (∀ c, c < 297 → va_A (tf_ws cA ad 270 ti_h ++ [(q1, (.inr (7, tg_new 7) : va_E))]) H.size (ad' c)) ∧ va_P D vwCl (tf_ws cA ad' 297 tj_h) t.heap) hrun hS hfree (fun st oc t hq => by
    obtain ⟨⟨ad', r1, r2, r3, r4, r5, r6⟩, r7, r8⟩ := hq
    exact ⟨r1, ⟨ad', r2, r3, r4, r5, r6⟩, r7, r8⟩) (fun t H1 locs ht hq hS => ?_)
  obtain ⟨ad2, had2, hold, hinj2, hAc2, hP⟩ := hq
  rw [ht] at hP
  refine lv_astore_n (lv' := [(2, .ref q1), (1, .ref q0), (0, .ref b)]) hx hb dL_15 rfl hl (by decide) rfl (fun ls hl => ?_)
  refine lv_iconst (v := 1) hx hb dL_16 (by decide) ?_
  have hD : va_D (fun q : Nat => s.heap.size ≤ q) (tf_ws cA ad2 297 tj_h) := tf_ws_D hinj2 (fun c hc => hfree _ (hAc2 c hc))
  refine va_newa (atype := .long) (ty := .long) (a0 := (1, .inr (.inl (fun _ => 0)))) hx hb (hts _ (tk_BW _ (tg_ar_ok .long (by simp)))) rfl hK hP hD hS hA (fun _ => rfl) (by decide) (by decide) (by decide) (by decide) (by decide) dL_17 (fun q2 cA2 H hK1 hP hD hS => ?_)
  have hcA := tg_kA (k := 12) (t := 4) hK hK1 rfl
  subst hcA
  refine lv_astore_n (lv' := [(3, .ref q2), (2, .ref q1), (1, .ref q0), (0, .ref b)]) hx hb dL_19 rfl hl (by decide) rfl (fun ls hl => ?_)
  refine lv_iconst (v := 0) hx hb dL_20 (by decide) ?_
  refine lv_istore (lv' := [(4, .int 0), (3, .ref q2), (2, .ref q1), (1, .ref q0), (0, .ref b)]) hx hb dL_21 hl (by decide) rfl (fun ls hl => ?_)
  obtain ⟨ek, hek⟩ := tv_start (A := fun q : Nat => s.heap.size ≤ q) hts hgv (fun a ha => Nat.not_le.mpr ha)
  obtain ⟨hinj3, hAc3⟩ := tk_inj (b := b) (ek := ek) hD
  have hek2 : tv_K (tk_ad ad2 ek q2 b) (fun q : Nat => s.heap.size ≤ q) s s.heap := by
    have e9 : ∀ c, 400 ≤ c → c < 500 → tk_ad ad2 ek q2 b c = ek c := fun c h1 h2 => by
      simp only [tk_ad]
      rw [if_neg (by omega), if_neg (by omega), if_pos h1]
    exact tv_K_cg (fun i hi => e9 _ (by omega) (by omega)) (e9 _ (by omega) (by omega)) (e9 _ (by omega) (by omega)) (fun i hi => e9 _ (by omega) (by omega)) (fun i hi => e9 _ (by omega) (by omega)) hek
  refine hloop D cA (tk_ad ad2 ek q2 b) H locs ls hK hSX hinj3 hAc3 rfl hek2 (tk_world hP) hS ⟨hl.1, hl.2.1, rfl, fun i v hi hz => ?_⟩
  match i, hi with
  | 0, hi => cases hi; exact lv_at hl 4 rfl
  | 1, hi =>
    cases hi
    rw [lv_at hl 3 rfl]
    simp only [tf_tr, tk_ad]
    rw [if_neg (by decide), if_neg (by decide), if_neg (by decide), hold 240 (by decide), had]
  | 2, hi =>
    cases hi
    rw [lv_at hl 2 rfl]
    simp only [tf_tr, tk_ad]
    rw [if_neg (by decide), if_neg (by decide), if_neg (by decide), had2]
  | 3, hi => cases hi; exact lv_at hl 1 rfl
  | 4, hi => cases hi; exact lv_at hl 0 rfl
  | 5, hi => cases hi; exact absurd rfl hz
  | 6, hi => cases hi; exact absurd rfl hz
  | n + 7, hi => simp at hi

