/-! ===== the builder's runs are sound: constructors ===== -/
section TGR
variable {p : Program} {l : Launch} {e : Env} {R : Room} {s : State} {m : MethodId} {args : Array Value} {below : List Frame} {meth : Method} {c : Code} {QW : State → Prop}
variable {cc : ByteArray} {D : va_G} {cA : Nat → ClassId} {wx : va_W} {A : Nat → Prop} {ad0 : Nat → Nat} {n0 s0 nL : Nat} {own : String} {Ts : List Jvm.Cond}
variable {oc : Nat} {F : Nat → Option (Nat × Nat)} {N N2 K : Nat → Option Nat} {sub : Nat → BH → Nat → Option BH} {code : List (Nat × Instr × Nat)} {stop : Nat}
theorem tg_run_ok
    (hcode : ∀ q ∈ code, decode cc q.1 = .ok q.2)
    (hstep : ∀ (pc ln : Nat) (i : Instr) (L st : List Value) (bh : BH) (pc' : Nat) (L' st' : List Value) (bh' : BH), decode cc pc = .ok (i, ln) → tg_step oc F N N2 K sub pc i ln L st bh = some (pc', L', st', bh') → tg_wf bh = true → L.all (tg_vok bh.length) = true → st.all (tg_vok bh.length) = true →
      (bh.length ≤ bh'.length ∧ tg_sl bh ≤ tg_sl bh' ∧ tg_wf bh' = true ∧ L'.all (tg_vok bh'.length) = true ∧ st'.all (tg_vok bh'.length) = true) ∧
      (bh'.length ≤ n0 + R.cells → tg_sl bh' ≤ s0 + R.slots → tg_At (fun k n H locs g => W p l e R s m args below meth c H locs k n QW g) m s.heap D cA wx A ad0 n0 s0 nL pc' L' st' bh' → n0 ≤ bh.length → s0 ≤ tg_sl bh → tg_At (fun k n H locs g => W p l e R s m args below meth c H locs k n QW g) m s.heap D cA wx A ad0 n0 s0 nL pc L st bh)) :
    ∀ (n pc : Nat) (L st : List Value) (bh : BH) (L' : List Value) (bh' : BH), tg_run oc F N N2 K sub code stop n pc L st bh = some (L', bh') → tg_wf bh = true → L.all (tg_vok bh.length) = true → st.all (tg_vok bh.length) = true →
      (bh.length ≤ bh'.length ∧ tg_sl bh ≤ tg_sl bh' ∧ tg_wf bh' = true ∧ L'.all (tg_vok bh'.length) = true) ∧
      (bh'.length ≤ n0 + R.cells → tg_sl bh' ≤ s0 + R.slots → tg_At (fun k n H locs g => W p l e R s m args below meth c H locs k n QW g) m s.heap D cA wx A ad0 n0 s0 nL stop L' [] bh' → n0 ≤ bh.length → s0 ≤ tg_sl bh → tg_At (fun k n H locs g => W p l e R s m args below meth c H locs k n QW g) m s.heap D cA wx A ad0 n0 s0 nL pc L st bh) := by
  intro n
  induction n with
  | zero =>
    intro pc L st bh L' bh' h
    cases h
  | succ n ih =>
    intro pc L st bh L' bh' h hw hLo hso
    simp only [tg_run] at h
    split at h
    · rename_i hpc
      split at h
      · cases h
        subst hpc
        exact ⟨⟨Nat.le_refl _, Nat.le_refl _, hw, hLo⟩, fun _ _ hk _ _ => hk⟩
      · cases h
    · split at h
      · cases h
      · rename_i i ln hlk
        split at h
        · cases h
        · rename_i pc1 L1 st1 bh1 hs1
          have hd := hcode _ (tf_lookup hlk)
          obtain ⟨⟨a1, a2, a3, a4, a5⟩, a6⟩ := hstep pc ln i L st bh pc1 L1 st1 bh1 hd hs1 hw hLo hso
          obtain ⟨⟨b1, b2, b3, b4⟩, b5⟩ := ih pc1 L1 st1 bh1 L' bh' h a3 a4 a5
          exact ⟨⟨Nat.le_trans a1 b1, Nat.le_trans a2 b2, b3, b4⟩, fun r1 r2 hk h1 h2 => a6 (Nat.le_trans b1 r1) (Nat.le_trans b2 r2) (b5 r1 r2 hk (Nat.le_trans h1 a1) (Nat.le_trans h2 a2)) h1 h2⟩
end TGR
/-- what a run keeps of the heap, without the machine -/
theorem tg_step_mono {oc : Nat} {F : Nat → Option (Nat × Nat)} {N N2 K : Nat → Option Nat} {sub : Nat → BH → Nat → Option BH} (hsm : ∀ k bh x bh2, sub k bh x = some bh2 → tg_wf bh = true → x < bh.length → bh.length ≤ bh2.length ∧ tg_sl bh ≤ tg_sl bh2 ∧ tg_wf bh2 = true)
    {pc ln : Nat} {i : Instr} {L st : List Value} {bh : BH} {pc' : Nat} {L' st' : List Value} {bh' : BH} (h : tg_step oc F N N2 K sub pc i ln L st bh = some (pc', L', st', bh')) (hw : tg_wf bh = true) (hLo : L.all (tg_vok bh.length) = true) (hso : st.all (tg_vok bh.length) = true) :
    bh.length ≤ bh'.length ∧ tg_sl bh ≤ tg_sl bh' ∧ tg_wf bh' = true ∧ L'.all (tg_vok bh'.length) = true ∧ st'.all (tg_vok bh'.length) = true := by
  have push : ∀ (b : Nat × Nat × List Value) (st2 : List Value), b.2.2.all (tg_vok bh.length) = true → st2.all (tg_vok bh.length) = true → bh.length ≤ (bh ++ [b]).length ∧ tg_sl bh ≤ tg_sl (bh ++ [b]) ∧ tg_wf (bh ++ [b]) = true ∧ L.all (tg_vok (bh ++ [b]).length) = true ∧ (Value.ref bh.length :: st2).all (tg_vok (bh ++ [b]).length) = true := by
    intro b st2 hb hs2
    have hle : bh.length ≤ (bh ++ [b]).length := by simp
    refine ⟨hle, by rw [tg_sl_push]; exact Nat.le_add_right _ _, tg_wf_push hw hb, tg_all_mono hLo hle, ?_⟩
    simp only [List.all_cons, Bool.and_eq_true]
    exact ⟨by simp [tg_vok], tg_all_mono hs2 hle⟩
  have same : ∀ st2 : List Value, st2.all (tg_vok bh.length) = true → bh.length ≤ bh.length ∧ tg_sl bh ≤ tg_sl bh ∧ tg_wf bh = true ∧ L.all (tg_vok bh.length) = true ∧ st2.all (tg_vok bh.length) = true := fun st2 h2 => ⟨Nat.le_refl _, Nat.le_refl _, hw, hLo, h2⟩
  have setp : ∀ (x : Nat) (b b' : Nat × Nat × List Value) (st2 : List Value), bh[x]? = some b → b'.2.1 = b.2.1 → b'.2.2.all (tg_vok bh.length) = true → st2.all (tg_vok bh.length) = true → bh.length ≤ (bh.set x b').length ∧ tg_sl bh ≤ tg_sl (bh.set x b') ∧ tg_wf (bh.set x b') = true ∧ L.all (tg_vok (bh.set x b').length) = true ∧ st2.all (tg_vok (bh.set x b').length) = true := by
    intro x b b' st2 hb h1 h2 h3
    refine ⟨by simp, by rw [tg_sl_set hb h1]; exact Nat.le_refl _, tg_wf_set hw h2, by simpa using hLo, by simpa using h3⟩
  cases i <;> try (exact absurd (show (none : Option (Nat × List Value × List Value × BH)) = some _ from h) (by simp))
  case aload_n k =>
    simp only [tg_step] at h
    split at h
    · rename_i x he
      split at h
      · cases h
        exact same _ (by simp only [List.all_cons, Bool.and_eq_true]; exact ⟨List.all_eq_true.mp hLo _ (List.mem_of_getElem? he), hso⟩)
      · cases h
    · cases h
  case iload_n k =>
    simp only [tg_step] at h
    split at h
    · split at h
      · cases h
        exact same _ (by simp only [List.all_cons, Bool.and_eq_true]; exact ⟨rfl, hso⟩)
      · cases h
    · cases h
  case iconst v =>
    simp only [tg_step] at h
    split at h
    · cases h
      exact same _ (by simp only [List.all_cons, Bool.and_eq_true]; exact ⟨rfl, hso⟩)
    · cases h
  case bipush v =>
    simp only [tg_step] at h
    split at h
    · cases h
      exact same _ (by simp only [List.all_cons, Bool.and_eq_true]; exact ⟨rfl, hso⟩)
    · cases h
  case sipush v =>
    simp only [tg_step] at h
    split at h
    · cases h
      exact same _ (by simp only [List.all_cons, Bool.and_eq_true]; exact ⟨rfl, hso⟩)
    · cases h
  case istore_n k =>
    simp only [tg_step] at h
    split at h
    · split at h
      · cases h
        simp only [List.all_cons, Bool.and_eq_true] at hso
        exact ⟨Nat.le_refl _, Nat.le_refl _, hw, tg_s1_ok hLo rfl, hso.2⟩
      · cases h
    · cases h
  case iinc k v =>
    simp only [tg_step] at h
    split at h
    · split at h
      · cases h
        exact ⟨Nat.le_refl _, Nat.le_refl _, hw, tg_s1_ok hLo rfl, hso⟩
      · cases h
    · cases h
  case dup =>
    simp only [tg_step] at h
    split at h
    · split at h
      · cases h
        simp only [List.all_cons, Bool.and_eq_true] at hso
        exact same _ (by simp only [List.all_cons, Bool.and_eq_true]; exact ⟨hso.1, hso.1, hso.2⟩)
      · cases h
    · cases h
  case goto o =>
    simp only [tg_step] at h
    split at h
    · cases h
      exact same _ hso
    · cases h
  case if_icmp c9 o =>
    simp only [tg_step] at h
    split at h
    · split at h
      · simp only [List.all_cons, Bool.and_eq_true] at hso
        split at h
        · cases h
          exact same _ hso.2.2
        · cases h
          exact same _ hso.2.2
      · cases h
    · cases h
  case newarray t =>
    simp only [tg_step] at h
    split at h
    · split at h
      · cases h
        simp only [List.all_cons, Bool.and_eq_true] at hso
        exact push _ _ rfl hso.2
      · cases h
    · split at h
      · cases h
        simp only [List.all_cons, Bool.and_eq_true] at hso
        exact push _ _ rfl hso.2
      · cases h
    · split at h
      · cases h
        simp only [List.all_cons, Bool.and_eq_true] at hso
        exact push _ _ rfl hso.2
      · cases h
    · split at h
      · cases h
        simp only [List.all_cons, Bool.and_eq_true] at hso
        exact push _ _ rfl hso.2
      · cases h
    · split at h
      · cases h
        simp only [List.all_cons, Bool.and_eq_true] at hso
        exact push _ _ rfl hso.2
      · cases h
    · cases h
  case anewarray j =>
    simp only [tg_step] at h
    split at h
    · split at h
      · cases h
        simp only [List.all_cons, Bool.and_eq_true] at hso
        exact push _ _ (List.all_eq_true.mpr fun v hv => by rw [List.eq_of_mem_replicate hv]; rfl) hso.2
      · cases h
    · cases h
  case new j =>
    simp only [tg_step] at h
    split at h
    · split at h
      · cases h
        refine push _ _ (List.all_eq_true.mpr fun v hv => ?_) hso
        simp only [tg_new, List.mem_map] at hv
        obtain ⟨a, -, rfl⟩ := hv
        split
        · rfl
        · split <;> rfl
      · cases h
    · cases h
  case putfield j =>
    simp only [tg_step] at h
    split at h
    · split at h
      · rename_i hbx
        split at h
        · cases h
          simp only [List.all_cons, Bool.and_eq_true] at hso
          exact setp _ _ _ _ hbx rfl (tg_vset (tg_wf_at hw hbx) rfl) hso.2.2
        · cases h
      · cases h
    · split at h
      · rename_i hbx
        split at h
        · cases h
          simp only [List.all_cons, Bool.and_eq_true] at hso
          exact setp _ _ _ _ hbx rfl (tg_vset (tg_wf_at hw hbx) hso.1) hso.2.2
        · cases h
      · cases h
    · cases h
  case getfield j =>
    simp only [tg_step] at h
    split at h
    · split at h
      · rename_i hbx
        split at h
        · rename_i hvq
          split at h
          · cases h
            simp only [List.all_cons, Bool.and_eq_true] at hso
            exact same _ (by simp only [List.all_cons, Bool.and_eq_true]; exact ⟨List.all_eq_true.mp (tg_wf_at hw hbx) _ (List.mem_of_getElem? hvq), hso.2⟩)
          · cases h
        · cases h
      · cases h
    · cases h
  case aastore =>
    simp only [tg_step] at h
    split at h
    · split at h
      · rename_i hbx hbv
        split at h
        · cases h
          simp only [List.all_cons, Bool.and_eq_true] at hso
          exact setp _ _ _ _ hbx rfl (tg_vset (tg_wf_at hw hbx) hso.1) hso.2.2.2
        · cases h
      · cases h
    · cases h
  case invokespecial j =>
    simp only [tg_step] at h
    split at h
    · split at h
      · cases h
        simp only [List.all_cons, Bool.and_eq_true] at hso
        exact same _ hso.2
      · cases h
    · split at h
      · rename_i hsb
        split at h
        · cases h
          simp only [List.all_cons, Bool.and_eq_true] at hso
          obtain ⟨m1, m2, m3⟩ := hsm _ _ _ _ hsb hw (by simpa [tg_vok] using hso.1)
          exact ⟨m1, m2, m3, tg_all_mono hLo m1, tg_all_mono hso.2 m1⟩
        · cases h
      · cases h
    · cases h
theorem tg_run_mono {oc : Nat} {F : Nat → Option (Nat × Nat)} {N N2 K : Nat → Option Nat} {sub : Nat → BH → Nat → Option BH} {code : List (Nat × Instr × Nat)} {stop : Nat} (hsm : ∀ k bh x bh2, sub k bh x = some bh2 → tg_wf bh = true → x < bh.length → bh.length ≤ bh2.length ∧ tg_sl bh ≤ tg_sl bh2 ∧ tg_wf bh2 = true) :
    ∀ (n pc : Nat) (L st : List Value) (bh : BH) (L' : List Value) (bh' : BH), tg_run oc F N N2 K sub code stop n pc L st bh = some (L', bh') → tg_wf bh = true → L.all (tg_vok bh.length) = true → st.all (tg_vok bh.length) = true → bh.length ≤ bh'.length ∧ tg_sl bh ≤ tg_sl bh' ∧ tg_wf bh' = true := by
  intro n
  induction n with
  | zero =>
    intro pc L st bh L' bh' h
    cases h
  | succ n ih =>
    intro pc L st bh L' bh' h hw hLo hso
    simp only [tg_run] at h
    split at h
    · split at h
      · cases h
        exact ⟨Nat.le_refl _, Nat.le_refl _, hw⟩
      · cases h
    · split at h
      · cases h
      · split at h
        · cases h
        · rename_i hs1
          obtain ⟨a1, a2, a3, a4, a5⟩ := tg_step_mono hsm hs1 hw hLo hso
          obtain ⟨b1, b2, b3⟩ := ih _ _ _ _ _ _ h a3 a4 a5
          exact ⟨Nat.le_trans a1 b1, Nat.le_trans a2 b2, b3⟩
/-- a constructor of one object: its run from its first place to its end -/
def tg_c (oc : Nat) (F : Nat → Option (Nat × Nat)) (N N2 K : Nat → Option Nat) (sub : Nat → BH → Nat → Option BH) (code : List (Nat × Instr × Nat)) (stop maxL : Nat) : BH → Nat → Option BH := fun bh x => if x < bh.length ∧ 1 ≤ maxL then (tg_run oc F N N2 K sub code stop 400 0 (tf_en maxL [.ref x]) [] bh).map (fun r => r.2) else none
theorem tg_en_ok {n maxL x : Nat} (hx : x < n) : (tf_en maxL [.ref x]).all (tg_vok n) = true := by
  refine List.all_eq_true.mpr fun v hv => ?_
  simp only [tf_en, tf_ar, Value.category] at hv
  rcases List.mem_append.mp hv with h | h
  · simp at h
    subst h
    simpa [tg_vok] using hx
  · rw [List.eq_of_mem_replicate h]
    rfl
theorem tg_c_mono {oc : Nat} {F : Nat → Option (Nat × Nat)} {N N2 K : Nat → Option Nat} {sub : Nat → BH → Nat → Option BH} {code : List (Nat × Instr × Nat)} {stop maxL : Nat} (hsm : ∀ k bh x bh2, sub k bh x = some bh2 → tg_wf bh = true → x < bh.length → bh.length ≤ bh2.length ∧ tg_sl bh ≤ tg_sl bh2 ∧ tg_wf bh2 = true) {bh bh2 : BH} {x : Nat} (h : tg_c oc F N N2 K sub code stop maxL bh x = some bh2) : tg_wf bh = true → x < bh.length → bh.length ≤ bh2.length ∧ tg_sl bh ≤ tg_sl bh2 ∧ tg_wf bh2 = true := by
  intro hw hx
  unfold tg_c at h
  split at h
  · rw [Option.map_eq_some_iff] at h
    obtain ⟨⟨L', b⟩, h1, h2⟩ := h
    simp only at h2
    subst h2
    exact tg_run_mono hsm _ _ _ _ _ _ _ h1 hw (tg_en_ok hx) rfl
  · cases h

def tc_X5 : List (Nat × Instr × Nat) := [(0, .aload_n 0, 1), (1, .invokespecial 3, 3), (4, .aload_n 0, 1), (5, .iconst (-1), 1), (6, .putfield 9, 3), (9, .aload_n 0, 1), (10, .bipush 12, 2), (12, .newarray .int, 2), (14, .putfield 15, 3), (17, .aload_n 0, 1), (18, .bipush 12, 2), (20, .newarray .int, 2), (22, .putfield 19, 3), (25, .aload_n 0, 1), (26, .bipush 12, 2), (28, .newarray .int, 2), (30, .putfield 22, 3), (33, .return_, 1)]
theorem tc_X5_ok : tc_X5.all (fun q => decide (decode cX5_init q.1 = .ok q.2)) = true := by decide +kernel
def tc_X2 : List (Nat × Instr × Nat) := [(0, .aload_n 0, 1), (1, .invokespecial 3, 3), (4, .aload_n 0, 1), (5, .sipush 400, 3), (8, .newarray .char, 2), (10, .putfield 9, 3), (13, .aload_n 0, 1), (14, .iconst (-1), 1), (15, .putfield 15, 3), (18, .return_, 1)]
theorem tc_X2_ok : tc_X2.all (fun q => decide (decode cX2_init q.1 = .ok q.2)) = true := by decide +kernel
def tc_X3 : List (Nat × Instr × Nat) := [(0, .aload_n 0, 1), (1, .invokespecial 3, 3), (4, .aload_n 0, 1), (5, .bipush 8, 2), (7, .newarray .int, 2), (9, .putfield 9, 3), (12, .aload_n 0, 1), (13, .bipush 8, 2), (15, .newarray .boolean, 2), (17, .putfield 15, 3), (20, .return_, 1)]
theorem tc_X3_ok : tc_X3.all (fun q => decide (decode cX3_init q.1 = .ok q.2)) = true := by decide +kernel
def tc_X6 : List (Nat × Instr × Nat) := [(0, .aload_n 0, 1), (1, .invokespecial 3, 3), (4, .aload_n 0, 1), (5, .bipush 14, 2), (7, .newarray .int, 2), (9, .putfield 9, 3), (12, .aload_n 0, 1), (13, .bipush 14, 2), (15, .newarray .int, 2), (17, .putfield 15, 3), (20, .aload_n 0, 1), (21, .bipush 98, 2), (23, .newarray .int, 2), (25, .putfield 18, 3), (28, .aload_n 0, 1), (29, .bipush 14, 2), (31, .newarray .int, 2), (33, .putfield 21, 3), (36, .aload_n 0, 1), (37, .bipush 7, 2), (39, .newarray .int, 2), (41, .putfield 24, 3), (44, .aload_n 0, 1), (45, .bipush 7, 2), (47, .newarray .int, 2), (49, .putfield 27, 3), (52, .return_, 1)]
theorem tc_X6_ok : tc_X6.all (fun q => decide (decode cX6_init q.1 = .ok q.2)) = true := by decide +kernel
def tc_X4 : List (Nat × Instr × Nat) := [(0, .aload_n 0, 1), (1, .invokespecial 3, 3), (4, .aload_n 0, 1), (5, .iconst (-1), 1), (6, .putfield 9, 3), (9, .aload_n 0, 1), (10, .bipush 80, 2), (12, .anewarray 15, 3), (15, .putfield 17, 3), (18, .aload_n 0, 1), (19, .bipush 80, 2), (21, .newarray .int, 2), (23, .putfield 21, 3), (26, .aload_n 0, 1), (27, .sipush 320, 3), (30, .newarray .int, 2), (32, .putfield 25, 3), (35, .aload_n 0, 1), (36, .sipush 320, 3), (39, .newarray .int, 2), (41, .putfield 28, 3), (44, .aload_n 0, 1), (45, .bipush 7, 2), (47, .newarray .int, 2), (49, .putfield 31, 3), (52, .return_, 1)]
theorem tc_X4_ok : tc_X4.all (fun q => decide (decode cX4_init q.1 = .ok q.2)) = true := by decide +kernel
def tc_X1 : List (Nat × Instr × Nat) := [(0, .aload_n 0, 1), (1, .invokespecial 3, 3), (4, .aload_n 0, 1), (5, .bipush 7, 2), (7, .newarray .int, 2), (9, .putfield 9, 3), (12, .aload_n 0, 1), (13, .bipush 21, 2), (15, .newarray .int, 2), (17, .putfield 15, 3), (20, .aload_n 0, 1), (21, .bipush 21, 2), (23, .newarray .int, 2), (25, .putfield 18, 3), (28, .aload_n 0, 1), (29, .bipush 21, 2), (31, .newarray .int, 2), (33, .putfield 21, 3), (36, .aload_n 0, 1), (37, .bipush 21, 2), (39, .newarray .int, 2), (41, .putfield 24, 3), (44, .aload_n 0, 1), (45, .bipush 21, 2), (47, .newarray .int, 2), (49, .putfield 27, 3), (52, .aload_n 0, 1), (53, .bipush 21, 2), (55, .newarray .int, 2), (57, .putfield 30, 3), (60, .aload_n 0, 1), (61, .bipush 7, 2), (63, .newarray .int, 2), (65, .putfield 33, 3), (68, .aload_n 0, 1), (69, .bipush 7, 2), (71, .newarray .int, 2), (73, .putfield 36, 3), (76, .aload_n 0, 1), (77, .bipush 8, 2), (79, .newarray .int, 2), (81, .putfield 39, 3), (84, .aload_n 0, 1), (85, .new 42, 3), (88, .dup, 1), (89, .invokespecial 44, 3), (92, .putfield 45, 3), (95, .return_, 1)]
theorem tc_X1_ok : tc_X1.all (fun q => decide (decode cX1_init q.1 = .ok q.2)) = true := by decide +kernel
def tc_X8 : List (Nat × Instr × Nat) := [(0, .aload_n 0, 1), (1, .invokespecial 3, 3), (4, .aload_n 0, 1), (5, .new 9, 3), (8, .dup, 1), (9, .invokespecial 11, 3), (12, .putfield 12, 3), (15, .aload_n 0, 1), (16, .new 9, 3), (19, .dup, 1), (20, .invokespecial 11, 3), (23, .putfield 16, 3), (26, .aload_n 0, 1), (27, .new 19, 3), (30, .dup, 1), (31, .invokespecial 21, 3), (34, .putfield 22, 3), (37, .aload_n 0, 1), (38, .new 26, 3), (41, .dup, 1), (42, .invokespecial 28, 3), (45, .putfield 29, 3), (48, .aload_n 0, 1), (49, .new 33, 3), (52, .dup, 1), (53, .invokespecial 35, 3), (56, .putfield 36, 3), (59, .aload_n 0, 1), (60, .new 40, 3), (63, .dup, 1), (64, .invokespecial 42, 3), (67, .putfield 43, 3), (70, .aload_n 0, 1), (71, .bipush 7, 2), (73, .newarray .int, 2), (75, .putfield 47, 3), (78, .aload_n 0, 1), (79, .bipush 11, 2), (81, .anewarray 9, 3), (84, .putfield 51, 3), (87, .aload_n 0, 1), (88, .iconst 3, 1), (89, .anewarray 9, 3), (92, .putfield 55, 3), (95, .aload_n 0, 1), (96, .iconst 3, 1), (97, .anewarray 33, 3), (100, .putfield 58, 3), (103, .aload_n 0, 1), (104, .iconst 3, 1), (105, .newarray .boolean, 2), (107, .putfield 62, 3), (110, .iconst 0, 1), (111, .istore_n 1, 1), (112, .iload_n 1, 1), (113, .bipush 11, 2), (115, .if_icmp .ge 22, 3), (118, .aload_n 0, 1), (119, .getfield 51, 3), (122, .iload_n 1, 1), (123, .new 9, 3), (126, .dup, 1), (127, .invokespecial 11, 3), (130, .aastore, 1), (131, .iinc 1 1, 3), (134, .goto (-22), 3), (137, .iconst 0, 1), (138, .istore_n 1, 1), (139, .iload_n 1, 1), (140, .iconst 3, 1), (141, .if_icmp .ge 35, 3), (144, .aload_n 0, 1), (145, .getfield 55, 3), (148, .iload_n 1, 1), (149, .new 9, 3), (152, .dup, 1), (153, .invokespecial 11, 3), (156, .aastore, 1), (157, .aload_n 0, 1), (158, .getfield 58, 3), (161, .iload_n 1, 1), (162, .new 33, 3), (165, .dup, 1), (166, .invokespecial 35, 3), (169, .aastore, 1), (170, .iinc 1 1, 3), (173, .goto (-34), 3), (176, .aload_n 0, 1), (177, .getfield 12, 3), (180, .iconst 2, 1), (181, .invokevirtual 66, 3), (184, .aload_n 0, 1), (185, .getfield 12, 3), (188, .iconst 0, 1), (189, .invokevirtual 70, 3), (192, .aload_n 0, 1), (193, .getfield 12, 3), (196, .getfield 74, 3), (199, .invokevirtual 78, 3), (202, .return_, 1)]
theorem tc_X8_ok : tc_X8.all (fun q => decide (decode cX8_init q.1 = .ok q.2)) = true := by decide +kernel
def tc_X9 : List (Nat × Instr × Nat) := [(0, .aload_n 0, 1), (1, .invokespecial 1, 3), (4, .aload_n 0, 1), (5, .sipush 865, 3), (8, .newarray .int, 2), (10, .putfield 7, 3), (13, .aload_n 0, 1), (14, .sipush 1600, 3), (17, .newarray .byte, 2), (19, .putfield 13, 3), (22, .aload_n 0, 1), (23, .iconst 3, 1), (24, .newarray .boolean, 2), (26, .putfield 17, 3), (29, .aload_n 0, 1), (30, .sipush 1700, 3), (33, .newarray .int, 2), (35, .putfield 21, 3), (38, .aload_n 0, 1), (39, .iconst 4, 1), (40, .newarray .int, 2), (42, .putfield 24, 3), (45, .aload_n 0, 1), (46, .bipush 7, 2), (48, .newarray .int, 2), (50, .putfield 27, 3), (53, .aload_n 0, 1), (54, .bipush 98, 2), (56, .newarray .int, 2), (58, .putfield 30, 3), (61, .aload_n 0, 1), (62, .bipush 7, 2), (64, .newarray .int, 2), (66, .putfield 33, 3), (69, .aload_n 0, 1), (70, .bipush 100, 2), (72, .newarray .long, 2), (74, .putfield 36, 3), (77, .aload_n 0, 1), (78, .sipush 400, 3), (81, .newarray .int, 2), (83, .putfield 40, 3), (86, .aload_n 0, 1), (87, .bipush 8, 2), (89, .newarray .int, 2), (91, .putfield 43, 3), (94, .aload_n 0, 1), (95, .bipush 8, 2), (97, .newarray .int, 2), (99, .putfield 46, 3), (102, .aload_n 0, 1), (103, .bipush 8, 2), (105, .newarray .int, 2), (107, .putfield 49, 3), (110, .aload_n 0, 1), (111, .bipush 8, 2), (113, .newarray .int, 2), (115, .putfield 52, 3), (118, .aload_n 0, 1), (119, .bipush 16, 2), (121, .newarray .int, 2), (123, .putfield 55, 3), (126, .aload_n 0, 1), (127, .bipush 16, 2), (129, .newarray .boolean, 2), (131, .putfield 58, 3), (134, .aload_n 0, 1), (135, .bipush 64, 2), (137, .newarray .int, 2), (139, .putfield 61, 3), (142, .aload_n 0, 1), (143, .bipush 14, 2), (145, .newarray .int, 2), (147, .putfield 64, 3), (150, .aload_n 0, 1), (151, .bipush 8, 2), (153, .newarray .int, 2), (155, .putfield 67, 3), (158, .aload_n 0, 1), (159, .bipush 9, 2), (161, .newarray .int, 2), (163, .putfield 70, 3), (166, .aload_n 0, 1), (167, .bipush 14, 2), (169, .newarray .int, 2), (171, .putfield 73, 3), (174, .aload_n 0, 1), (175, .bipush 14, 2), (177, .newarray .int, 2), (179, .putfield 76, 3), (182, .aload_n 0, 1), (183, .bipush 14, 2), (185, .newarray .int, 2), (187, .putfield 79, 3), (190, .aload_n 0, 1), (191, .bipush 7, 2), (193, .newarray .int, 2), (195, .putfield 82, 3), (198, .aload_n 0, 1), (199, .bipush 7, 2), (201, .newarray .int, 2), (203, .putfield 85, 3), (206, .aload_n 0, 1), (207, .bipush 7, 2), (209, .newarray .int, 2), (211, .putfield 88, 3), (214, .aload_n 0, 1), (215, .getfield 7, 3), (218, .sipush 172, 3), (221, .iconst (-1), 1), (222, .iastore, 1), (223, .aload_n 0, 1), (224, .invokevirtual 91, 3), (227, .aload_n 0, 1), (228, .invokevirtual 94, 3), (231, .return_, 1)]
theorem tc_X9_ok : tc_X9.all (fun q => decide (decode cX9_init q.1 = .ok q.2)) = true := by decide +kernel
def tg_N (o : Nat) : Nat → Option Nat := fun j => match o with
  | 0 => if j = 42 then some 4 else none
  | 6 => if j = 9 then some 0 else if j = 19 then some 2 else if j = 26 then some 5 else if j = 33 then some 1 else if j = 40 then some 3 else none
  | _ => none
def tg_N2 (o : Nat) : Nat → Option Nat := fun j => match o with
  | 3 => if j = 15 then some 2 else none
  | 6 => if j = 9 then some 0 else if j = 33 then some 1 else none
  | _ => none
def tg_K (o : Nat) : Nat → Option Nat := fun j => match o with
  | 7 => if j = 1 then some 0 else none
  | 0 => if j = 3 then some 0 else if j = 44 then some 1 else none
  | 6 => if j = 3 then some 0 else if j = 11 then some 6 else if j = 21 then some 3 else if j = 28 then some 4 else if j = 35 then some 2 else if j = 42 then some 5 else none
  | _ => if j = 3 then some 0 else none
theorem tg_N_ok {o j ci : Nat} (h : tg_N o j = some ci) : ∃ (C : String) (T : u_T) (n : Nat), vwCl[ci]? = some (C, T, n) ∧ Jvm.Cond.classLink (tf_own o) j C ∈ tf_BW ∧ Jvm.Cond.instantiable C n ∈ tf_BW ∧ Jvm.Cond.initialized C ∈ tf_BW := by
  unfold tg_N at h
  split at h
  · split at h
    · rename_i hj
      subst hj
      cases h
      exact ⟨_, _, _, rfl, tf_isw_in (i := 144) (by decide +kernel), tf_isw_in (i := 145) (by decide +kernel), tf_isw_in (i := 110) (by decide +kernel)⟩
    cases h
  · split at h
    · rename_i hj
      subst hj
      cases h
      exact ⟨_, _, _, rfl, tf_isw_in (i := 138) (by decide +kernel), tf_isw_in (i := 139) (by decide +kernel), tf_isw_in (i := 109) (by decide +kernel)⟩
    split at h
    · rename_i hj
      subst hj
      cases h
      exact ⟨_, _, _, rfl, tf_isw_in (i := 253) (by decide +kernel), tf_isw_in (i := 254) (by decide +kernel), tf_isw_in (i := 111) (by decide +kernel)⟩
    split at h
    · rename_i hj
      subst hj
      cases h
      exact ⟨_, _, _, rfl, tf_isw_in (i := 285) (by decide +kernel), tf_isw_in (i := 286) (by decide +kernel), tf_isw_in (i := 112) (by decide +kernel)⟩
    split at h
    · rename_i hj
      subst hj
      cases h
      exact ⟨_, _, _, rfl, tf_isw_in (i := 320) (by decide +kernel), tf_isw_in (i := 321) (by decide +kernel), tf_isw_in (i := 113) (by decide +kernel)⟩
    split at h
    · rename_i hj
      subst hj
      cases h
      exact ⟨_, _, _, rfl, tf_isw_in (i := 345) (by decide +kernel), tf_isw_in (i := 346) (by decide +kernel), tf_isw_in (i := 114) (by decide +kernel)⟩
    cases h
  · cases h
theorem tg_N2_ok {s : State} {cA : Nat → ClassId} (hSX : tg_SX s) {o j ci : Nat} (h : tg_N2 o j = some ci) : ∃ C : String, Jvm.Cond.classLink (tf_own o) j C ∈ tf_BW ∧ va_AO C s ∧ (tf_ty cA)[5 + ci]? = some (cA (13 + ci), .object C) := by
  unfold tg_N2 at h
  split at h
  · split at h
    · rename_i hj
      subst hj
      cases h
      exact ⟨RX7, tf_isw_in (i := 351) (by decide +kernel), hSX.2.2.2, rfl⟩
    cases h
  · split at h
    · rename_i hj
      subst hj
      cases h
      exact ⟨RX1, tf_isw_in (i := 138) (by decide +kernel), hSX.2.1, rfl⟩
    split at h
    · rename_i hj
      subst hj
      cases h
      exact ⟨RX2, tf_isw_in (i := 320) (by decide +kernel), hSX.2.2.1, rfl⟩
    cases h
  · cases h
theorem tg_ar_ok : ∀ t : ArrayType, (t = .int ∨ t = .char ∨ t = .byte ∨ t = .boolean ∨ t = .long) → Jvm.Cond.arrayClass (newarray.typeOf t) ∈ tf_BW := by
  rintro t (rfl | rfl | rfl | rfl | rfl)
  · exact tf_isw_in (i := 178) (by decide +kernel)
  · exact tf_isw_in (i := 344) (by decide +kernel)
  · exact tf_isw_in (i := 1294) (by decide +kernel)
  · exact tf_isw_in (i := 284) (by decide +kernel)
  · exact tf_isw_in (i := 1295) (by decide +kernel)
theorem tg_cl_ok {cA : Nat → ClassId} : ∀ ci, ci < 2 → ∃ (C : String) (T : u_T) (n : Nat), vwCl[ci]? = some (C, T, n) ∧ (tf_ty cA)[5 + ci]? = some (cA (13 + ci), .object C) := by
  intro ci hci
  match ci, hci with
  | 0, _ => exact ⟨_, _, _, rfl, rfl⟩
  | 1, _ => exact ⟨_, _, _, rfl, rfl⟩
  | n + 2, h => omega
theorem tg_oi : Jvm.Cond.instanceMethod objectInit ∈ tf_BW := tf_isw_in (i := 136) (by decide +kernel)
set_option maxRecDepth 100000 in
theorem tg_oc2 : Jvm.Cond.code objectInit ⟨#[0xb1]⟩ 1 none ∈ tf_BW := List.mem_filter.mpr ⟨List.mem_of_getElem? (i := 137) (by first | rfl | decide +kernel), rfl⟩
theorem tg_ol0 : Jvm.Cond.methodLink (tf_own 0) 3 objectInit ∈ tf_BW := tf_isw_in (i := 143) (by decide +kernel)
theorem tg_ol1 : Jvm.Cond.methodLink (tf_own 1) 3 objectInit ∈ tf_BW := tf_isw_in (i := 325) (by decide +kernel)
theorem tg_ol2 : Jvm.Cond.methodLink (tf_own 2) 3 objectInit ∈ tf_BW := tf_isw_in (i := 258) (by decide +kernel)
theorem tg_ol3 : Jvm.Cond.methodLink (tf_own 3) 3 objectInit ∈ tf_BW := tf_isw_in (i := 350) (by decide +kernel)
theorem tg_ol4 : Jvm.Cond.methodLink (tf_own 4) 3 objectInit ∈ tf_BW := tf_isw_in (i := 149) (by decide +kernel)
theorem tg_ol5 : Jvm.Cond.methodLink (tf_own 5) 3 objectInit ∈ tf_BW := tf_isw_in (i := 290) (by decide +kernel)
theorem tg_ol6 : Jvm.Cond.methodLink (tf_own 6) 3 objectInit ∈ tf_BW := tf_isw_in (i := 135) (by decide +kernel)
theorem tg_ol7 : Jvm.Cond.methodLink (tf_own 7) 1 objectInit ∈ tf_BW := tf_isw_in (i := 1140) (by decide +kernel)
set_option maxHeartbeats 2000000 in
set_option maxRecDepth 100000 in
theorem tg_met_of {l : Launch} {D : va_G} {cA : Nat → ClassId} {y : MethodName} {cc : ByteArray} {maxL d o stop oi : Nat} {sub : Nat → BH → Nat → Option BH} {code : List (Nat × Instr × Nat)}
    (hy : plainName y.cls = true) (hyo : y.cls = tf_own o) (hyn : y.name = "<init>") (hd1 : 1 ≤ d) (ho8 : o < 11) (hcode : code.all (fun q => decide (decode cc q.1 = .ok q.2)) = true) (hstop : decode cc stop = .ok (.return_, 1))
    (hoc : ∀ C T n, vwCl[o]? = some (C, T, n) → C = tf_own o) (hol : Jvm.Cond.methodLink (tf_own o) oi objectInit ∈ tf_BW) (hK0 : ∀ j, tg_K o j = some 0 → j = oi)
    (hKk : ∀ s : State, tg_SX s → ∀ j k, tg_K o j = some (k + 1) → ∃ (yk : MethodName) (bk : ByteArray) (Lk dk : Nat), tg_Met l D cA yk (Jvm.Cond.code yk bk Lk none :: tf_BW) dk (sub k) ∧ Jvm.Cond.code yk bk Lk none ∈ tf_BW ∧ va_Nw (.methodLinkNest (tf_own o) j yk RX8) s ∧ Jvm.Cond.initialized yk.cls ∈ tf_BW ∧ Jvm.Cond.instanceMethod yk ∈ tf_BW ∧ yk.name = "<init>" ∧ (yk.cls ≠ "java/lang/invoke/MethodHandle" ∧ yk.cls ≠ "java/lang/invoke/VarHandle" ∧ (parseMethodDescriptor yk.desc).map (fun d => d.parameters.length) = some 0) ∧ dk + 1 ≤ d ∧ 8 + (Lk + 11) + 32 * dk ≤ 32 * d)
    (hsm : ∀ k bh x bh2, sub k bh x = some bh2 → tg_wf bh = true → x < bh.length → bh.length ≤ bh2.length ∧ tg_sl bh ≤ tg_sl bh2 ∧ tg_wf bh2 = true) :
    tg_Met l D cA y (Jvm.Cond.code y cc maxL none :: tf_BW) d (tg_c o (tf_F o) (tg_N o) (tg_N2 o) (tg_K o) sub code stop maxL) := by
  intro wx ad x bh bh' sz mc ms hrun hw hxl hmc hms
  unfold tg_c at hrun
  split at hrun
  · rename_i hml1
    rw [Option.map_eq_some_iff] at hrun
    obtain ⟨⟨L', b⟩, h1, h2⟩ := hrun
    simp only at h2
    subst h2
    refine Met.ofW (cc := cc) (maxL := maxL) (ret := none) hy rfl ?_
    intro p e s m args below meth c s₁ B hml hv
    obtain ⟨rfl, hsz, hP, hK, hSX, hD0⟩ := hv
    have hx := B.exec
    have hb := B.bytes
    have hr := B.returns
    have hts := atoms_spec (ws := Jvm.Cond.code y cc maxL none :: tf_BW) B.pre
    have hown : s.vm.findClass y.cls = some m.cls := findClass_of_methodNamed B.named
    have hlocks := B.notSynchronized
    have hin : meth.name = "<init>" := by rw [(name_of_methodNamed B.named B.method).1]; exact hyn
    subst hsz
    rw [hyo] at hown
    have hsub : ∀ w ∈ tf_BW, w ∈ Jvm.Cond.code y cc maxL none :: tf_BW := fun w hw => List.mem_cons_of_mem _ hw
    have hD : va_D (va_A (wx ++ tg_ws cA ad bh) s.heap.size) (wx ++ tg_ws cA ad bh) := hD0.self
    have hmain := tg_run_ok (p := p) (l := l) (e := e) (R := (headSpec (Jvm.Cond.code y cc maxL none :: tf_BW) { frames := d, cells := mc, slots := ms, locals := 32 * d }).room) (s := s) (m := m) (args := [Value.ref (ad x)].toArray) (below := below) (meth := meth) (c := c) (QW := MQ below (tg_Qc D cA wx ad bh b (va_A (wx ++ tg_ws cA ad bh) s.heap.size)) [Value.ref (ad x)].toArray s mc ms (va_A (wx ++ tg_ws cA ad bh) s.heap.size)) (cc := cc) (D := D) (cA := cA) (wx := wx) (A := va_A (wx ++ tg_ws cA ad bh) s.heap.size) (ad0 := ad) (n0 := bh.length) (s0 := tg_sl bh) (nL := maxL) (oc := o) (F := tf_F o) (N := tg_N o) (N2 := tg_N2 o) (K := tg_K o) (sub := sub) (code := code) (stop := stop) (fun q hq => by simpa using List.all_eq_true.mp hcode q hq)
      (fun pc ln i L st bh1 pc' L' st' bh1' hd h hw hLo hso => tg_step_ok hx hb hml hown hts hsub hin hK (fun q hq => Or.inr hq) hSX hoc (fun j ci q hf => by
        obtain ⟨C, T, n, ty, e1, e2, e3, e4, e5, e6⟩ := tf_F_ok ho8 j ci q hf
        exact ⟨C, T, n, e1, e2, e5⟩) (fun j ci h => tg_N_ok h) (fun j ci h => tg_N2_ok hSX h) tg_ar_ok tg_cl_ok (fun j h => by rw [hK0 j h]; exact hol) tg_oi tg_oc2 ⟨by show 1 ≤ d; omega, by show 20 ≤ 32 * d; omega⟩ (hKk s hSX) hsm hd h hw hLo hso)
      400 0 (tf_en maxL [.ref x]) [] bh L' b h1 hw (tg_en_ok hxl) rfl
    obtain ⟨⟨m1, m2, m3, m4⟩, m5⟩ := hmain
    rw [lg_entry_eq]
    have hend := m5 (by show b.length ≤ bh.length + mc; omega) (by show tg_sl b ≤ tg_sl bh + ms; omega) (by
      intro ad' H locs ls cells slots e1 e2 w1 w2 w3 ha hP1 hD1 hS1 hL
      have hc1 : cells = mc := by omega
      have hc2 : slots = ms := by omega
      subst hc1
      subst hc2
      exact W.vret hx hb hr (fun t ht hW => ⟨⟨ad', rfl, ha, by rw [ht]; exact hP1, hD1⟩, hS1.F ht⟩) hS1.2.2 hstop) (Nat.le_refl _) (Nat.le_refl _)
    exact hend ad s.heap [] _ 0 0 rfl rfl hw (tg_en_ok hxl) rfl (fun _ _ => rfl) hP hD va_S.rf (tf_rel_en (As := [.ref x]) hml1.2)
  · cases hrun

set_option maxRecDepth 100000 in
theorem tg_cw_X5 : Jvm.Cond.code yX5_init cX5_init 1 none ∈ tf_BW := List.mem_filter.mpr ⟨List.mem_of_getElem? (i := 148) rfl, rfl⟩
theorem tg_im_X5 : Jvm.Cond.instanceMethod yX5_init ∈ tf_BW := tf_isw_in (i := 147) (by decide +kernel)
theorem tg_in_X5 : Jvm.Cond.initialized yX5_init.cls ∈ tf_BW := tf_isw_in (i := 110) (by decide +kernel)
set_option maxRecDepth 100000 in
theorem tg_cw_X2 : Jvm.Cond.code yX2_init cX2_init 1 none ∈ tf_BW := List.mem_filter.mpr ⟨List.mem_of_getElem? (i := 324) rfl, rfl⟩
theorem tg_im_X2 : Jvm.Cond.instanceMethod yX2_init ∈ tf_BW := tf_isw_in (i := 323) (by decide +kernel)
theorem tg_in_X2 : Jvm.Cond.initialized yX2_init.cls ∈ tf_BW := tf_isw_in (i := 113) (by decide +kernel)
set_option maxRecDepth 100000 in
theorem tg_cw_X3 : Jvm.Cond.code yX3_init cX3_init 1 none ∈ tf_BW := List.mem_filter.mpr ⟨List.mem_of_getElem? (i := 257) rfl, rfl⟩
theorem tg_im_X3 : Jvm.Cond.instanceMethod yX3_init ∈ tf_BW := tf_isw_in (i := 256) (by decide +kernel)
theorem tg_in_X3 : Jvm.Cond.initialized yX3_init.cls ∈ tf_BW := tf_isw_in (i := 111) (by decide +kernel)
set_option maxRecDepth 100000 in
theorem tg_cw_X6 : Jvm.Cond.code yX6_init cX6_init 1 none ∈ tf_BW := List.mem_filter.mpr ⟨List.mem_of_getElem? (i := 289) rfl, rfl⟩
theorem tg_im_X6 : Jvm.Cond.instanceMethod yX6_init ∈ tf_BW := tf_isw_in (i := 288) (by decide +kernel)
theorem tg_in_X6 : Jvm.Cond.initialized yX6_init.cls ∈ tf_BW := tf_isw_in (i := 112) (by decide +kernel)
set_option maxRecDepth 100000 in
theorem tg_cw_X4 : Jvm.Cond.code yX4_init cX4_init 1 none ∈ tf_BW := List.mem_filter.mpr ⟨List.mem_of_getElem? (i := 349) rfl, rfl⟩
theorem tg_im_X4 : Jvm.Cond.instanceMethod yX4_init ∈ tf_BW := tf_isw_in (i := 348) (by decide +kernel)
theorem tg_in_X4 : Jvm.Cond.initialized yX4_init.cls ∈ tf_BW := tf_isw_in (i := 114) (by decide +kernel)
set_option maxRecDepth 100000 in
theorem tg_cw_X1 : Jvm.Cond.code yX1_init cX1_init 1 none ∈ tf_BW := List.mem_filter.mpr ⟨List.mem_of_getElem? (i := 142) rfl, rfl⟩
theorem tg_im_X1 : Jvm.Cond.instanceMethod yX1_init ∈ tf_BW := tf_isw_in (i := 141) (by decide +kernel)
theorem tg_in_X1 : Jvm.Cond.initialized yX1_init.cls ∈ tf_BW := tf_isw_in (i := 109) (by decide +kernel)
set_option maxRecDepth 100000 in
theorem tg_cw_X8 : Jvm.Cond.code yX8_init cX8_init 2 none ∈ tf_BW := List.mem_filter.mpr ⟨List.mem_of_getElem? (i := 134) rfl, rfl⟩
theorem tg_im_X8 : Jvm.Cond.instanceMethod yX8_init ∈ tf_BW := tf_isw_in (i := 133) (by decide +kernel)
theorem tg_in_X8 : Jvm.Cond.initialized yX8_init.cls ∈ tf_BW := tf_isw_in (i := 108) (by decide +kernel)
set_option maxRecDepth 100000 in
theorem tg_cw_X9 : Jvm.Cond.code yX9_init cX9_init 1 none ∈ tf_BW := List.mem_filter.mpr ⟨List.mem_of_getElem? (i := 1139) rfl, rfl⟩
theorem tg_im_X9 : Jvm.Cond.instanceMethod yX9_init ∈ tf_BW := tf_isw_in (i := 1138) (by decide +kernel)
theorem tg_in_X9 : Jvm.Cond.initialized yX9_init.cls ∈ tf_BW := tf_isw_in (i := 116) (by decide +kernel)
abbrev tg_none : Nat → BH → Nat → Option BH := fun _ _ _ => none
abbrev tg_sX5 : BH → Nat → Option BH := tg_c 4 (tf_F 4) (tg_N 4) (tg_N2 4) (tg_K 4) tg_none tc_X5 33 1
theorem tg_mX5 {l : Launch} {D : va_G} {cA : Nat → ClassId} : tg_Met l D cA yX5_init (Jvm.Cond.code yX5_init cX5_init 1 none :: tf_BW) 1 tg_sX5 := by
  refine tg_met_of (d := 1) (o := 4) (by decide) rfl rfl (by decide) (by decide) tc_X5_ok (by decide +kernel) ?_ tg_ol4 ?_ ?_ ?_
  · intro C T n h
    cases h
    rfl
  · intro j hj
    unfold tg_K at hj
    simp only at hj
    split at hj
    · assumption
    · cases hj
  · intro s hSX j k hj
    unfold tg_K at hj
    simp only at hj
    split at hj
    · cases hj
    · cases hj
  · intro k bh x bh2 h
    cases h
abbrev tg_sX2 : BH → Nat → Option BH := tg_c 1 (tf_F 1) (tg_N 1) (tg_N2 1) (tg_K 1) tg_none tc_X2 18 1
theorem tg_mX2 {l : Launch} {D : va_G} {cA : Nat → ClassId} : tg_Met l D cA yX2_init (Jvm.Cond.code yX2_init cX2_init 1 none :: tf_BW) 1 tg_sX2 := by
  refine tg_met_of (d := 1) (o := 1) (by decide) rfl rfl (by decide) (by decide) tc_X2_ok (by decide +kernel) ?_ tg_ol1 ?_ ?_ ?_
  · intro C T n h
    cases h
    rfl
  · intro j hj
    unfold tg_K at hj
    simp only at hj
    split at hj
    · assumption
    · cases hj
  · intro s hSX j k hj
    unfold tg_K at hj
    simp only at hj
    split at hj
    · cases hj
    · cases hj
  · intro k bh x bh2 h
    cases h
abbrev tg_sX3 : BH → Nat → Option BH := tg_c 2 (tf_F 2) (tg_N 2) (tg_N2 2) (tg_K 2) tg_none tc_X3 20 1
theorem tg_mX3 {l : Launch} {D : va_G} {cA : Nat → ClassId} : tg_Met l D cA yX3_init (Jvm.Cond.code yX3_init cX3_init 1 none :: tf_BW) 1 tg_sX3 := by
  refine tg_met_of (d := 1) (o := 2) (by decide) rfl rfl (by decide) (by decide) tc_X3_ok (by decide +kernel) ?_ tg_ol2 ?_ ?_ ?_
  · intro C T n h
    cases h
    rfl
  · intro j hj
    unfold tg_K at hj
    simp only at hj
    split at hj
    · assumption
    · cases hj
  · intro s hSX j k hj
    unfold tg_K at hj
    simp only at hj
    split at hj
    · cases hj
    · cases hj
  · intro k bh x bh2 h
    cases h
abbrev tg_sX6 : BH → Nat → Option BH := tg_c 5 (tf_F 5) (tg_N 5) (tg_N2 5) (tg_K 5) tg_none tc_X6 52 1
theorem tg_mX6 {l : Launch} {D : va_G} {cA : Nat → ClassId} : tg_Met l D cA yX6_init (Jvm.Cond.code yX6_init cX6_init 1 none :: tf_BW) 1 tg_sX6 := by
  refine tg_met_of (d := 1) (o := 5) (by decide) rfl rfl (by decide) (by decide) tc_X6_ok (by decide +kernel) ?_ tg_ol5 ?_ ?_ ?_
  · intro C T n h
    cases h
    rfl
  · intro j hj
    unfold tg_K at hj
    simp only at hj
    split at hj
    · assumption
    · cases hj
  · intro s hSX j k hj
    unfold tg_K at hj
    simp only at hj
    split at hj
    · cases hj
    · cases hj
  · intro k bh x bh2 h
    cases h
abbrev tg_sX4 : BH → Nat → Option BH := tg_c 3 (tf_F 3) (tg_N 3) (tg_N2 3) (tg_K 3) tg_none tc_X4 52 1
theorem tg_mX4 {l : Launch} {D : va_G} {cA : Nat → ClassId} : tg_Met l D cA yX4_init (Jvm.Cond.code yX4_init cX4_init 1 none :: tf_BW) 1 tg_sX4 := by
  refine tg_met_of (d := 1) (o := 3) (by decide) rfl rfl (by decide) (by decide) tc_X4_ok (by decide +kernel) ?_ tg_ol3 ?_ ?_ ?_
  · intro C T n h
    cases h
    rfl
  · intro j hj
    unfold tg_K at hj
    simp only at hj
    split at hj
    · assumption
    · cases hj
  · intro s hSX j k hj
    unfold tg_K at hj
    simp only at hj
    split at hj
    · cases hj
    · cases hj
  · intro k bh x bh2 h
    cases h
abbrev tg_sub1 : Nat → BH → Nat → Option BH := fun k => if k = 0 then tg_sX5 else fun _ _ => none
abbrev tg_sX1 : BH → Nat → Option BH := tg_c 0 (tf_F 0) (tg_N 0) (tg_N2 0) (tg_K 0) tg_sub1 tc_X1 95 1
theorem tg_mX1 {l : Launch} {D : va_G} {cA : Nat → ClassId} : tg_Met l D cA yX1_init (Jvm.Cond.code yX1_init cX1_init 1 none :: tf_BW) 2 tg_sX1 := by
  refine tg_met_of (d := 2) (o := 0) (by decide) rfl rfl (by decide) (by decide) tc_X1_ok (by decide +kernel) ?_ tg_ol0 ?_ ?_ ?_
  · intro C T n h
    cases h
    rfl
  · intro j hj
    unfold tg_K at hj
    simp only at hj
    split at hj
    · assumption
    · split at hj
      · cases hj
      · cases hj
  · intro s hSX j k hj
    unfold tg_K at hj
    simp only at hj
    split at hj
    · cases hj
    · split at hj
      · rename_i hj2
        subst hj2
        cases hj
        exact ⟨yX5_init, cX5_init, 1, 1, tg_mX5, tg_cw_X5, hSX.1.2.2.2.2.2, tg_in_X5, tg_im_X5, rfl, by decide +kernel, by decide, by decide⟩
      · cases hj
  · intro k bh x bh2 h
    by_cases hk : k = 0
    · rw [tg_sub1, if_pos hk] at h
      exact tg_c_mono (fun _ _ _ _ h => by cases h) h
    · rw [tg_sub1, if_neg hk] at h
      cases h
