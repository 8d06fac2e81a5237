/-! ===== the law's loop out of its steps ===== -/
section TFV
variable {p : Program} {l : Launch} {e : Env} {R : Room} {s : State} {m : MethodId} {args : Array Value} {below : List Frame} {meth : Method} {c : Code} {cells slots : Nat} {QW : State → Prop}
variable {cc : ByteArray} {D : va_G} {cA : Nat → ClassId} {ad : Nat → Nat} {A : Nat → Prop} {nc nL : Nat} {own : String} {Ts : List Jvm.Cond}
variable {C : tf_C} {F : Nat → Option (Nat × Nat)} {M : Nat → Option (Nat × Nat × Bool)} {I : Nat → Option Value} {E : tf_Hk} {rk : Nat} {Q : tf_Q} {B : tf_Bk}
set_option maxHeartbeats 1000000 in
/-- one block: what it needs holds, and where it goes to the machine goes on -/
theorem tf_wp_ok (hx : p.tables.exec = Jvm.exec) (hb : c.code = cc) (hown : s.vm.findClass own = some m.cls) (hts : ∀ w ∈ Ts, w.before args s = true) (hK : va_K D vwCl (tf_ty cA) s) (hj : tf_inj ad nc) (hA : ∀ d, d < nc → A (ad d))
    (hF : tf_Fok own F Ts) (hI : ∀ j v, I j = some (.int v) → (Jvm.Cond.constant own j v).before args s = true) (hJ : ∀ j v, I j = some (.long v) → (Jvm.Cond.constantLong own j v).before args s = true)
    (hC : ∀ (pc : Nat) (i : Instr) (j j2 kn na : Nat) (vd : Bool) (L st : List Value) (h : LH) (K : tf_Q), j < 100000 → ((i = .invokevirtual j ∧ j2 = j) ∨ (i = .invokestatic j ∧ j2 = j + 100000)) → decode cc pc = .ok (i, 3) → M j2 = some (kn, na, vd) → na ≤ st.length → ((st.drop na).map Value.category).sum ≤ 8 → C kn (st.take na).reverse h K → (∀ r h, K r h → tf_At (fun H locs g => W p l e R s m args below meth c H locs cells slots QW g) m s.heap D cA ad A nc nL (pc + 3) L (if vd = true then st.drop na else r :: st.drop na) h) → tf_At (fun H locs g => W p l e R s m args below meth c H locs cells slots QW g) m s.heap D cA ad A nc nL pc L st h)
    (hE : ∀ (pc n : Nat) (i : Instr) (f : List Value → List Value → LH → tf_Kt → tf_X → Prop) (L st : List Value) (h : LH) (k : tf_Kt) (X : tf_X), E pc = some f → decode cc pc = .ok (i, n) → f L st h k X → (∀ L st h, k L st h → tf_At (fun H locs g => W p l e R s m args below meth c H locs cells slots QW g) m s.heap D cA ad A nc nL (pc + n) L st h) → (∀ pc L st h, X pc L st h → tf_At (fun H locs g => W p l e R s m args below meth c H locs cells slots QW g) m s.heap D cA ad A nc nL pc L st h) → tf_At (fun H locs g => W p l e R s m args below meth c H locs cells slots QW g) m s.heap D cA ad A nc nL pc L st h)
    (hR1 : ∀ (v : Int32) (h : LH) (pc : Nat) (L : List Value), decode cc pc = .ok (.ireturn, 1) → (tf_rb rk v ∧ Q (.int v) h) → tf_At (fun H locs g => W p l e R s m args below meth c H locs cells slots QW g) m s.heap D cA ad A nc nL pc L [.int v] h)
    (hR0 : ∀ (h : LH) (pc : Nat) (L : List Value), decode cc pc = .ok (.return_, 1) → (rk = 0 ∧ Q tf_z h) → tf_At (fun H locs g => W p l e R s m args below meth c H locs cells slots QW g) m s.heap D cA ad A nc nL pc L [] h)
    (hRa : ∀ (v : Value) (h : LH) (pc : Nat) (L : List Value), decode cc pc = .ok (.areturn, 1) → (v = .null ∨ ∃ a, v = .ref a) → (rk = 3 ∧ Q v h) → tf_At (fun H locs g => W p l e R s m args below meth c H locs cells slots QW g) m s.heap D cA ad A nc nL pc L [v] h)
    {Y : tf_X} (hY : ∀ pc L st h, Y pc L st h → tf_At (fun H locs g => W p l e R s m args below meth c H locs cells slots QW g) m s.heap D cA ad A nc nL pc L st h) : ∀ (b : List (Instr × Nat)) (pc : Nat) (L st : List Value) (h : LH), tf_bck cc nL pc b = true → tf_wp nc C F M I E rk Q Y pc b L st h → tf_At (fun H locs g => W p l e R s m args below meth c H locs cells slots QW g) m s.heap D cA ad A nc nL pc L st h := by
  intro b
  induction b with
  | nil =>
    intro pc L st h _ hq
    exact hY _ _ _ _ hq
  | cons a r ih =>
    obtain ⟨i, n⟩ := a
    intro pc L st h hb2 hq
    simp only [tf_bck, Bool.and_eq_true, decide_eq_true_eq] at hb2
    obtain ⟨⟨hd, hck⟩, hr⟩ := hb2
    rw [tf_wp] at hq
    cases hEp : E pc with
    | some f =>
      rw [hEp] at hq
      exact hE pc n i f L st h _ Y hEp hd hq (fun L st h hk => ih (pc + n) L st h hr hk) hY
    | none =>
      rw [hEp] at hq
      exact tf_st_ok hx hb hown hts hK hj hA hF hI hJ hC hR1 hR0 hRa hd hck hq (fun L st h hk => ih (pc + n) L st h hr hk) hY
end TFV
/-- the law at a place of its loop, with t rounds done -/
abbrev lk_At (p : Program) (l : Launch) (e : Env) (s : State) (m : MethodId) (below : List Frame) (meth : Method) (c : Code) (b : Nat) (D : va_G) (cA : Nat → ClassId) (ad : Nat → Nat) (t pc : Nat) (L st : List Value) (h : LH) : Prop := tf_At (fun H locs g => W p l e room_1 s m #[Value.ref b] below meth c H locs (298 + 1000 * t) (11103 + 10000 * t) (lw_Z below #[Value.ref b] s) g) m s.heap D cA ad (fun q : Nat => s.heap.size ≤ q) 298 7 pc L st h
section LKB
variable {p : Program} {l : Launch} {e : Env} {s : State} {m : MethodId} {below : List Frame} {meth : Method} {c : Code} {b n : Nat} {xs : Nat → Int32} {D : va_G} {cA : Nat → ClassId} {ad : Nat → Nat}
set_option maxHeartbeats 2000000 in
set_option maxRecDepth 100000 in
theorem law_blk (C0 : lw_At p s m meth c b n xs) (hK : va_K D vwCl (tf_ty cA) s) (hSX : tk_SX s) (hinj : tf_inj ad 298) (hA : ∀ d, d < 298 → s.heap.size ≤ ad d) (h500 : ad 500 = b) {t : Nat} (ht : t ≤ 512) {X : tf_X} (hX : ∀ pc L st h, X pc L st h → lk_At p l e s m below meth c b D cA ad t pc L st h) {pc : Nat} {L st : List Value} {h : LH} (hw : lxL (tf_Cd 298 11) n xs (fun v _ => v = .int 1) X pc L st h) : lk_At p l e s m below meth c b D cA ad t pc L st h := by
  obtain ⟨hx, hb, hr, hml, hown, hts, hXs, hbl, hlocks, hgv⟩ := id C0
  have hA2 : ∀ q : Nat, s.heap.size ≤ q → (fun q : Nat => s.heap.size ≤ q) q := fun _ h => h
  have hbA : ¬ (fun q : Nat => s.heap.size ≤ q) b := Nat.not_le.mpr hbl
  have hSX2 : tf_SX ad (fun q : Nat => s.heap.size ≤ q) s s.heap := ⟨hSX.2, trivial⟩
  have hc1 : 298 + 1000 * t ≤ 601024 := by omega
  have hc2 : 11103 + 10000 * t ≤ 7293034 := by omega
  refine tf_wp_ok (nc := 298) (nL := 7) (own := tf_own 10) (Ts := lw_tbl) (C := tf_Cd 298 11) (F := tf_F 10) (M := tf_M 10) (I := tf_I 10) (E := lk_E n xs) (rk := 2) (Q := fun v _ => v = .int 1) hx hb hown hts hK hinj hA ?_ ?_ ?_ ?_ ?_ ?_ ?_ ?_ hX _ pc L st h (tf_at_ck ck_L pc) hw
  · intro j ci q hf
    obtain ⟨C, T, N, ty, h1, h2, h3, h4, h5, h6, h7⟩ := tf_F_ok (o := 10) (by decide) j ci q hf
    exact ⟨C, T, N, ty, h1, h2, h3, h4, tk_BW _ h5, fun w hw => tk_BW _ (h6 w hw), h7⟩
  · intro j v hi
    exact hts _ (tk_BW _ (tf_I_ok (o := 10) (by decide) hi))
  · intro j v hi
    exact hts _ (tk_BW _ (tf_J_ok (o := 10) (by decide) hi))
  · exact tf_hC (o := 10) (d := 11) (by decide) hx hb hml hown hts tk_BW hK hinj hA hA2 hSX2 ⟨by decide, by decide⟩ ⟨hc1, hc2⟩
  · intro pc n2 i f L st h k X hE hd hf hk _
    unfold lk_E at hE
    split at hE
    · rename_i h26
      subst h26
      cases hE
      have hd2 := hd.symm.trans lk_dec26
      cases hd2
      unfold lk_len at hf
      split at hf
      · obtain ⟨rfl, hf⟩ := hf
        intro H locs ls hP hS hL
        show W _ _ _ _ _ _ _ _ _ _ _ _ _ _ _ (F0 m 26 ls (.ref (ad 500) :: _))
        rw [h500]
        exact va_slen hx hb hXs hbl hbA hS lk_dec26 (hk _ _ _ hf H locs ls hP hS hL)
      · exact hf.elim
    · split at hE
      · rename_i hmem
        cases hE
        have hdi := lk_dec hmem
        have hd2 := hd.symm.trans hdi
        cases hd2
        unfold lk_rd at hf
        split at hf
        · obtain ⟨⟨rfl, hin⟩, hf⟩ := hf
          intro H locs ls hP hS hL
          show W _ _ _ _ _ _ _ _ _ _ _ _ _ _ _ (F0 m pc ls (.int _ :: .ref (ad 500) :: _))
          rw [h500]
          exact va_sld hx hb hXs hbl hbA hS hin hdi (hk _ _ _ hf H locs ls hP hS hL)
        · exact hf.elim
      · cases hE
  · intro v h2 pc L hdc hrb H locs ls hP hS hL
    obtain ⟨-, hv⟩ := hrb
    cases hv
    refine va_forget (fun q hq => hS.2.2 q hq) ?_
    refine W.widen (k := 601024) (n := 7293034) hc1 hc2 ?_
    exact lw_ret hx hb hr hlocks hdc
  · intro h2 pc L hdc hrb
    exact absurd hrb.1 (by decide)
  · intro v h2 pc L hdc hv hrb
    exact absurd hrb.1 (by decide)
/-- fewer rounds done leave more room -/
theorem lk_wide {t pc : Nat} {L st : List Value} {h : LH} (hq : lk_At p l e s m below meth c b D cA ad (t + 1) pc L st h) : lk_At p l e s m below meth c b D cA ad t pc L st h := by
  intro H locs ls hP hS hL
  exact W.widen (by omega) (by omega) (hq H locs ls hP hS hL)
set_option maxHeartbeats 2000000 in
set_option maxRecDepth 100000 in
/-- the loop, out of one round of it -/
theorem law_loop {Inv : LH → Prop} (hn : n ≤ 2048) (C0 : lw_At p s m meth c b n xs) (hK : va_K D vwCl (tf_ty cA) s) (hSX : tk_SX s) (hinj : tf_inj ad 298) (hA : ∀ d, d < 298 → s.heap.size ≤ ad d) (h500 : ad 500 = b)
    (hstep : ∀ (t : Nat) (h : LH) (x5 x6 : Value), 4 * t + 4 ≤ n → Inv h → (∀ (h' : LH) (y5 y6 : Value), Inv h' → lk_At p l e s m below meth c b D cA ad (t + 1) 1290 [.ref 500, .ref 240, .ref 270, .ref 297, .int (nI (4 * t)), y5, y6] [] h') → lk_At p l e s m below meth c b D cA ad t 32 [.ref 500, .ref 240, .ref 270, .ref 297, .int (nI (4 * t)), x5, x6] [] h) :
    ∀ (k t : Nat) (h : LH) (x5 x6 : Value), n < 4 * (t + k) → t ≤ 512 → Inv h → lk_At p l e s m below meth c b D cA ad t 23 [.ref 500, .ref 240, .ref 270, .ref 297, .int (nI (4 * t)), x5, x6] [] h := by
  intro k
  induction k with
  | zero =>
    intro t h x5 x6 hk ht hI
    refine law_blk C0 hK hSX hinj hA h500 ht (X := fun pc L st h => lk_At p l e s m below meth c b D cA ad t pc L st h) (fun _ _ _ _ q => q) (go_L_23 ⟨fun _ => ?_, fun q => ?_⟩)
    · refine law_blk C0 hK hSX hinj hA h500 ht (X := fun pc L st h => lk_At p l e s m below meth c b D cA ad t pc L st h) (fun _ _ _ _ q => q) (go_L_1296 rfl)
    · exfalso
      refine q ?_
      show Int32.ofNat n - 4 < nI (4 * t)
      have e1 : (nI (4 * t)).toInt = ((4 * t : Nat) : Int) := nI_toInt (by omega)
      have e2 : (Int32.ofNat n - 4).toInt = (n : Int) - 4 := by
        have : (nI n - nI 4).toInt = (n : Int) - (4 : Nat) := pk_sub_toInt (by omega) (by decide)
        exact this
      rw [Int32.lt_iff_toInt_lt, e1, e2]
      omega
  | succ k ih =>
    intro t h x5 x6 hk ht hI
    refine law_blk C0 hK hSX hinj hA h500 ht (X := fun pc L st h => lk_At p l e s m below meth c b D cA ad t pc L st h) (fun _ _ _ _ q => q) (go_L_23 ⟨fun _ => ?_, fun q => ?_⟩)
    · refine law_blk C0 hK hSX hinj hA h500 ht (X := fun pc L st h => lk_At p l e s m below meth c b D cA ad t pc L st h) (fun _ _ _ _ q => q) (go_L_1296 rfl)
    · have e1 : (nI (4 * t)).toInt = ((4 * t : Nat) : Int) := nI_toInt (by omega)
      have e2 : (Int32.ofNat n - 4).toInt = (n : Int) - 4 := by
        have : (nI n - nI 4).toInt = (n : Int) - (4 : Nat) := pk_sub_toInt (by omega) (by decide)
        exact this
      have hle : 4 * t + 4 ≤ n := by
        rcases Nat.lt_or_ge n (4 * t + 4) with z | z
        · exfalso
          refine q ?_
          show Int32.ofNat n - 4 < nI (4 * t)
          rw [Int32.lt_iff_toInt_lt, e1, e2]
          omega
        · exact z
      sorry
end LKB
