/-! ===== the law's loop out of its steps ===== -/
section TFV
variable {p : Program} {l : Launch} {e : Env} {R : Room} {s : State} {m : MethodId} {args : Array Value} {below : List Frame} {meth : Method} {c : Code} {cells slots : Nat} {QW : State → Prop}
variable {cc : ByteArray} {D : va_G} {cA : Nat → ClassId} {ad : Nat → Nat} {A : Nat → Prop} {nc nL : Nat} {own : String} {Ts : List Jvm.Cond}
variable {C : tf_C} {F : Nat → Option (Nat × Nat)} {M : Nat → Option (Nat × Nat × Bool)} {I : Nat → Option Value} {E : tf_Hk} {rk : Nat} {Q : tf_Q} {B : tf_Bk}
set_option maxHeartbeats 1000000 in
/-- one block: what it needs holds, and where it goes to the machine goes on -/
theorem tf_wp_ok (hx : p.tables.exec = Jvm.exec) (hb : c.code = cc) (hown : s.vm.findClass own = some m.cls) (hts : ∀ w ∈ Ts, w.before args s = true) (hK : va_K D vwCl (tf_ty cA) s) (hj : tf_inj ad nc) (hA : ∀ d, d < nc → A (ad d))
    (hF : tf_Fok own F Ts) (hI : ∀ j v, I j = some (.int v) → (Jvm.Cond.constant own j v).before args s = true) (hJ : ∀ j v, I j = some (.long v) → (Jvm.Cond.constantLong own j v).before args s = true)
    (hC : ∀ (pc : Nat) (i : Instr) (j j2 kn na : Nat) (vd : Bool) (L st : List Value) (h : LH) (K : tf_Q), j < 100000 → ((i = .invokevirtual j ∧ j2 = j) ∨ (i = .invokestatic j ∧ j2 = j + 100000)) → decode cc pc = .ok (i, 3) → M j2 = some (kn, na, vd) → na ≤ st.length → ((st.drop na).map Value.category).sum ≤ 8 → C kn (st.take na).reverse h K → (∀ r h, K r h → tf_At (fun H locs g => W p l e R s m args below meth c H locs cells slots QW g) m s.heap D cA ad A nc nL (pc + 3) L (if vd = true then st.drop na else r :: st.drop na) h) → tf_At (fun H locs g => W p l e R s m args below meth c H locs cells slots QW g) m s.heap D cA ad A nc nL pc L st h)
    (hE : ∀ (pc n : Nat) (i : Instr) (f : List Value → List Value → LH → tf_Kt → tf_X → Prop) (L st : List Value) (h : LH) (k : tf_Kt) (X : tf_X), E pc = some f → decode cc pc = .ok (i, n) → f L st h k X → (∀ L st h, k L st h → tf_At (fun H locs g => W p l e R s m args below meth c H locs cells slots QW g) m s.heap D cA ad A nc nL (pc + n) L st h) → (∀ pc L st h, X pc L st h → tf_At (fun H locs g => W p l e R s m args below meth c H locs cells slots QW g) m s.heap D cA ad A nc nL pc L st h) → tf_At (fun H locs g => W p l e R s m args below meth c H locs cells slots QW g) m s.heap D cA ad A nc nL pc L st h)
    (hR1 : ∀ (v : Int32) (h : LH) (pc : Nat) (L : List Value), decode cc pc = .ok (.ireturn, 1) → (tf_rb rk v ∧ Q (.int v) h) → tf_At (fun H locs g => W p l e R s m args below meth c H locs cells slots QW g) m s.heap D cA ad A nc nL pc L [.int v] h)
    (hR0 : ∀ (h : LH) (pc : Nat) (L : List Value), decode cc pc = .ok (.return_, 1) → (rk = 0 ∧ Q tf_z h) → tf_At (fun H locs g => W p l e R s m args below meth c H locs cells slots QW g) m s.heap D cA ad A nc nL pc L [] h)
    (hRa : ∀ (v : Value) (h : LH) (pc : Nat) (L : List Value), decode cc pc = .ok (.areturn, 1) → (v = .null ∨ ∃ a, v = .ref a) → (rk = 3 ∧ Q v h) → tf_At (fun H locs g => W p l e R s m args below meth c H locs cells slots QW g) m s.heap D cA ad A nc nL pc L [v] h)
    {Y : tf_X} (hY : ∀ pc L st h, Y pc L st h → tf_At (fun H locs g => W p l e R s m args below meth c H locs cells slots QW g) m s.heap D cA ad A nc nL pc L st h) : ∀ (b : List (Instr × Nat)) (pc : Nat) (L st : List Value) (h : LH), tf_bck cc nL pc b = true → tf_wp nc C F M I E rk Q Y pc b L st h → tf_At (fun H locs g => W p l e R s m args below meth c H locs cells slots QW g) m s.heap D cA ad A nc nL pc L st h := by
  intro b
  induction b with
  | nil =>
    intro pc L st h _ hq
    exact hY _ _ _ _ hq
  | cons a r ih =>
    obtain ⟨i, n⟩ := a
    intro pc L st h hb2 hq
    simp only [tf_bck, Bool.and_eq_true, decide_eq_true_eq] at hb2
    obtain ⟨⟨hd, hck⟩, hr⟩ := hb2
    rw [tf_wp] at hq
    cases hEp : E pc with
    | some f =>
      rw [hEp] at hq
      exact hE pc n i f L st h _ Y hEp hd hq (fun L st h hk => ih (pc + n) L st h hr hk) hY
    | none =>
      rw [hEp] at hq
      exact tf_st_ok hx hb hown hts hK hj hA hF hI hJ hC hR1 hR0 hRa hd hck hq (fun L st h hk => ih (pc + n) L st h hr hk) hY
end TFV
/-- the law at a place of its loop, with t rounds done -/
abbrev lk_At (p : Program) (l : Launch) (e : Env) (s : State) (m : MethodId) (below : List Frame) (meth : Method) (c : Code) (b : Nat) (D : va_G) (cA : Nat → ClassId) (ad : Nat → Nat) (t pc : Nat) (L st : List Value) (h : LH) : Prop := tf_At (fun H locs g => W p l e room_1 s m #[Value.ref b] below meth c H locs (298 + 1000 * t) (11103 + 10000 * t) (lw_Z below #[Value.ref b] s) g) m s.heap D cA ad (fun q : Nat => s.heap.size ≤ q) 298 7 pc L st h
section LKB
variable {p : Program} {l : Launch} {e : Env} {s : State} {m : MethodId} {below : List Frame} {meth : Method} {c : Code} {b n : Nat} {xs : Nat → Int32} {D : va_G} {cA : Nat → ClassId} {ad : Nat → Nat}
set_option maxHeartbeats 2000000 in
set_option maxRecDepth 100000 in
theorem law_blk (C0 : lw_At p s m meth c b n xs) (hK : va_K D vwCl (tf_ty cA) s) (hSX : tk_SX s) (hinj : tf_inj ad 298) (hA : ∀ d, d < 298 → s.heap.size ≤ ad d) (h500 : ad 500 = b) (hK9 : tv_K ad (fun q : Nat => s.heap.size ≤ q) s s.heap) {t : Nat} (ht : t ≤ 512) {X : tf_X} (hX : ∀ pc L st h, X pc L st h → lk_At p l e s m below meth c b D cA ad t pc L st h) {pc : Nat} {L st : List Value} {h : LH} (hw : lxL (tf_Cd 298 11) n xs (fun v _ => v = .int 1) X pc L st h) : lk_At p l e s m below meth c b D cA ad t pc L st h := by
  obtain ⟨hx, hb, hr, hml, hown, hts, hXs, hbl, hlocks, hgv⟩ := id C0
  have hA2 : ∀ q : Nat, s.heap.size ≤ q → (fun q : Nat => s.heap.size ≤ q) q := fun _ h => h
  have hbA : ¬ (fun q : Nat => s.heap.size ≤ q) b := Nat.not_le.mpr hbl
  have hSX2 : tf_SX 298 ad (fun q : Nat => s.heap.size ≤ q) s s.heap := ⟨hSX.2, fun _ => hSX.1.2, fun _ => hK9⟩
  have hc1 : 298 + 1000 * t ≤ 601024 := by omega
  have hc2 : 11103 + 10000 * t ≤ 7293034 := by omega
  refine tf_wp_ok (nc := 298) (nL := 7) (own := tf_own 10) (Ts := lw_tbl) (C := tf_Cd 298 11) (F := tf_F 10) (M := tf_M 10) (I := tf_I 10) (E := lk_E n xs) (rk := 2) (Q := fun v _ => v = .int 1) hx hb hown hts hK hinj hA ?_ ?_ ?_ ?_ ?_ ?_ ?_ ?_ hX _ pc L st h (tf_at_ck ck_L pc) hw
  · intro j ci q hf
    obtain ⟨C, T, N, ty, h1, h2, h3, h4, h5, h6, h7⟩ := tf_F_ok (o := 10) (by decide) j ci q hf
    exact ⟨C, T, N, ty, h1, h2, h3, h4, tk_BW _ h5, fun w hw => tk_BW _ (h6 w hw), h7⟩
  · intro j v hi
    exact hts _ (tk_BW _ (tf_I_ok (o := 10) (by decide) hi))
  · intro j v hi
    exact hts _ (tk_BW _ (tf_J_ok (o := 10) (by decide) hi))
  · exact tf_hC (o := 10) (d := 11) (by decide) hx hb hml hown hts tk_BW hK hinj hA hA2 hSX2 ⟨by decide, by decide⟩ ⟨hc1, hc2⟩
  · intro pc n2 i f L st h k X hE hd hf hk _
    unfold lk_E at hE
    split at hE
    · rename_i h26
      subst h26
      cases hE
      have hd2 := hd.symm.trans lk_dec26
      cases hd2
      unfold lk_len at hf
      split at hf
      · obtain ⟨rfl, hf⟩ := hf
        intro H locs ls hP hS hL
        show W _ _ _ _ _ _ _ _ _ _ _ _ _ _ _ (F0 m 26 ls (.ref (ad 500) :: _))
        rw [h500]
        exact va_slen hx hb hXs hbl hbA hS lk_dec26 (hk _ _ _ hf H locs ls hP hS hL)
      · exact hf.elim
    · split at hE
      · rename_i hmem
        cases hE
        have hdi := lk_dec hmem
        have hd2 := hd.symm.trans hdi
        cases hd2
        unfold lk_rd at hf
        split at hf
        · obtain ⟨⟨rfl, hin⟩, hf⟩ := hf
          intro H locs ls hP hS hL
          show W _ _ _ _ _ _ _ _ _ _ _ _ _ _ _ (F0 m pc ls (.int _ :: .ref (ad 500) :: _))
          rw [h500]
          exact va_sld hx hb hXs hbl hbA hS hin hdi (hk _ _ _ hf H locs ls hP hS hL)
        · exact hf.elim
      · cases hE
  · intro v h2 pc L hdc hrb H locs ls hP hS hL
    obtain ⟨-, hv⟩ := hrb
    cases hv
    refine va_forget (fun q hq => hS.2.2 q hq) ?_
    refine W.widen (k := 601024) (n := 7293034) hc1 hc2 ?_
    exact lw_ret hx hb hr hlocks hdc
  · intro h2 pc L hdc hrb
    exact absurd hrb.1 (by decide)
  · intro v h2 pc L hdc hv hrb
    exact absurd hrb.1 (by decide)

theorem lk_wide {t pc : Nat} {L st : List Value} {h : LH} (hq : lk_At p l e s m below meth c b D cA ad (t + 1) pc L st h) : lk_At p l e s m below meth c b D cA ad t pc L st h := by
  intro H locs ls hP hS hL
  exact W.widen (by omega) (by omega) (hq H locs ls hP hS hL)
end LKB
/-- what stands still while the law runs -/
def lk_cx (p : Program) (s : State) (m : MethodId) (meth : Method) (c : Code) (b n : Nat) (xs : Nat → Int32) (D : va_G) (cA : Nat → ClassId) (ad : Nat → Nat) : Prop := lw_At p s m meth c b n xs ∧ va_K D vwCl (tf_ty cA) s ∧ tk_SX s ∧ tf_inj ad 298 ∧ (∀ d, d < 298 → s.heap.size ≤ ad d) ∧ ad 500 = b ∧ tv_K ad (fun q : Nat => s.heap.size ≤ q) s s.heap
/-- the class's method, then the reference's -/
def lk_sp (h : LH) (kx : Nat) (As : List Value) (km : Nat) (Bs : List Value) (P : LH → Prop) : Prop := tf_Sp 11 kx As h (fun v g => (∃ x, v = .int x) ∧ tf_Sp 11 km Bs g (fun w g2 => (∃ y, w = .int y) ∧ P g2))
/-- both return the same -/
def lk_eq (h : LH) (kx : Nat) (As : List Value) (km : Nat) (Bs : List Value) (P : LH → Prop) : Prop := tf_Sp 11 kx As h (fun v g => ∃ x, v = .int x ∧ tf_Sp 11 km Bs g (fun w g2 => w = .int x ∧ P g2))
/-- both return nothing -/
def lk_vo (h : LH) (kx : Nat) (As : List Value) (km : Nat) (Bs : List Value) (P : LH → Prop) : Prop := tf_Sp 11 kx As h (fun _ g => tf_Sp 11 km Bs g (fun _ g2 => P g2))
section LKC
variable {p : Program} {l : Launch} {e : Env} {s : State} {m : MethodId} {below : List Frame} {meth : Method} {c : Code} {b n : Nat} {xs : Nat → Int32} {D : va_G} {cA : Nat → ClassId} {ad : Nat → Nat}
theorem lk_go (K : lk_cx p s m meth c b n xs D cA ad) {t : Nat} (ht : t ≤ 512) {pc : Nat} {L st : List Value} {h : LH} (hw : lxL (tf_Cd 298 11) n xs (fun v _ => v = .int 1) (fun pc L st h => lk_At p l e s m below meth c b D cA ad t pc L st h) pc L st h) : lk_At p l e s m below meth c b D cA ad t pc L st h :=
  law_blk K.1 K.2.1 K.2.2.1 K.2.2.2.1 K.2.2.2.2.1 K.2.2.2.2.2.1 K.2.2.2.2.2.2 ht (fun _ _ _ _ q => q) hw
theorem lcs_0 (K : lk_cx p s m meth c b n xs D cA ad) {t : Nat} (ht : t ≤ 512) {x4 : Int32} {x5 x6 : Value} {h : LH} {P : LH → Prop} (hi1 : vp_in (x4 + 1) n) (hi2 : vp_in (x4 + 2) n) (hq : lk_sp h 181 [.ref (240), .long ((((xs (x4 + 1 : Int32).toNatClampNeg : Int32).toInt64) <<< ((32 : Int32).toInt64 &&& 63)) ||| (((xs (x4 + 2 : Int32).toNatClampNeg : Int32).toInt64) &&& 4294967295))] 8 [.ref (270), .long ((((xs (x4 + 1 : Int32).toNatClampNeg : Int32).toInt64) <<< ((32 : Int32).toInt64 &&& 63)) ||| (((xs (x4 + 2 : Int32).toNatClampNeg : Int32).toInt64) &&& 4294967295))] P) (hE : ∀ g, P g → lk_At p l e s m below meth c b D cA ad t 1234 [.ref 500, .ref 240, .ref 270, .ref 297, .int x4, x5, x6] [] g) : lk_At p l e s m below meth c b D cA ad t 188 [.ref 500, .ref 240, .ref 270, .ref 297, .int x4, x5, x6] [] h := 
  lk_go K ht (go_L_188 ⟨hi1, hi2, hq _ (fun v1 g1 ⟨⟨a1, e1⟩, p1⟩ => e1 ▸ lk_go K ht (go_L_214 ⟨hi1, hi2, p1 _ (fun v2 g2 ⟨⟨a2, e2⟩, p2⟩ => e2 ▸ lk_go K ht (go_L_241 (hE _ p2)))⟩))⟩)
theorem lcs_1 (K : lk_cx p s m meth c b n xs D cA ad) {t : Nat} (ht : t ≤ 512) {x4 : Int32} {x5 x6 : Value} {h : LH} {P : LH → Prop}  (hq : lk_sp h 182 [.ref (240)] 24 [.ref (270)] P) (hE : ∀ g, P g → lk_At p l e s m below meth c b D cA ad t 1234 [.ref 500, .ref 240, .ref 270, .ref 297, .int x4, x5, x6] [] g) : lk_At p l e s m below meth c b D cA ad t 245 [.ref 500, .ref 240, .ref 270, .ref 297, .int x4, x5, x6] [] h := 
  lk_go K ht (go_L_245 (hq _ (fun v1 g1 ⟨⟨a1, e1⟩, p1⟩ => e1 ▸ lk_go K ht (go_L_249 (p1 _ (fun v2 g2 ⟨⟨a2, e2⟩, p2⟩ => e2 ▸ lk_go K ht (go_L_254 (hE _ p2))))))))
theorem lcs_2 (K : lk_cx p s m meth c b n xs D cA ad) {t : Nat} (ht : t ≤ 512) {x4 : Int32} {x5 x6 : Value} {h : LH} {P : LH → Prop} (hi1 : vp_in (x4 + 1) n) (hq : ∀ bb : Int32, bb = 0 ∨ bb = 1 → lk_sp h 183 [.ref (240), .int bb] 25 [.ref (270), .int bb] P) (hE : ∀ g, P g → lk_At p l e s m below meth c b D cA ad t 1234 [.ref 500, .ref 240, .ref 270, .ref 297, .int x4, x5, x6] [] g) : lk_At p l e s m below meth c b D cA ad t 258 [.ref 500, .ref 240, .ref 270, .ref 297, .int x4, x5, x6] [] h := by
  have hqF := hq 0 (Or.inl rfl)
  have hqT := hq 1 (Or.inr rfl)
  exact lk_go K ht (go_L_258 ⟨hi1, fun e9 => lk_go K ht (go_L_272 (lk_go K ht (go_L_273 (hqF _ (fun v1 g1 ⟨⟨a1, e1⟩, p1⟩ => e1 ▸ lk_go K ht (go_L_276 ⟨hi1, fun _ => lk_go K ht (go_L_291 (lk_go K ht (go_L_292 (p1 _ (fun v2 g2 ⟨⟨a2, e2⟩, p2⟩ => e2 ▸ lk_go K ht (go_L_295 (hE _ p2))))))), fun q9 => absurd e9 q9⟩)))))), fun e9 => lk_go K ht (go_L_273 (hqT _ (fun v1 g1 ⟨⟨a1, e1⟩, p1⟩ => e1 ▸ lk_go K ht (go_L_276 ⟨hi1, fun q9 => absurd q9 e9, fun _ => lk_go K ht (go_L_292 (p1 _ (fun v2 g2 ⟨⟨a2, e2⟩, p2⟩ => e2 ▸ lk_go K ht (go_L_295 (hE _ p2)))))⟩))))⟩)
theorem lcs_3 (K : lk_cx p s m meth c b n xs D cA ad) {t : Nat} (ht : t ≤ 512) {x4 : Int32} {x5 x6 : Value} {h : LH} {P : LH → Prop}  (hq : lk_sp h 184 [.ref (240)] 54 [.ref (270)] P) (hE : ∀ g, P g → lk_At p l e s m below meth c b D cA ad t 1234 [.ref 500, .ref 240, .ref 270, .ref 297, .int x4, x5, x6] [] g) : lk_At p l e s m below meth c b D cA ad t 299 [.ref 500, .ref 240, .ref 270, .ref 297, .int x4, x5, x6] [] h := 
  lk_go K ht (go_L_299 (hq _ (fun v1 g1 ⟨⟨a1, e1⟩, p1⟩ => e1 ▸ lk_go K ht (go_L_303 (p1 _ (fun v2 g2 ⟨⟨a2, e2⟩, p2⟩ => e2 ▸ lk_go K ht (go_L_308 (hE _ p2))))))))
theorem lcs_4 (K : lk_cx p s m meth c b n xs D cA ad) {t : Nat} (ht : t ≤ 512) {x4 : Int32} {x5 x6 : Value} {h : LH} {P : LH → Prop} (hi1 : vp_in (x4 + 1) n) (hq : lk_sp h 185 [.ref (240), .int (xs (x4 + 1 : Int32).toNatClampNeg)] 55 [.ref (270), .int (xs (x4 + 1 : Int32).toNatClampNeg)] P) (hE : ∀ g, P g → lk_At p l e s m below meth c b D cA ad t 1234 [.ref 500, .ref 240, .ref 270, .ref 297, .int x4, x5, x6] [] g) : lk_At p l e s m below meth c b D cA ad t 312 [.ref 500, .ref 240, .ref 270, .ref 297, .int x4, x5, x6] [] h := 
  lk_go K ht (go_L_312 ⟨hi1, hq _ (fun v1 g1 ⟨⟨a1, e1⟩, p1⟩ => e1 ▸ lk_go K ht (go_L_322 ⟨hi1, p1 _ (fun v2 g2 ⟨⟨a2, e2⟩, p2⟩ => e2 ▸ lk_go K ht (go_L_333 (hE _ p2)))⟩))⟩)
theorem lcs_5 (K : lk_cx p s m meth c b n xs D cA ad) {t : Nat} (ht : t ≤ 512) {x4 : Int32} {x5 x6 : Value} {h : LH} {P : LH → Prop} (hi1 : vp_in (x4 + 1) n) (hq : lk_sp h 186 [.ref (240), .int (xs (x4 + 1 : Int32).toNatClampNeg)] 56 [.ref (270), .int (xs (x4 + 1 : Int32).toNatClampNeg)] P) (hE : ∀ g, P g → lk_At p l e s m below meth c b D cA ad t 1234 [.ref 500, .ref 240, .ref 270, .ref 297, .int x4, x5, x6] [] g) : lk_At p l e s m below meth c b D cA ad t 337 [.ref 500, .ref 240, .ref 270, .ref 297, .int x4, x5, x6] [] h := 
  lk_go K ht (go_L_337 ⟨hi1, hq _ (fun v1 g1 ⟨⟨a1, e1⟩, p1⟩ => e1 ▸ lk_go K ht (go_L_347 ⟨hi1, p1 _ (fun v2 g2 ⟨⟨a2, e2⟩, p2⟩ => e2 ▸ lk_go K ht (go_L_358 (hE _ p2)))⟩))⟩)
theorem lcs_6 (K : lk_cx p s m meth c b n xs D cA ad) {t : Nat} (ht : t ≤ 512) {x4 : Int32} {x5 x6 : Value} {h : LH} {P : LH → Prop} (hi1 : vp_in (x4 + 1) n) (hi2 : vp_in (x4 + 2) n) (hi3 : vp_in (x4 + 3) n) (hq : lk_sp h 187 [.ref (240), .int (xs (x4 + 1 : Int32).toNatClampNeg), .int (xs (x4 + 2 : Int32).toNatClampNeg), .int (xs (x4 + 3 : Int32).toNatClampNeg)] 59 [.ref (270), .int (xs (x4 + 1 : Int32).toNatClampNeg), .int (xs (x4 + 2 : Int32).toNatClampNeg), .int (xs (x4 + 3 : Int32).toNatClampNeg)] P) (hE : ∀ g, P g → lk_At p l e s m below meth c b D cA ad t 1234 [.ref 500, .ref 240, .ref 270, .ref 297, .int x4, x5, x6] [] g) : lk_At p l e s m below meth c b D cA ad t 362 [.ref 500, .ref 240, .ref 270, .ref 297, .int x4, x5, x6] [] h := 
  lk_go K ht (go_L_362 ⟨hi1, hi2, hi3, hq _ (fun v1 g1 ⟨⟨a1, e1⟩, p1⟩ => e1 ▸ lk_go K ht (go_L_384 ⟨hi1, hi2, hi3, p1 _ (fun v2 g2 ⟨⟨a2, e2⟩, p2⟩ => e2 ▸ lk_go K ht (go_L_407 (hE _ p2)))⟩))⟩)
theorem lcs_7 (K : lk_cx p s m meth c b n xs D cA ad) {t : Nat} (ht : t ≤ 512) {x4 : Int32} {x5 x6 : Value} {h : LH} {P : LH → Prop} (hi1 : vp_in (x4 + 1) n) (hi2 : vp_in (x4 + 2) n) (hq : ∀ bb : Int32, bb = 0 ∨ bb = 1 → lk_sp h 188 [.ref (240), .int (xs (x4 + 1 : Int32).toNatClampNeg), .int bb] 63 [.ref (270), .int (xs (x4 + 1 : Int32).toNatClampNeg), .int bb] P) (hE : ∀ g, P g → lk_At p l e s m below meth c b D cA ad t 1234 [.ref 500, .ref 240, .ref 270, .ref 297, .int x4, x5, x6] [] g) : lk_At p l e s m below meth c b D cA ad t 411 [.ref 500, .ref 240, .ref 270, .ref 297, .int x4, x5, x6] [] h := by
  have hqF := hq 0 (Or.inl rfl)
  have hqT := hq 1 (Or.inr rfl)
  exact lk_go K ht (go_L_411 ⟨hi1, hi2, fun e9 => lk_go K ht (go_L_431 (lk_go K ht (go_L_432 (hqF _ (fun v1 g1 ⟨⟨a1, e1⟩, p1⟩ => e1 ▸ lk_go K ht (go_L_435 ⟨hi1, hi2, fun _ => lk_go K ht (go_L_456 (lk_go K ht (go_L_457 (p1 _ (fun v2 g2 ⟨⟨a2, e2⟩, p2⟩ => e2 ▸ lk_go K ht (go_L_460 (hE _ p2))))))), fun q9 => absurd e9 q9⟩)))))), fun e9 => lk_go K ht (go_L_432 (hqT _ (fun v1 g1 ⟨⟨a1, e1⟩, p1⟩ => e1 ▸ lk_go K ht (go_L_435 ⟨hi1, hi2, fun q9 => absurd q9 e9, fun _ => lk_go K ht (go_L_457 (p1 _ (fun v2 g2 ⟨⟨a2, e2⟩, p2⟩ => e2 ▸ lk_go K ht (go_L_460 (hE _ p2)))))⟩))))⟩)
theorem lcs_8 (K : lk_cx p s m meth c b n xs D cA ad) {t : Nat} (ht : t ≤ 512) {x4 : Int32} {x5 x6 : Value} {h : LH} {P : LH → Prop} (hi1 : vp_in (x4 + 1) n) (hi2 : vp_in (x4 + 2) n) (hq : lk_sp h 189 [.ref (240), .int (xs (x4 + 1 : Int32).toNatClampNeg), .int (xs (x4 + 2 : Int32).toNatClampNeg)] 64 [.ref (270), .int (xs (x4 + 1 : Int32).toNatClampNeg), .int (xs (x4 + 2 : Int32).toNatClampNeg)] P) (hE : ∀ g, P g → lk_At p l e s m below meth c b D cA ad t 1234 [.ref 500, .ref 240, .ref 270, .ref 297, .int x4, x5, x6] [] g) : lk_At p l e s m below meth c b D cA ad t 464 [.ref 500, .ref 240, .ref 270, .ref 297, .int x4, x5, x6] [] h := 
  lk_go K ht (go_L_464 ⟨hi1, hi2, hq _ (fun v1 g1 ⟨⟨a1, e1⟩, p1⟩ => e1 ▸ lk_go K ht (go_L_480 ⟨hi1, hi2, p1 _ (fun v2 g2 ⟨⟨a2, e2⟩, p2⟩ => e2 ▸ lk_go K ht (go_L_497 (hE _ p2)))⟩))⟩)
theorem lcs_9 (K : lk_cx p s m meth c b n xs D cA ad) {t : Nat} (ht : t ≤ 512) {x4 : Int32} {x5 x6 : Value} {h : LH} {P : LH → Prop} (hi1 : vp_in (x4 + 1) n) (hi2 : vp_in (x4 + 2) n) (hq : lk_sp h 190 [.ref (240), .int (xs (x4 + 1 : Int32).toNatClampNeg), .int (xs (x4 + 2 : Int32).toNatClampNeg)] 65 [.ref (270), .int (xs (x4 + 1 : Int32).toNatClampNeg), .int (xs (x4 + 2 : Int32).toNatClampNeg)] P) (hE : ∀ g, P g → lk_At p l e s m below meth c b D cA ad t 1234 [.ref 500, .ref 240, .ref 270, .ref 297, .int x4, x5, x6] [] g) : lk_At p l e s m below meth c b D cA ad t 501 [.ref 500, .ref 240, .ref 270, .ref 297, .int x4, x5, x6] [] h := 
  lk_go K ht (go_L_501 ⟨hi1, hi2, hq _ (fun v1 g1 ⟨⟨a1, e1⟩, p1⟩ => e1 ▸ lk_go K ht (go_L_517 ⟨hi1, hi2, p1 _ (fun v2 g2 ⟨⟨a2, e2⟩, p2⟩ => e2 ▸ lk_go K ht (go_L_534 (hE _ p2)))⟩))⟩)
theorem lcs_10 (K : lk_cx p s m meth c b n xs D cA ad) {t : Nat} (ht : t ≤ 512) {x4 : Int32} {x5 x6 : Value} {h : LH} {P : LH → Prop}  (hq : lk_vo h 191 [.ref (240)] 66 [.ref (270)] P) (hE : ∀ g, P g → lk_At p l e s m below meth c b D cA ad t 1234 [.ref 500, .ref 240, .ref 270, .ref 297, .int x4, x5, x6] [] g) : lk_At p l e s m below meth c b D cA ad t 538 [.ref 500, .ref 240, .ref 270, .ref 297, .int x4, x5, x6] [] h := 
  lk_go K ht (go_L_538 (hq _ (fun v1 g1 p1 => lk_go K ht (go_L_542 (p1 _ (fun v2 g2 p2 => lk_go K ht (go_L_546 (hE _ p2))))))))
theorem lcs_11 (K : lk_cx p s m meth c b n xs D cA ad) {t : Nat} (ht : t ≤ 512) {x4 : Int32} {x5 x6 : Value} {h : LH} {P : LH → Prop}  (hq : lk_sp h 192 [.ref (240)] 69 [.ref (270)] P) (hE : ∀ g, P g → lk_At p l e s m below meth c b D cA ad t 1234 [.ref 500, .ref 240, .ref 270, .ref 297, .int x4, x5, x6] [] g) : lk_At p l e s m below meth c b D cA ad t 549 [.ref 500, .ref 240, .ref 270, .ref 297, .int x4, x5, x6] [] h := 
  lk_go K ht (go_L_549 (hq _ (fun v1 g1 ⟨⟨a1, e1⟩, p1⟩ => e1 ▸ lk_go K ht (go_L_553 (p1 _ (fun v2 g2 ⟨⟨a2, e2⟩, p2⟩ => e2 ▸ lk_go K ht (go_L_558 (hE _ p2))))))))
theorem lcs_12 (K : lk_cx p s m meth c b n xs D cA ad) {t : Nat} (ht : t ≤ 512) {x4 : Int32} {x5 x6 : Value} {h : LH} {P : LH → Prop}  (hq : lk_sp h 193 [.ref (240)] 70 [.ref (270)] P) (hE : ∀ g, P g → lk_At p l e s m below meth c b D cA ad t 1234 [.ref 500, .ref 240, .ref 270, .ref 297, .int x4, x5, x6] [] g) : lk_At p l e s m below meth c b D cA ad t 562 [.ref 500, .ref 240, .ref 270, .ref 297, .int x4, x5, x6] [] h := 
  lk_go K ht (go_L_562 (hq _ (fun v1 g1 ⟨⟨a1, e1⟩, p1⟩ => e1 ▸ lk_go K ht (go_L_566 (p1 _ (fun v2 g2 ⟨⟨a2, e2⟩, p2⟩ => e2 ▸ lk_go K ht (go_L_571 (hE _ p2))))))))
theorem lcs_13 (K : lk_cx p s m meth c b n xs D cA ad) {t : Nat} (ht : t ≤ 512) {x4 : Int32} {x5 x6 : Value} {h : LH} {P : LH → Prop} (hi1 : vp_in (x4 + 1) n) (hq : lk_sp h 194 [.ref (240), .int (xs (x4 + 1 : Int32).toNatClampNeg)] 72 [.ref (270), .int (xs (x4 + 1 : Int32).toNatClampNeg)] P) (hE : ∀ g, P g → lk_At p l e s m below meth c b D cA ad t 1234 [.ref 500, .ref 240, .ref 270, .ref 297, .int x4, x5, x6] [] g) : lk_At p l e s m below meth c b D cA ad t 575 [.ref 500, .ref 240, .ref 270, .ref 297, .int x4, x5, x6] [] h := 
  lk_go K ht (go_L_575 ⟨hi1, hq _ (fun v1 g1 ⟨⟨a1, e1⟩, p1⟩ => e1 ▸ lk_go K ht (go_L_585 ⟨hi1, p1 _ (fun v2 g2 ⟨⟨a2, e2⟩, p2⟩ => e2 ▸ lk_go K ht (go_L_596 (hE _ p2)))⟩))⟩)
theorem lcs_16 (K : lk_cx p s m meth c b n xs D cA ad) {t : Nat} (ht : t ≤ 512) {x4 : Int32} {x5 x6 : Value} {h : LH} {P : LH → Prop} (hi1 : vp_in (x4 + 1) n) (hq : lk_sp h 195 [.ref (240), .int (xs (x4 + 1 : Int32).toNatClampNeg)] 77 [.ref (270), .int (xs (x4 + 1 : Int32).toNatClampNeg)] P) (hE : ∀ g, P g → lk_At p l e s m below meth c b D cA ad t 1234 [.ref 500, .ref 240, .ref 270, .ref 297, .int x4, x5, x6] [] g) : lk_At p l e s m below meth c b D cA ad t 680 [.ref 500, .ref 240, .ref 270, .ref 297, .int x4, x5, x6] [] h := 
  lk_go K ht (go_L_680 ⟨hi1, hq _ (fun v1 g1 ⟨⟨a1, e1⟩, p1⟩ => e1 ▸ lk_go K ht (go_L_690 ⟨hi1, p1 _ (fun v2 g2 ⟨⟨a2, e2⟩, p2⟩ => e2 ▸ lk_go K ht (go_L_701 (hE _ p2)))⟩))⟩)
theorem lcs_17 (K : lk_cx p s m meth c b n xs D cA ad) {t : Nat} (ht : t ≤ 512) {x4 : Int32} {x5 x6 : Value} {h : LH} {P : LH → Prop} (hi1 : vp_in (x4 + 1) n) (hi2 : vp_in (x4 + 2) n) (hi3 : vp_in (x4 + 3) n) (hq : lk_sp h 196 [.ref (240), .int (xs (x4 + 1 : Int32).toNatClampNeg), .int (xs (x4 + 2 : Int32).toNatClampNeg), .int (xs (x4 + 3 : Int32).toNatClampNeg)] 79 [.ref (270), .int (xs (x4 + 1 : Int32).toNatClampNeg), .int (xs (x4 + 2 : Int32).toNatClampNeg), .int (xs (x4 + 3 : Int32).toNatClampNeg)] P) (hE : ∀ g, P g → lk_At p l e s m below meth c b D cA ad t 1234 [.ref 500, .ref 240, .ref 270, .ref 297, .int x4, x5, x6] [] g) : lk_At p l e s m below meth c b D cA ad t 705 [.ref 500, .ref 240, .ref 270, .ref 297, .int x4, x5, x6] [] h := 
  lk_go K ht (go_L_705 ⟨hi1, hi2, hi3, hq _ (fun v1 g1 ⟨⟨a1, e1⟩, p1⟩ => e1 ▸ lk_go K ht (go_L_727 ⟨hi1, hi2, hi3, p1 _ (fun v2 g2 ⟨⟨a2, e2⟩, p2⟩ => e2 ▸ lk_go K ht (go_L_750 (hE _ p2)))⟩))⟩)
theorem lcs_18 (K : lk_cx p s m meth c b n xs D cA ad) {t : Nat} (ht : t ≤ 512) {x4 : Int32} {x5 x6 : Value} {h : LH} {P : LH → Prop} (hi1 : vp_in (x4 + 1) n) (hq : lk_sp h 197 [.ref (240), .int (xs (x4 + 1 : Int32).toNatClampNeg)] 80 [.ref (270), .int (xs (x4 + 1 : Int32).toNatClampNeg)] P) (hE : ∀ g, P g → lk_At p l e s m below meth c b D cA ad t 1234 [.ref 500, .ref 240, .ref 270, .ref 297, .int x4, x5, x6] [] g) : lk_At p l e s m below meth c b D cA ad t 754 [.ref 500, .ref 240, .ref 270, .ref 297, .int x4, x5, x6] [] h := 
  lk_go K ht (go_L_754 ⟨hi1, hq _ (fun v1 g1 ⟨⟨a1, e1⟩, p1⟩ => e1 ▸ lk_go K ht (go_L_764 ⟨hi1, p1 _ (fun v2 g2 ⟨⟨a2, e2⟩, p2⟩ => e2 ▸ lk_go K ht (go_L_775 (hE _ p2)))⟩))⟩)
theorem lcs_19 (K : lk_cx p s m meth c b n xs D cA ad) {t : Nat} (ht : t ≤ 512) {x4 : Int32} {x5 x6 : Value} {h : LH} {P : LH → Prop} (hi1 : vp_in (x4 + 1) n) (hi2 : vp_in (x4 + 2) n) (hq : lk_sp h 198 [.ref (240), .int (xs (x4 + 1 : Int32).toNatClampNeg), .int (xs (x4 + 2 : Int32).toNatClampNeg)] 81 [.ref (270), .int (xs (x4 + 1 : Int32).toNatClampNeg), .int (xs (x4 + 2 : Int32).toNatClampNeg)] P) (hE : ∀ g, P g → lk_At p l e s m below meth c b D cA ad t 1234 [.ref 500, .ref 240, .ref 270, .ref 297, .int x4, x5, x6] [] g) : lk_At p l e s m below meth c b D cA ad t 779 [.ref 500, .ref 240, .ref 270, .ref 297, .int x4, x5, x6] [] h := 
  lk_go K ht (go_L_779 ⟨hi1, hi2, hq _ (fun v1 g1 ⟨⟨a1, e1⟩, p1⟩ => e1 ▸ lk_go K ht (go_L_795 ⟨hi1, hi2, p1 _ (fun v2 g2 ⟨⟨a2, e2⟩, p2⟩ => e2 ▸ lk_go K ht (go_L_812 (hE _ p2)))⟩))⟩)
theorem lcs_20 (K : lk_cx p s m meth c b n xs D cA ad) {t : Nat} (ht : t ≤ 512) {x4 : Int32} {x5 x6 : Value} {h : LH} {P : LH → Prop} (hi1 : vp_in (x4 + 1) n) (hq : lk_sp h 199 [.ref (240), .int (xs (x4 + 1 : Int32).toNatClampNeg)] 83 [.ref (270), .int (xs (x4 + 1 : Int32).toNatClampNeg)] P) (hE : ∀ g, P g → lk_At p l e s m below meth c b D cA ad t 1234 [.ref 500, .ref 240, .ref 270, .ref 297, .int x4, x5, x6] [] g) : lk_At p l e s m below meth c b D cA ad t 816 [.ref 500, .ref 240, .ref 270, .ref 297, .int x4, x5, x6] [] h := 
  lk_go K ht (go_L_816 ⟨hi1, hq _ (fun v1 g1 ⟨⟨a1, e1⟩, p1⟩ => e1 ▸ lk_go K ht (go_L_826 ⟨hi1, p1 _ (fun v2 g2 ⟨⟨a2, e2⟩, p2⟩ => e2 ▸ lk_go K ht (go_L_837 (hE _ p2)))⟩))⟩)
theorem lcs_21 (K : lk_cx p s m meth c b n xs D cA ad) {t : Nat} (ht : t ≤ 512) {x4 : Int32} {x5 x6 : Value} {h : LH} {P : LH → Prop} (hi1 : vp_in (x4 + 1) n) (hi2 : vp_in (x4 + 2) n) (hq : ∀ bb : Int32, bb = 0 ∨ bb = 1 → lk_sp h 200 [.ref (240), .int (xs (x4 + 1 : Int32).toNatClampNeg), .int bb] 85 [.ref (270), .int (xs (x4 + 1 : Int32).toNatClampNeg), .int bb] P) (hE : ∀ g, P g → lk_At p l e s m below meth c b D cA ad t 1234 [.ref 500, .ref 240, .ref 270, .ref 297, .int x4, x5, x6] [] g) : lk_At p l e s m below meth c b D cA ad t 841 [.ref 500, .ref 240, .ref 270, .ref 297, .int x4, x5, x6] [] h := by
  have hqF := hq 0 (Or.inl rfl)
  have hqT := hq 1 (Or.inr rfl)
  exact lk_go K ht (go_L_841 ⟨hi1, hi2, fun e9 => lk_go K ht (go_L_861 (lk_go K ht (go_L_862 (hqF _ (fun v1 g1 ⟨⟨a1, e1⟩, p1⟩ => e1 ▸ lk_go K ht (go_L_865 ⟨hi1, hi2, fun _ => lk_go K ht (go_L_886 (lk_go K ht (go_L_887 (p1 _ (fun v2 g2 ⟨⟨a2, e2⟩, p2⟩ => e2 ▸ lk_go K ht (go_L_890 (hE _ p2))))))), fun q9 => absurd e9 q9⟩)))))), fun e9 => lk_go K ht (go_L_862 (hqT _ (fun v1 g1 ⟨⟨a1, e1⟩, p1⟩ => e1 ▸ lk_go K ht (go_L_865 ⟨hi1, hi2, fun q9 => absurd q9 e9, fun _ => lk_go K ht (go_L_887 (p1 _ (fun v2 g2 ⟨⟨a2, e2⟩, p2⟩ => e2 ▸ lk_go K ht (go_L_890 (hE _ p2)))))⟩))))⟩)
theorem lcs_22 (K : lk_cx p s m meth c b n xs D cA ad) {t : Nat} (ht : t ≤ 512) {x4 : Int32} {x5 x6 : Value} {h : LH} {P : LH → Prop} (hi1 : vp_in (x4 + 1) n) (hi2 : vp_in (x4 + 2) n) (hq : lk_sp h 201 [.ref (240), .int (xs (x4 + 1 : Int32).toNatClampNeg), .int (xs (x4 + 2 : Int32).toNatClampNeg)] 86 [.ref (270), .int (xs (x4 + 1 : Int32).toNatClampNeg), .int (xs (x4 + 2 : Int32).toNatClampNeg)] P) (hE : ∀ g, P g → lk_At p l e s m below meth c b D cA ad t 1234 [.ref 500, .ref 240, .ref 270, .ref 297, .int x4, x5, x6] [] g) : lk_At p l e s m below meth c b D cA ad t 894 [.ref 500, .ref 240, .ref 270, .ref 297, .int x4, x5, x6] [] h := 
  lk_go K ht (go_L_894 ⟨hi1, hi2, hq _ (fun v1 g1 ⟨⟨a1, e1⟩, p1⟩ => e1 ▸ lk_go K ht (go_L_910 ⟨hi1, hi2, p1 _ (fun v2 g2 ⟨⟨a2, e2⟩, p2⟩ => e2 ▸ lk_go K ht (go_L_927 (hE _ p2)))⟩))⟩)
theorem lcs_23 (K : lk_cx p s m meth c b n xs D cA ad) {t : Nat} (ht : t ≤ 512) {x4 : Int32} {x5 x6 : Value} {h : LH} {P : LH → Prop} (hi1 : vp_in (x4 + 1) n) (hi2 : vp_in (x4 + 2) n) (hq : lk_sp h 202 [.ref (240), .int (xs (x4 + 1 : Int32).toNatClampNeg), .int (xs (x4 + 2 : Int32).toNatClampNeg)] 91 [.ref (270), .int (xs (x4 + 1 : Int32).toNatClampNeg), .int (xs (x4 + 2 : Int32).toNatClampNeg)] P) (hE : ∀ g, P g → lk_At p l e s m below meth c b D cA ad t 1234 [.ref 500, .ref 240, .ref 270, .ref 297, .int x4, x5, x6] [] g) : lk_At p l e s m below meth c b D cA ad t 931 [.ref 500, .ref 240, .ref 270, .ref 297, .int x4, x5, x6] [] h := 
  lk_go K ht (go_L_931 ⟨hi1, hi2, hq _ (fun v1 g1 ⟨⟨a1, e1⟩, p1⟩ => e1 ▸ lk_go K ht (go_L_947 ⟨hi1, hi2, p1 _ (fun v2 g2 ⟨⟨a2, e2⟩, p2⟩ => e2 ▸ lk_go K ht (go_L_964 (hE _ p2)))⟩))⟩)
theorem lcs_24 (K : lk_cx p s m meth c b n xs D cA ad) {t : Nat} (ht : t ≤ 512) {x4 : Int32} {x5 x6 : Value} {h : LH} {P : LH → Prop} (hi1 : vp_in (x4 + 1) n) (hq : lk_sp h 203 [.ref (240), .int (xs (x4 + 1 : Int32).toNatClampNeg)] 93 [.ref (270), .int (xs (x4 + 1 : Int32).toNatClampNeg)] P) (hE : ∀ g, P g → lk_At p l e s m below meth c b D cA ad t 1234 [.ref 500, .ref 240, .ref 270, .ref 297, .int x4, x5, x6] [] g) : lk_At p l e s m below meth c b D cA ad t 968 [.ref 500, .ref 240, .ref 270, .ref 297, .int x4, x5, x6] [] h := 
  lk_go K ht (go_L_968 ⟨hi1, hq _ (fun v1 g1 ⟨⟨a1, e1⟩, p1⟩ => e1 ▸ lk_go K ht (go_L_978 ⟨hi1, p1 _ (fun v2 g2 ⟨⟨a2, e2⟩, p2⟩ => e2 ▸ lk_go K ht (go_L_989 (hE _ p2)))⟩))⟩)
theorem lcs_25 (K : lk_cx p s m meth c b n xs D cA ad) {t : Nat} (ht : t ≤ 512) {x4 : Int32} {x5 x6 : Value} {h : LH} {P : LH → Prop} (hi1 : vp_in (x4 + 1) n) (hi2 : vp_in (x4 + 2) n) (hq : ∀ bb : Int32, bb = 0 ∨ bb = 1 → lk_sp h 204 [.ref (240), .int (xs (x4 + 1 : Int32).toNatClampNeg), .int bb] 94 [.ref (270), .int (xs (x4 + 1 : Int32).toNatClampNeg), .int bb] P) (hE : ∀ g, P g → lk_At p l e s m below meth c b D cA ad t 1234 [.ref 500, .ref 240, .ref 270, .ref 297, .int x4, x5, x6] [] g) : lk_At p l e s m below meth c b D cA ad t 993 [.ref 500, .ref 240, .ref 270, .ref 297, .int x4, x5, x6] [] h := by
  have hqF := hq 0 (Or.inl rfl)
  have hqT := hq 1 (Or.inr rfl)
  exact lk_go K ht (go_L_993 ⟨hi1, hi2, fun e9 => lk_go K ht (go_L_1013 (lk_go K ht (go_L_1014 (hqF _ (fun v1 g1 ⟨⟨a1, e1⟩, p1⟩ => e1 ▸ lk_go K ht (go_L_1017 ⟨hi1, hi2, fun _ => lk_go K ht (go_L_1038 (lk_go K ht (go_L_1039 (p1 _ (fun v2 g2 ⟨⟨a2, e2⟩, p2⟩ => e2 ▸ lk_go K ht (go_L_1042 (hE _ p2))))))), fun q9 => absurd e9 q9⟩)))))), fun e9 => lk_go K ht (go_L_1014 (hqT _ (fun v1 g1 ⟨⟨a1, e1⟩, p1⟩ => e1 ▸ lk_go K ht (go_L_1017 ⟨hi1, hi2, fun q9 => absurd q9 e9, fun _ => lk_go K ht (go_L_1039 (p1 _ (fun v2 g2 ⟨⟨a2, e2⟩, p2⟩ => e2 ▸ lk_go K ht (go_L_1042 (hE _ p2)))))⟩))))⟩)
theorem lcs_26 (K : lk_cx p s m meth c b n xs D cA ad) {t : Nat} (ht : t ≤ 512) {x4 : Int32} {x5 x6 : Value} {h : LH} {P : LH → Prop}  (hq : lk_sp h 205 [.ref (240)] 103 [.ref (270)] P) (hE : ∀ g, P g → lk_At p l e s m below meth c b D cA ad t 1234 [.ref 500, .ref 240, .ref 270, .ref 297, .int x4, x5, x6] [] g) : lk_At p l e s m below meth c b D cA ad t 1046 [.ref 500, .ref 240, .ref 270, .ref 297, .int x4, x5, x6] [] h := 
  lk_go K ht (go_L_1046 (hq _ (fun v1 g1 ⟨⟨a1, e1⟩, p1⟩ => e1 ▸ lk_go K ht (go_L_1050 (p1 _ (fun v2 g2 ⟨⟨a2, e2⟩, p2⟩ => e2 ▸ lk_go K ht (go_L_1055 (hE _ p2))))))))
theorem lcs_27 (K : lk_cx p s m meth c b n xs D cA ad) {t : Nat} (ht : t ≤ 512) {x4 : Int32} {x5 x6 : Value} {h : LH} {P : LH → Prop}  (hq : lk_sp h 206 [.ref (240)] 110 [.ref (270)] P) (hE : ∀ g, P g → lk_At p l e s m below meth c b D cA ad t 1234 [.ref 500, .ref 240, .ref 270, .ref 297, .int x4, x5, x6] [] g) : lk_At p l e s m below meth c b D cA ad t 1059 [.ref 500, .ref 240, .ref 270, .ref 297, .int x4, x5, x6] [] h := 
  lk_go K ht (go_L_1059 (hq _ (fun v1 g1 ⟨⟨a1, e1⟩, p1⟩ => e1 ▸ lk_go K ht (go_L_1063 (p1 _ (fun v2 g2 ⟨⟨a2, e2⟩, p2⟩ => e2 ▸ lk_go K ht (go_L_1068 (hE _ p2))))))))
theorem lcs_28 (K : lk_cx p s m meth c b n xs D cA ad) {t : Nat} (ht : t ≤ 512) {x4 : Int32} {x5 x6 : Value} {h : LH} {P : LH → Prop}  (hq : lk_sp h 207 [.ref (240)] 109 [.ref (270)] P) (hE : ∀ g, P g → lk_At p l e s m below meth c b D cA ad t 1234 [.ref 500, .ref 240, .ref 270, .ref 297, .int x4, x5, x6] [] g) : lk_At p l e s m below meth c b D cA ad t 1072 [.ref 500, .ref 240, .ref 270, .ref 297, .int x4, x5, x6] [] h := 
  lk_go K ht (go_L_1072 (hq _ (fun v1 g1 ⟨⟨a1, e1⟩, p1⟩ => e1 ▸ lk_go K ht (go_L_1076 (p1 _ (fun v2 g2 ⟨⟨a2, e2⟩, p2⟩ => e2 ▸ lk_go K ht (go_L_1081 (hE _ p2))))))))
theorem lcs_29 (K : lk_cx p s m meth c b n xs D cA ad) {t : Nat} (ht : t ≤ 512) {x4 : Int32} {x5 x6 : Value} {h : LH} {P : LH → Prop} (hi1 : vp_in (x4 + 1) n) (hq : lk_sp h 208 [.ref (240), .int (xs (x4 + 1 : Int32).toNatClampNeg)] 111 [.ref (270), .int (xs (x4 + 1 : Int32).toNatClampNeg)] P) (hE : ∀ g, P g → lk_At p l e s m below meth c b D cA ad t 1234 [.ref 500, .ref 240, .ref 270, .ref 297, .int x4, x5, x6] [] g) : lk_At p l e s m below meth c b D cA ad t 1085 [.ref 500, .ref 240, .ref 270, .ref 297, .int x4, x5, x6] [] h := 
  lk_go K ht (go_L_1085 ⟨hi1, hq _ (fun v1 g1 ⟨⟨a1, e1⟩, p1⟩ => e1 ▸ lk_go K ht (go_L_1095 ⟨hi1, p1 _ (fun v2 g2 ⟨⟨a2, e2⟩, p2⟩ => e2 ▸ lk_go K ht (go_L_1106 (hE _ p2)))⟩))⟩)
theorem lcs_30 (K : lk_cx p s m meth c b n xs D cA ad) {t : Nat} (ht : t ≤ 512) {x4 : Int32} {x5 x6 : Value} {h : LH} {P : LH → Prop} (hi1 : vp_in (x4 + 1) n) (hi2 : vp_in (x4 + 2) n) (hq : lk_sp h 209 [.ref (240), .int (xs (x4 + 1 : Int32).toNatClampNeg), .int (xs (x4 + 2 : Int32).toNatClampNeg)] 105 [.ref (270), .int (xs (x4 + 1 : Int32).toNatClampNeg), .int (xs (x4 + 2 : Int32).toNatClampNeg)] P) (hE : ∀ g, P g → lk_At p l e s m below meth c b D cA ad t 1234 [.ref 500, .ref 240, .ref 270, .ref 297, .int x4, x5, x6] [] g) : lk_At p l e s m below meth c b D cA ad t 1110 [.ref 500, .ref 240, .ref 270, .ref 297, .int x4, x5, x6] [] h := 
  lk_go K ht (go_L_1110 ⟨hi1, hi2, hq _ (fun v1 g1 ⟨⟨a1, e1⟩, p1⟩ => e1 ▸ lk_go K ht (go_L_1126 ⟨hi1, hi2, p1 _ (fun v2 g2 ⟨⟨a2, e2⟩, p2⟩ => e2 ▸ lk_go K ht (go_L_1143 (hE _ p2)))⟩))⟩)
theorem lcs_31 (K : lk_cx p s m meth c b n xs D cA ad) {t : Nat} (ht : t ≤ 512) {x4 : Int32} {x5 x6 : Value} {h : LH} {P : LH → Prop} (hi1 : vp_in (x4 + 1) n) (hi2 : vp_in (x4 + 2) n) (hq : lk_eq h 210 [.ref (240), .int (xs (x4 + 1 : Int32).toNatClampNeg), .int (xs (x4 + 2 : Int32).toNatClampNeg)] 106 [.ref (270), .int (xs (x4 + 1 : Int32).toNatClampNeg), .int (xs (x4 + 2 : Int32).toNatClampNeg)] P) (hE : ∀ g, P g → lk_At p l e s m below meth c b D cA ad t 1234 [.ref 500, .ref 240, .ref 270, .ref 297, .int x4, x5, x6] [] g) : lk_At p l e s m below meth c b D cA ad t 1147 [.ref 500, .ref 240, .ref 270, .ref 297, .int x4, x5, x6] [] h := 
  lk_go K ht (go_L_1147 ⟨hi1, hi2, hq _ (fun v1 g1 pp1 => by obtain ⟨a1, rfl, p1⟩ := pp1; exact lk_go K ht (go_L_1163 ⟨hi1, hi2, p1 _ (fun v2 g2 pp2 => by obtain ⟨rfl, p2⟩ := pp2; exact lk_go K ht (go_L_1179 ⟨fun _ => hE _ p2, fun q9 => absurd rfl q9⟩))⟩))⟩)
theorem lcs_32 (K : lk_cx p s m meth c b n xs D cA ad) {t : Nat} (ht : t ≤ 512) {x4 : Int32} {x5 x6 : Value} {h : LH} {P : LH → Prop} (hi1 : vp_in (x4 + 1) n) (hq : lk_sp h 211 [.ref (240), .int (xs (x4 + 1 : Int32).toNatClampNeg)] 114 [.ref (270), .int (xs (x4 + 1 : Int32).toNatClampNeg)] P) (hE : ∀ g, P g → lk_At p l e s m below meth c b D cA ad t 1234 [.ref 500, .ref 240, .ref 270, .ref 297, .int x4, x5, x6] [] g) : lk_At p l e s m below meth c b D cA ad t 1184 [.ref 500, .ref 240, .ref 270, .ref 297, .int x4, x5, x6] [] h := 
  lk_go K ht (go_L_1184 ⟨hi1, hq _ (fun v1 g1 ⟨⟨a1, e1⟩, p1⟩ => e1 ▸ lk_go K ht (go_L_1194 ⟨hi1, p1 _ (fun v2 g2 ⟨⟨a2, e2⟩, p2⟩ => e2 ▸ lk_go K ht (go_L_1205 (hE _ p2)))⟩))⟩)
theorem lcs_33 (K : lk_cx p s m meth c b n xs D cA ad) {t : Nat} (ht : t ≤ 512) {x4 : Int32} {x5 x6 : Value} {h : LH} {P : LH → Prop} (hi1 : vp_in (x4 + 1) n) (hq : lk_sp h 212 [.ref (240), .int (xs (x4 + 1 : Int32).toNatClampNeg)] 115 [.ref (270), .int (xs (x4 + 1 : Int32).toNatClampNeg)] P) (hE : ∀ g, P g → lk_At p l e s m below meth c b D cA ad t 1234 [.ref 500, .ref 240, .ref 270, .ref 297, .int x4, x5, x6] [] g) : lk_At p l e s m below meth c b D cA ad t 1209 [.ref 500, .ref 240, .ref 270, .ref 297, .int x4, x5, x6] [] h := 
  lk_go K ht (go_L_1209 ⟨hi1, hq _ (fun v1 g1 ⟨⟨a1, e1⟩, p1⟩ => e1 ▸ lk_go K ht (go_L_1219 ⟨hi1, p1 _ (fun v2 g2 ⟨⟨a2, e2⟩, p2⟩ => e2 ▸ lk_go K ht (go_L_1230 (hE _ p2)))⟩))⟩)
end LKC
