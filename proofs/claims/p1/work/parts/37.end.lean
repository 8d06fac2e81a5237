/-! ===== the law on scripts of at most one call ===== -/
section LKE
variable {p : Program} {l : Launch} {e : Env} {s : State} {m : MethodId} {below : List Frame} {meth : Method} {c : Code} {b : Nat} {xs : Nat → Int32} {D : va_G} {cA : Nat → ClassId} {ad : Nat → Nat}
theorem p1_end (K : lk_cx p s m meth c b 4 xs D cA ad) {t : Nat} (ht : t ≤ 512) {x5 x6 : Value} (g : LH) : lk_At p l e s m below meth c b D cA ad t 1290 [.ref 500, .ref 240, .ref 270, .ref 297, .int 0, x5, x6] [] g :=
  lk_go K ht (go_L_1290 (lk_go K ht (go_L_23 ⟨fun _ => lk_go K ht (go_L_1296 rfl), fun q => absurd (by decide) q⟩)))
theorem p1_in1 : vp_in ((0 : Int32) + 1) 4 := show ¬ ((0 : Int32) + 1 < 0 ∨ 4 ≤ ((0 : Int32) + 1).toNatClampNeg) by decide
theorem p1_in2 : vp_in ((0 : Int32) + 2) 4 := show ¬ ((0 : Int32) + 2 < 0 ∨ 4 ≤ ((0 : Int32) + 2).toNatClampNeg) by decide
theorem p1_in3 : vp_in ((0 : Int32) + 3) 4 := show ¬ ((0 : Int32) + 3 < 0 ∨ 4 ≤ ((0 : Int32) + 3).toNatClampNeg) by decide
theorem p1_in0 : vp_in (0 : Int32) 4 := show ¬ ((0 : Int32) < 0 ∨ 4 ≤ (0 : Int32).toNatClampNeg) by decide
theorem p1_four (K : lk_cx p s m meth c b 4 xs D cA ad) (hl : l.stackTraces = false) : lk_At p l e s m below meth c b D cA ad 0 23 [.ref 500, .ref 240, .ref 270, .ref 297, .int 0, tf_z, tf_z] [] tk_h := by
  have ht : 0 ≤ 512 := Nat.zero_le _
  have hE : ∀ (y5 y6 : Value) (g : LH), True → lk_At p l e s m below meth c b D cA ad 0 1290 [.ref 500, .ref 240, .ref 270, .ref 297, .int 0, y5, y6] [] g := fun _ _ g _ => p1_end K ht g
  have hE1 : ∀ (g : LH) (y5 y6 : Value), True → lk_At p l e s m below meth c b D cA ad (0 + 1) 1290 [.ref 500, .ref 240, .ref 270, .ref 297, .int 0, y5, y6] [] g := fun g _ _ _ => p1_end K (by decide) g
  refine lk_go K ht (go_L_23 ⟨fun _ => lk_go K ht (go_L_1296 rfl), fun _ => ⟨p1_in0, fun _ => p1_end K ht _, ?_⟩⟩)
  exact ⟨fun _ => lc_0 K ht p1_in1 p1_in2 (pk_0 _) (hE _ _),
    fun _ => lc_1 K ht  pk_1 (hE _ _),
    fun _ => lc_2 K ht p1_in1 pk_2 (hE _ _),
    fun _ => lc_3 K ht  pk_3 (hE _ _),
    fun _ => lc_4 K ht p1_in1 (pk_4 _) (hE _ _),
    fun _ => lc_5 K ht p1_in1 (pk_5 _) (hE _ _),
    fun _ => lc_6 K ht p1_in1 p1_in2 p1_in3 (pk_6 _ _ _) (hE _ _),
    fun _ => lc_7 K ht p1_in1 p1_in2 (pk_7 _) (hE _ _),
    fun _ => lc_8 K ht p1_in1 p1_in2 (pk_8 _ _) (hE _ _),
    fun _ => lc_9 K ht p1_in1 p1_in2 (pk_9 _ _) (hE _ _),
    fun _ => lc_10 K ht  pk_10 (hE _ _),
    fun _ => lc_11 K ht  pk_11 (hE _ _),
    fun _ => lc_12 K ht  pk_12 (hE _ _),
    fun _ => lc_13 K ht p1_in1 (pk_13 _) (hE _ _),
    fun _ => lx_600 K hl (Nat.zero_le _) p1_in1 p1_in2 (pk_14 _ _) hE1,
    fun _ => lx_668 K hl (Nat.zero_le _) p1_in1 p1_in2 (pk_15 _ _) hE1,
    fun _ => lc_16 K ht p1_in1 (pk_16 _) (hE _ _),
    fun _ => lc_17 K ht p1_in1 p1_in2 p1_in3 (pk_17 _ _ _) (hE _ _),
    fun _ => lc_18 K ht p1_in1 (pk_18 _) (hE _ _),
    fun _ => lc_19 K ht p1_in1 p1_in2 (pk_19 _ _) (hE _ _),
    fun _ => lc_20 K ht p1_in1 (pk_20 _) (hE _ _),
    fun _ => lc_21 K ht p1_in1 p1_in2 (pk_21 _) (hE _ _),
    fun _ => lc_22 K ht p1_in1 p1_in2 (pk_22 _ _) (hE _ _),
    fun _ => lc_23 K ht p1_in1 p1_in2 (pk_23 _ _) (hE _ _),
    fun _ => lc_24 K ht p1_in1 (pk_24 _) (hE _ _),
    fun _ => lc_25 K ht p1_in1 p1_in2 (pk_25 _) (hE _ _),
    fun _ => lc_26 K ht  pk_26 (hE _ _),
    fun _ => lc_27 K ht  pk_27 (hE _ _),
    fun _ => lc_28 K ht  pk_28 (hE _ _),
    fun _ => lc_29 K ht p1_in1 (pk_29 _) (hE _ _),
    fun _ => lc_30 K ht p1_in1 p1_in2 (pk_30 _ _) (hE _ _),
    fun _ => lc_31 K ht p1_in1 p1_in2 (pk_31 _ _) (hE _ _),
    fun _ => lc_32 K ht p1_in1 (pk_32 _) (hE _ _),
    fun _ => lc_33 K ht p1_in1 (pk_33 _) (hE _ _), trivial⟩
theorem p1_few {n : Nat} (hn : n < 4) (K : lk_cx p s m meth c b n xs D cA ad) : lk_At p l e s m below meth c b D cA ad 0 23 [.ref 500, .ref 240, .ref 270, .ref 297, .int 0, tf_z, tf_z] [] tk_h := by
  have ht : 0 ≤ 512 := Nat.zero_le _
  refine lk_go K ht (go_L_23 ⟨fun _ => lk_go K ht (go_L_1296 rfl), fun q => absurd ?_ q⟩)
  exact (by decide : ∀ n, n < 4 → Int32.ofNat n - 4 < (0 : Int32)) n hn
end LKE
theorem p1_flags {l : Launch} (h : l.flags = flags0) : l.stackTraces = false := by
  unfold Launch.stackTraces
  rw [h]
  decide
theorem whole_start {p : Program} {e : Env} {s : State} {m : MethodId} {below : List Frame} {meth : Method} {c : Code} (l : Launch) (hflags : l.flags = flags0) {b L : Nat} {xs : Nat → Int32} (hL : L ≤ 4) (C0 : lw_At p s m meth c b L xs) : W p l e room_1 s m #[Value.ref b] below meth c s.heap [] 0 0 (lw_Z below #[Value.ref b] s) (entryFrame m ([Value.ref b] : List Value).toArray 7) := by
  refine law_pre l C0 (fun D cA ad H locs ls hK hSX hinj hA h500 hP hS hrel => ?_)
  rcases Nat.lt_or_ge L 4 with h | h
  · exact p1_few h ⟨C0, hK, hSX, hinj, hA, h500⟩ H locs ls hP hS hrel
  · have e4 : L = 4 := by omega
    subst e4
    exact p1_four ⟨C0, hK, hSX, hinj, hA, h500⟩ (p1_flags hflags) H locs ls hP hS hrel
-- ===== YOUR PART ENDS =====
set_option maxHeartbeats 4000000 in
theorem lw_walk (l : Launch) (hflags : l.flags = flags0) (b : Addr) (xs : List Int32) : MetFree l x (headSpec (Jvm.Cond.code x code maxLocals ret :: tables_1) room_1) (lw_P b xs) (fun _ _ _ _ _ => True) lw_Q := by
  refine MetFree.of_bodyS (code := code) (maxLocals := maxLocals) (ret := ret) (by decide) ?_ ?_
  · intro args s m h hn
    obtain ⟨meth, c, h1, h2, h3, h4, h5, h6, -, -⟩ := Cond.code_spec hn (atoms_spec (ws := Jvm.Cond.code x code maxLocals ret :: tables_1) h _ List.mem_cons_self)
    exact ⟨meth, c, h1, h2, h3, h4, h5, h6⟩
  · intro p e s m args below meth c s₁ B hml0 hP _
    obtain ⟨rfl, hx, hbd, hgv⟩ := hP
    obtain ⟨scr, harrAt, hlist, hof, hsmall⟩ := hx
    obtain ⟨hcb, hkn, -, -⟩ := State.arrayAt?_spec harrAt
    have hown : s.vm.findClass R_law = some m.cls := findClass_of_methodNamed B.named
    have hts0 : ∀ c ∈ (Jvm.Cond.code x code maxLocals ret :: tables_1), c.before #[Value.ref b] s = true := atoms_spec (ws := Jvm.Cond.code x code maxLocals ret :: tables_1) B.pre
    have hts : ∀ w ∈ lw_tbl, w.before #[Value.ref b] s = true := k2_hts_sels lw_privs (fun w hw => hts0 w (List.mem_cons_of_mem _ hw)) lw_privs_ok
    have hml : c.maxLocals = 7 := B.maxLocals_eq (hts0 _ List.mem_cons_self)
    have X₀ : Stand p l e room_1 s m #[Value.ref b] below meth c s₁ [] 0 0 := Stand.of_body B
    have hh0 : s₁.heap = s.heap := by rw [B.state]; rfl
    have hsz : scr.slots.size = xs.length := by rw [← Array.length_toList, hlist, List.length_map]
    have hval : ∀ j : Nat, j < xs.length → scr.slots[j]? = some (.int (xs.getD j 0)) := fun j hj => by
      rw [← Array.getElem?_toList, hlist]
      simp [hj]
    have hbl : b < s.heap.size := (Array.getElem?_eq_some_iff.mp hcb).1
    have hX : va_X b xs.length (fun j => xs.getD j 0) s s.heap := ⟨scr, hcb, hof, hkn, hsz, hval⟩
    have K : W p l e room_1 s m #[Value.ref b] below meth c s₁.heap [] 0 0 (lw_Z below #[Value.ref b] s) (entryFrame m ([Value.ref b] : List Value).toArray 7) := by
      rw [hh0]
      exact whole_start l hflags hbd ⟨B.exec, B.bytes, B.returns, hml, hown, hts, hX, hbl, B.notSynchronized, hgv⟩
    obtain ⟨t, a1, o, b1, b2, b3⟩ := K s₁ rfl X₀
    exact ⟨t, o, a1, b1, b2, b3⟩
theorem lw_pre_spec {args : Array Value} {s : State} (h : (Jvm.Cond.and given_1 narrow_1).before args s = true) (hr : rest_1_c.before args s = true) : ∃ (b : Addr) (xs : List Int32), lw_P b xs args s := by
  have hs := flat_of_before _ h
  have hq := flat_of_before _ hr
  have hc : (Cond.count 1).before args s = true := hs _ (by decide +kernel)
  have harr : (Cond.arrayOf (.arg 0) .int).before args s = true := hs _ (by decide +kernel)
  have hle : (Cond.le (.length (.arg 0)) (.int 4)).before args s = true := hs _ (by decide +kernel)
  have hlen : (Cond.isInt (.length (.arg 0))).before args s = true := hq _ (by decide +kernel)
  have hall : (Cond.all (.arg 0) (.isInt (.elem (.arg 0) (.index 0)))).before args s = true := hq _ (by decide +kernel)
  obtain ⟨b, xs, hb, hx⟩ := State.ints_of_pre rfl harr hlen hall
  have hsm : xs.length < 2 ^ 31 := hx.choose_spec.2.2.2
  have hev : (Term.length (.arg 0)).eval args s none [] s = some (.int xs.length.toInt32) := hx.length_eval hb
  have hv := Cond.le_ints hev (show (Term.int 4).eval args s none [] s = some (.int 4) from rfl)
  have hd : xs.length.toInt32 ≤ 4 := by
    simpa [Cond.before, Cond.holds, hv] using hle
  have hN : xs.length ≤ 4 := (Int32.ofNat_le_ofNat hsm (by decide)).mp (show Int32.ofNat xs.length ≤ Int32.ofNat 4 from hd)
  exact ⟨b, xs, Cond.one_arg hc (show args[0]? = some (.ref b) from hb), hx, hN, h⟩
theorem lw_comes (l : Launch) (hflags : l.flags = flags0) : Comes l x (Jvm.Cond.code x code maxLocals ret :: tables_1) room_1 (fun tb e args s => Calls_1 tb e args s ∧ rest_1 tb e args s ∧ Pre_1 tb e args s)
    (fun _ _ args s o t => lw_Q args s o t) := by
  intro p e ha hc hk s m args below hf hfit hheap happ hpre
  obtain ⟨b, xs, hP⟩ := lw_pre_spec hpre.2.2 hpre.2.1
  obtain ⟨k, o, h1, h2, h3, hQ⟩ := lw_walk l hflags b xs p e ha hc hk s m args below hf ((Spec.applies_iff_loose hf).mp happ).1 hP trivial
  exact ⟨k, o, h1, h2, h3, hQ⟩
theorem lw_frame {s t : State} {o : Outcome} {args : Array Value} (h : Framed s o t [] 600002 7302232) :
    Framed s o t (fieldLocs frame_1_writes args s ++ arrayLocs frame_1_arrays args s ++ staticLocs frame_1_statics s) 600002 7302232 := h
theorem lw_limb (L : Cond) (hL : ∀ (args : Array Value) (s t : State), L.after args s (.returned (some (.int 1))) t = true) :
    ArmFor flags0 classFile x code maxLocals ret World_1 tables_1 room_1 Calls_1 rest_1 Pre_1
      (fun tb e a s o t => postC L tb e a s o t ∧ Framed s o t (fieldLocs frame_1_writes a s ++ arrayLocs frame_1_arrays a s ++ staticLocs frame_1_statics s) 600002 7302232) := by
  intro l hflags _ _ p e ha hc hk s m args below hf hfit hheap happ hpre
  obtain ⟨k, o, h1, h2, h3, rfl, hF⟩ := lw_comes l hflags p e ha hc hk s m args below hf hfit hheap happ hpre
  exact ⟨k, _, h1, h2, h3, hL args s _, lw_frame hF⟩
theorem i_vc : Claimed_1_1 ∧ Claimed_1_2 := ⟨lw_limb limb_1_1 (fun args s t => by simp [limb_1_1, Cond.after, Cond.holds, Cond.value]), lw_limb limb_1_2 (fun args s t => Cond.after_iff.mpr (by
  first | (rw [show limb_1_2 = Cond.eq .result (.int 1) from rfl, Cond.eq_ints (x := 1) (y := 1) rfl rfl]; simp; done) | (simp [limb_1_2, Cond.value, Term.eval]; done)))⟩

