/-! ===== a pivot and a begin on both sides, for the row of the trial ===== -/
section WS1
variable {h g r : LH} {b n k m M : Nat}
set_option maxHeartbeats 4000000 in
theorem nr_stepW (hb : b ≤ 225) (N : NR h b r n k m) (G : GIW r n k M) (hM : M ≤ 20000000) {a x y mm : Nat} (ha : a < k) (hx : x < n) (hy : y < n) (ho : rf_off (lt r n k) a = true) (ex : (if rm (lt r n k) a 5 = 0 then rm (lt r n k) a 0 else rm (lt r n k) a 1) = nI x) (ey : (if rm (lt r n k) a 5 = 0 then rm (lt r n k) a 1 else rm (lt r n k) a 0) = nI y) (hm : mm < lc_n (lt r n k) x y) (elv : lvx (lc (lt r n k) a x y) (rlr (lc (lt r n k) a x y) (lc_n (lt r n k) x y) 0 1000000) (lc_n (lt r n k) x y) 0 (-1) = nI mm) : NR (rt_step h b n m (nI a)) b (tn5 (lt r n k) a x y mm) n k (m + 1) := by
  have L := G.lt
  have P := lt_pr G.1
  have R : RW r (lt r n k) := fun i _ => by rw [lt_fl.r]
  have GT' : GIW (lt r n k) n k M := G.fl lt_fl
  have KT := NRt.ks N.2.1 G.2.2.2.2.1.1 L P R
  generalize lt r n k = T at L P R GT' ho ex ey hm elv KT
  obtain ⟨⟨⟨a1, a2, a3⟩, a4, E0, F0, C0, S0⟩, Nt, Ta⟩ := N
  have n7 := L.1.1.2.1
  have k14 := L.1.1.2.2
  have xn := Nat.le_of_lt hx
  have yn := Nat.le_of_lt hy
  obtain ⟨-, Cp, Rs, Fb, ⟨Ag1, Ag2, Ag3, Ag4⟩, Db, Gn⟩ := id GT'
  have A : ∀ c, c < k → rm r c 0 ≠ rm r c 1 := G.2.2.2.2.1.1
  have E := E0.rw R n7 k14
  have F := F0.rw R n7 k14
  have Ce := C0.rw R k14
  have S := S0.rw R k14
  obtain ⟨C, Pe, Ts⟩ := Nt.to A L P R
  have w5 := off_w ho
  have o6 := off_6 ho
  have st : h.1 (b + 7) a = rm T a 5 := by
    rcases S a ha with ⟨-, e, -⟩ | ⟨e, -, -⟩
    · exact e
    · rw [o6] at e
      exact absurd e (by decide)
  have ln16 : lc_n T x y ≤ 16 := (lc_ok L ha xn yn).1.2.1
  have er := lvx_m ln16 hm elv
  have tk := tn_keepW L Cp Fb ⟨Ag1, Ag2, Ag3, Ag4⟩ Db Gn hM ha hx hy ho ex ey hm er
  obtain ⟨c2, c8, row, c5, c4, c6, lo⟩ := cyc_eq L hb C E F Ag1 ha hx hy st w5 ex ey ⟨mm, hm, er⟩
  have lc271 := lc_271 L ha xn yn
  have D := lc_ed L ha xn yn hm
  have pos := lc_pos (g := T) (a := a) hm
  have hal := lc_al (g := T) (a := a) (x := x) (y := y) (by omega)
  have dxm : df T x - df T (lc_z T x y) < lc_n T x y := by unfold lc_n; omega
  have al5 : (lc T a x y).1 286 (df T x - df T (lc_z T x y)) = (if rm T a 5 = 0 then 1 else 0) := by
    rw [hal]
    have ne := Ag1 a ha
    unfold bI
    rcases w5 with w | w
    · rw [if_pos w] at ex
      rw [if_pos w, ex]
      simp
    · have w' : ¬ rm T a 5 = 0 := by rw [w]; decide
      rw [if_neg w'] at ex
      rw [if_neg w', ← ex]
      simp [ne]
  -- the class: the cycle
  have es1 : st_1 h b n (nI a) = st_fl b (lc_n T x y) 0 (rt_cyc h b n (nI a)) := by
    unfold st_1 rt_cnt
    rw [c2, nI_clamp (by omega)]
  have F1 : FLe (rt_cyc h b n (nI a)) b (lc T a x y) n k := ⟨fun o ho => by
    rw [lo _ (by omega), lo _ (by omega)]
    unfold rm
    rw [lc271]
    exact F.1 o ho, fun p hp => by rw [lo _ (by omega), lc271]; exact F.2 p hp⟩
  have F2 : FLe (st_1 h b n (nI a)) b (tn3 T a x y) n k := by
    rw [es1]
    exact fls_eq n7 k14 hb (lc_n T x y) 0 _ _ F1 (fun q _ hq => ⟨(row q (by omega)).1, (row q (by omega)).2, lc_ed L ha xn yn (by omega)⟩) c4
  have l2 : ∀ e, e ≠ b + 6 → (st_1 h b n (nI a)).1 e = (rt_cyc h b n (nI a)).1 e := fun e he => by rw [es1]; exact st_fl_lo _ _ _ e he
  have ey2 : st_y (st_1 h b n (nI a)) = eK ((lc T a x y).1 285 mm) := by
    unfold st_y
    rw [l2 241 (by omega), l2 242 (by omega), c6, elv, nI_clamp (by omega)]
    exact (row mm hm).1
  have e5 : (st_1 h b n (nI a)).1 241 5 = nI (df T x - df T (lc_z T x y)) := by rw [l2 241 (by omega)]; exact c5
  have e6 : (st_1 h b n (nI a)).1 241 6 = nI mm := by rw [l2 241 (by omega), c6]; exact elv
  have e4 : (st_1 h b n (nI a)).1 241 4 = rlr (lc T a x y) (lc_n T x y) 0 1000000 := by rw [l2 241 (by omega)]; exact c4
  have e43 : (st_1 h b n (nI a)).1 243 ((st_1 h b n (nI a)).1 241 5).toNatClampNeg = (if rm T a 5 = 0 then 1 else 0) := by
    rw [e5, nI_clamp (by omega), l2 243 (by omega), (row _ dxm).2]
    exact al5
  have e42 : ∀ q, q < lc_n T x y → (st_1 h b n (nI a)).1 242 q = eK ((lc T a x y).1 285 q) := fun q hq => by rw [l2 242 (by omega)]; exact (row q hq).1
  have lo2 : ∀ e, e < 240 → e ≠ b + 6 → (st_1 h b n (nI a)).1 e = h.1 e := fun e h1 h2 => (l2 e h2).trans (lo e h1)
  -- the reference: rows
  have r3r : ∀ ix, ¬ IXF ix → (tn3 T a x y).1 271 ix = T.1 271 ix := fun ix hix => by
    unfold tn3
    rw [(fls_fw _ 0 _ (lc_ok L ha xn yn).1 (by omega)).2.2 ix hix, lc271]
  have nix5 : ∀ c, ¬ IXF (72 + 7 * c + 5) := fun c z => by
    rcases z with z | ⟨q, -, z⟩ <;> omega
  have nixl : ∀ ix, ix < 65 → ¬ IXF ix := fun ix hix z => by
    rcases z with z | ⟨q, -, z⟩ <;> omega
  have r35 : ∀ c, rm (tn3 T a x y) c 5 = rm T c 5 := fun c => r3r _ (nix5 c)
  obtain ⟨q1, q2, q3, q4, q5, q6, q7, q8⟩ := tn4_lo (g := tn3 T a x y) D n7 k14 ha
  have r5i : ∀ ix, ix < 3 ∨ 44 ≤ ix → (tn5 T a x y mm).1 271 ix = (tn4 (tn3 T a x y) a ((lc T a x y).1 285 mm)).1 271 ix := fun ix hix => (ip_fp (g := tn4 (tn3 T a x y) a ((lc T a x y).1 285 mm))).2.2 ix hix
  have r55 : ∀ c, rm (tn5 T a x y mm) c 5 = rm (tn4 (tn3 T a x y) a ((lc T a x y).1 285 mm)) c 5 := fun c => r5i _ (by omega)
  have kx : ∀ ix, KX ix → (tn5 T a x y mm).1 271 ix = T.1 271 ix := tk.2.1
  have kxa : ∀ c w, w < 7 → w ≠ 4 → w ≠ 5 → rm (tn5 T a x y mm) c w = rm T c w := fun c w h1 h2 h3 => kx _ (Or.inr (Or.inr (Or.inr (Or.inr ⟨c, w, rfl, h1, h2, h3⟩))))
  have G5 := tk.1
  have L5 := G5.lt
  have P5 := lt_pr G5.1
  have R5 : RW (tn5 T a x y mm) (lt (tn5 T a x y mm) n k) := fun i _ => by rw [lt_fl.r]
  have A5 : ∀ c, c < k → rm (lt (tn5 T a x y mm) n k) c 0 ≠ rm (lt (tn5 T a x y mm) n k) c 1 := fun c hc => by
    rw [R5.rm (by omega) (by omega), R5.rm (by omega) (by omega), kxa c 0 (by omega) (by omega) (by omega), kxa c 1 (by omega) (by omega) (by omega)]
    exact Ag1 c hc
  -- what holds whatever leaves
  have fin : ∀ h3 : LH, (∀ e, e < 240 → e ≠ b + 6 → e ≠ b + 7 → e ≠ b + 8 → e ≠ b + 9 → e ≠ b + 10 → h3.1 e = h.1 e) → h3.1 (b + 6) = (st_1 h b n (nI a)).1 (b + 6) → h3.1 241 = (st_1 h b n (nI a)).1 241 → h3.1 242 = (st_1 h b n (nI a)).1 242 → SRe h3 b (tn5 T a x y mm) k → CT h3 b (lt (tn5 T a x y mm) n k) n → PRe h3 b (lt (tn5 T a x y mm) n k) n → TS (lt (tn5 T a x y mm) n k) n k → NR (nt_tc h3 (b + 11) m (nI a) (st_y h3) (h3.1 241 4)) b (tn5 T a x y mm) n k (m + 1) := by
    intro h3 o f3 x1 x2 s3 t3 p3 ts3
    have ysame : st_y h3 = eK ((lc T a x y).1 285 mm) := by
      unfold st_y
      rw [x1, x2]
      exact ey2
    have u : ∀ e, e < 240 → (e < b + 11 ∨ b + 14 < e) → (nt_tc h3 (b + 11) m (nI a) (st_y h3) (h3.1 241 4)).1 e = h3.1 e := fun e _ he => nt_tc_lo (by omega)
    have Ta4 : TA h3 b (tn4 (tn3 T a x y) a ((lc T a x y).1 285 mm)) m := by
      have rr : ∀ ix, ix < 44 → (tn4 (tn3 T a x y) a ((lc T a x y).1 285 mm)).1 271 ix = r.1 271 ix := fun ix hix => by
        rw [q3 ix (by omega) (fun c hc => by omega), r3r ix (nixl ix (by omega)), R ix (by omega)]
      obtain ⟨⟨b1, b2⟩, ⟨b3, b4, b5⟩, b6, b7⟩ := Ta
      refine ⟨⟨by rw [o _ (by omega) (by omega) (by omega) (by omega) (by omega) (by omega)]; exact b1, by rw [rr _ (by omega)]; exact b2⟩, ⟨by rw [o _ (by omega) (by omega) (by omega) (by omega) (by omega) (by omega), rr _ (by omega)]; exact b3, by rw [o _ (by omega) (by omega) (by omega) (by omega) (by omega) (by omega), rr _ (by omega)]; exact b4, by rw [o _ (by omega) (by omega) (by omega) (by omega) (by omega) (by omega), rr _ (by omega)]; exact b5⟩, by rw [rr _ (by omega)]; exact b6, fun j h1 h2 => ?_⟩
      rw [o (b + 12) (by omega) (by omega) (by omega) (by omega) (by omega) (by omega), o (b + 13) (by omega) (by omega) (by omega) (by omega) (by omega) (by omega), o (b + 14) (by omega) (by omega) (by omega) (by omega) (by omega) (by omega), rr _ (by omega), rr _ (by omega), rr _ (by omega)]
      exact b7 j h1 h2
    have Ta5 : TA (nt_tc h3 (b + 11) m (nI a) (st_y h3) (h3.1 241 4)) b (tn5 T a x y mm) (m + 1) := by
      have d4 : h3.1 241 4 = rlr (lc T a x y) (lc_n T x y) 0 1000000 := by rw [x1]; exact e4
      rw [d4]
      exact Ta4.piv (by rw [ysame]; exact told_eK n7 k14 D)
    refine ⟨⟨⟨?_, ?_, ?_⟩, fun p hp => ?_, ⟨fun c hc => ?_, fun p hp => ?_⟩, ⟨fun c hc => ?_, fun p hp => ?_⟩, ⟨fun c hc => ?_, fun p hp => ?_⟩, fun c hc => ?_⟩, ⟨lt (tn5 T a x y mm) n k, L5, P5, R5, fun p hp => ?_, ⟨?_, fun p hp => ?_⟩, ts3, ksx_pivW L GT' hM ha hx hy ho ex ey hm er elv Ts KT lt_fl.r L5 ts3⟩, Ta5⟩
    · rw [u b (by omega) (by omega), o b (by omega) (by omega) (by omega) (by omega) (by omega) (by omega)]; exact a1
    · rw [u b (by omega) (by omega), o b (by omega) (by omega) (by omega) (by omega) (by omega) (by omega)]; exact a2
    · rw [u b (by omega) (by omega), o b (by omega) (by omega) (by omega) (by omega) (by omega) (by omega), kx 2 (Or.inl (by omega)), R 2 (by omega)]; exact a3
    · rw [u (b + 1) (by omega) (by omega), o (b + 1) (by omega) (by omega) (by omega) (by omega) (by omega) (by omega), kx (44 + p) (Or.inr (Or.inl (by omega))), R _ (by omega)]; exact a4 p hp
    · rw [u (b + 2) (by omega) (by omega), o (b + 2) (by omega) (by omega) (by omega) (by omega) (by omega) (by omega), u (b + 3) (by omega) (by omega), o (b + 3) (by omega) (by omega) (by omega) (by omega) (by omega) (by omega), kxa c 0 (by omega) (by omega) (by omega), kxa c 1 (by omega) (by omega) (by omega)]
      exact E.1 c hc
    · rw [u (b + 2) (by omega) (by omega), o (b + 2) (by omega) (by omega) (by omega) (by omega) (by omega) (by omega), u (b + 3) (by omega) (by omega), o (b + 3) (by omega) (by omega) (by omega) (by omega) (by omega) (by omega), kx (58 + p) (Or.inr (Or.inr (Or.inl (by omega))))]
      exact E.2 p hp
    · rw [u (b + 4) (by omega) (by omega), o (b + 4) (by omega) (by omega) (by omega) (by omega) (by omega) (by omega), u (b + 6) (by omega) (by omega), f3, kxa c 2 (by omega) (by omega) (by omega)]
      refine ⟨(F.1 c hc).1, ?_⟩
      rw [(F2.1 c hc).2]
      show rm (tn3 T a x y) c 4 = (tn5 T a x y mm).1 271 (72 + 7 * c + 4)
      rw [r5i _ (by omega), q3 _ (by omega) (fun d hd => by omega)]
      rfl
    · rw [u (b + 6) (by omega) (by omega), f3, F2.2 p hp, r5i _ (by omega), q3 _ (by omega) (fun d hd => by omega)]
    · rw [u (b + 5) (by omega) (by omega), o (b + 5) (by omega) (by omega) (by omega) (by omega) (by omega) (by omega), kxa c 3 (by omega) (by omega) (by omega)]
      exact Ce.1 c hc
    · rw [u (b + 5) (by omega) (by omega), o (b + 5) (by omega) (by omega) (by omega) (by omega) (by omega) (by omega)]
      exact Ce.2 p hp
    · rw [u (b + 7) (by omega) (by omega)]
      exact s3 c hc
    · rw [u (b + 8) (by omega) (by omega), u (b + 9) (by omega) (by omega)]
      exact t3 p hp
    · rw [u (b + 10) (by omega) (by omega)]
      exact p3.1
    · rw [u (b + 10) (by omega) (by omega)]
      exact p3.2 p hp
  show NR (nt_tc (st_2 h b n (nI a)) (b + 11) m (nI a) (st_y (st_2 h b n (nI a))) ((st_2 h b n (nI a)).1 241 4)) b (tn5 T a x y mm) n k (m + 1)
  have es2 : st_2 h b n (nI a) = rt_ex (st_1 h b n (nI a)) b n (nI a) (eK ((lc T a x y).1 285 mm)) := by unfold st_2; rw [ey2]
  rw [es2]
  clear es2 es1 l2 F1 row c2 c4 c5 c6 lo e42
  generalize st_1 h b n (nI a) = hs at F2 ey2 e5 e6 e4 e43 lo2 fin ⊢
  have ca : (nI a).toNatClampNeg = a := nI_clamp (by omega)
  have ina : eK ((lc T a x y).1 285 mm) = nI a ↔ (lc T a x y).1 285 mm = nI a := by
    constructor
    · intro z
      exact eK_inj n7 k14 D (Or.inl ⟨a, ha, rfl⟩) (by rw [z, eK_a (by omega)])
    · intro z
      rw [z, eK_a (by omega)]
  have hnewT : rf_hangs T a = false := by
    unfold rf_hangs
    rcases w5 with w | w <;> rw [w] <;> rfl
  by_cases out : (lc T a x y).1 285 mm = nI a
  · -- it turns from empty to full, or back
    have ee : rt_ex hs b n (nI a) (eK ((lc T a x y).1 285 mm)) = w1 hs (b + 7) a (if rm T a 5 = 0 then 1 else 0) := by
      unfold rt_ex
      have al2 : (if (if rm T a 5 = 0 then (1 : Int32) else 0) = 0 then (0 : Int32) else 1) = (if rm T a 5 = 0 then 1 else 0) := by
        rcases w5 with w | w <;> rw [w] <;> rfl
      rw [if_pos (ina.mpr out), ca, e43, al2]
    rw [ee]
    have hangs5 : ∀ c, c < k → rf_hangs (tn5 T a x y mm) c = rf_hangs T c := fun c hc => by
      unfold rf_hangs
      rw [r55]
      by_cases cA : c = a
      · subst cA
        rw [q5 out, r35]
        rcases w5 with w | w <;> rw [w] <;> rfl
      · rw [q6 c cA hc (fun z => cA ((nI_eq (by omega) (by omega)).mp (z.symm.trans out))), r35]
    have RTT : RT T (lt (tn5 T a x y mm) n k) n k := by
      refine ⟨fun p hp => ⟨?_, ?_⟩, fun c hc => ⟨⟨?_, ?_, ?_⟩, ?_⟩⟩
      · rw [R5 _ (by omega), r5i _ (by omega), q8 p hp (fun z => by
          have := (nI_eq (by omega) (by omega)).mp (out.symm.trans z)
          omega), r3r _ (nixl _ (by omega))]
      · rw [R5 _ (by omega), kx _ (Or.inr (Or.inr (Or.inl (by omega))))]
      · rw [R5.rm (by omega) (by omega), kxa c 0 (by omega) (by omega) (by omega)]
      · rw [R5.rm (by omega) (by omega), kxa c 1 (by omega) (by omega) (by omega)]
      · rw [R5.rm (by omega) (by omega), kxa c 3 (by omega) (by omega) (by omega)]
      · rw [← hangs5 c hc]
        unfold rf_hangs
        rw [R5.rm (by omega) (by omega)]
    obtain ⟨c3, p3, t3⟩ := tree_mv L P C Pe Ts Ag1 L5 P5 RTT
    refine fin _ (fun e h1 h2 h3 h4 h5 h6 => by rw [w1_ne h3]; exact lo2 e h1 h2) (w1_ne (by omega)) (w1_ne (by omega)) (w1_ne (by omega)) (fun c hc => ?_) ?_ ?_ t3
    · rw [kxa c 6 (by omega) (by omega) (by omega), r55]
      by_cases cA : c = a
      · subst cA
        refine Or.inl ⟨o6, ?_, ?_⟩
        · rw [w1_eq, q5 out, r35]
        · rw [q5 out, r35]
          rcases w5 with w | w <;> rw [w]
          · exact vi_of (j := 1) (by omega) (by omega)
          · exact vi_of (j := 0) (by omega) (by omega)
      · rw [q6 c cA hc (fun z => cA ((nI_eq (by omega) (by omega)).mp (z.symm.trans out))), r35, w1_at cA, lo2 _ (by omega) (by omega)]
        exact S c hc
    · exact c3.same (by rw [w1_ne (by omega)]; exact lo2 _ (by omega) (by omega)) (by rw [w1_ne (by omega)]; exact lo2 _ (by omega) (by omega))
    · refine ⟨?_, fun p hp => ?_⟩
      · rw [w1_ne (by omega), lo2 _ (by omega) (by omega)]
        exact p3.1
      · rw [w1_ne (by omega), lo2 _ (by omega) (by omega)]
        exact p3.2 p hp
  · -- another edge leaves
    have nea : eK ((lc T a x y).1 285 mm) ≠ nI a := fun z => out (ina.mp z)
    have efr : ex_fr hs b (nI a) = cI n x := by
      unfold ex_fr
      rw [e43, ca, lo2 (b + 3) (by omega) (by omega), lo2 (b + 2) (by omega) (by omega), (E.1 a ha).1, (E.1 a ha).2, cI_lt hx, ← ex]
      rcases w5 with w | w <;> rw [w] <;> rfl
    have eto : ex_to hs b (nI a) = cI n y := by
      unfold ex_to
      rw [e43, ca, lo2 (b + 3) (by omega) (by omega), lo2 (b + 2) (by omega) (by omega), (E.1 a ha).1, (E.1 a ha).2, cI_lt hy, ← ey]
      rcases w5 with w | w <;> rw [w] <;> rfl
    generalize hid : (lc T a x y).1 285 mm = id at D pos out nea ina q1 q2 q3 q4 q5 q6 q7 q8 r5i r55 ey2
    -- states of arcs
    have sX : ∀ e, e ≠ b + 7 → (ex_s hs b (nI a) (eK id)).1 e = hs.1 e := fun e he => by unfold ex_s; rw [w1_ne he, w1_ne he]
    have s7 : ∀ c, c < k → (ex_s hs b (nI a) (eK id)).1 (b + 7) c = (if id = nI c then (if hs.1 (b + 6) c = 0 then 0 else 1) else if c = a then 2 else h.1 (b + 7) c) := by
      intro c hc
      unfold ex_s
      rw [ca]
      have icl : (eK id).toNatClampNeg = c ↔ id = nI c := by
        rcases eK_cl n7 k14 D with ⟨d, hd, e1, e2, -⟩ | ⟨p, hp, e1, e2, -⟩
        · rw [e2, e1]
          exact ⟨fun z => by rw [z], fun z => (nI_eq (by omega) (by omega)).mp z⟩
        · rw [e2, e1]
          exact ⟨fun z => by omega, fun z => by have := (nI_eq (by omega) (by omega)).mp z; omega⟩
      by_cases z : id = nI c
      · rw [if_pos z]
        have zc := icl.mpr z
        rw [zc, w1_eq]
      · rw [if_neg z, w1_at (fun w => z (icl.mp w.symm))]
        by_cases cA : c = a
        · rw [if_pos cA, cA, w1_eq]
        · rw [if_neg cA, w1_at cA, lo2 _ (by omega) (by omega)]
    have Sn : SRe (ex_s hs b (nI a) (eK id)) b (tn5 T a x y mm) k := by
      intro c hc
      rw [kxa c 6 (by omega) (by omega) (by omega), r55, s7 c hc]
      by_cases z : id = nI c
      · have cA : c ≠ a := fun w => out (by rw [z, w])
        rw [if_pos z, q7 c cA hc z, (F2.1 c hc).2]
        have hh : rf_hangs T c = true := lc_hang L ha xn yn hm hc (hid.trans z) cA
        have c6 : rm T c 6 = 0 := by
          rcases S c hc with ⟨s, -, -⟩ | ⟨-, -, s⟩
          · exact s
          · unfold rf_hangs at hh
            rw [s] at hh
            cases hh
        refine Or.inl ⟨c6, rfl, ?_⟩
        split
        · exact vi_of (j := 0) (by omega) (by omega)
        · exact vi_of (j := 1) (by omega) (by omega)
      · rw [if_neg z]
        by_cases cA : c = a
        · subst cA
          rw [if_pos rfl, q4 out]
          exact Or.inl ⟨o6, rfl, vi_of (j := 2) (by omega) (by omega)⟩
        · rw [if_neg cA, q6 c cA hc z, r35]
          exact S c hc
    -- what hangs now
    have hangA : rf_hangs (lt (tn5 T a x y mm) n k) a = true := by
      unfold rf_hangs
      rw [R5.rm (by omega) (by omega), r55, q4 out]
      rfl
    have hang : ∀ c, c < k → c ≠ a → (rf_hangs (lt (tn5 T a x y mm) n k) c = true ↔ rf_hangs T c = true ∧ id ≠ nI c) := by
      intro c hc cA
      unfold rf_hangs
      rw [R5.rm (by omega) (by omega), r55]
      by_cases z : id = nI c
      · rw [q7 c cA hc z]
        constructor
        · intro w
          split at w <;> cases w
        · exact fun w => absurd z w.2
      · rw [q6 c cA hc z, r35]
        exact ⟨fun w => ⟨w, z⟩, fun w => w.1⟩
    have lent : ∀ p, p < n → ((lt (tn5 T a x y mm) n k).1 271 (51 + p) = 1 ↔ T.1 271 (51 + p) = 1 ∧ id ≠ nI (100 + p)) := by
      intro p hp
      rw [R5 _ (by omega), r5i _ (by omega)]
      by_cases z : id = nI (100 + p)
      · have e0 : (tn4 (tn3 T a x y) a id).1 271 (51 + p) = 0 := by
          unfold tn4
          rw [if_neg out]
          unfold go_o
          rw [z, if_pos (loan_p (by omega)), show (51 : Int32) = nI 51 from rfl, loan_ix, nI_clamp (by omega), w1_eq]
        rw [e0]
        exact ⟨fun w => absurd w (by decide), fun w => absurd z w.2⟩
      · rw [q8 p hp z, r3r _ (nixl _ (by omega))]
        exact ⟨fun w => ⟨w, z⟩, fun w => w.1⟩
    have ends5 : ∀ c, c < k → rm (lt (tn5 T a x y mm) n k) c 0 = rm T c 0 ∧ rm (lt (tn5 T a x y mm) n k) c 1 = rm T c 1 := fun c hc => ⟨by rw [R5.rm (by omega) (by omega), kxa c 0 (by omega) (by omega) (by omega)], by rw [R5.rm (by omega) (by omega), kxa c 1 (by omega) (by omega) (by omega)]⟩
    have enxy : (rm T a 0 = nI x ∧ rm T a 1 = nI y) ∨ (rm T a 1 = nI x ∧ rm T a 0 = nI y) := by
      rcases w5 with w | w
      · rw [if_pos w] at ex ey
        exact Or.inl ⟨ex, ey⟩
      · have w' : ¬ rm T a 5 = 0 := by rw [w]; decide
        rw [if_neg w'] at ex ey
        exact Or.inr ⟨ex, ey⟩
    have Cx : CT (ex_s hs b (nI a) (eK id)) b T n := C.same (by rw [sX _ (by omega)]; exact lo2 _ (by omega) (by omega)) (by rw [sX _ (by omega)]; exact lo2 _ (by omega) (by omega))
    -- the turned tree gives all
    have done : ∀ hr : LH, (∀ c, c ≠ b + 8 → c ≠ b + 9 → hr.1 c = (ex_s hs b (nI a) (eK id)).1 c) → CT hr b (lt (tn5 T a x y mm) n k) n → TS (lt (tn5 T a x y mm) n k) n k → NR (nt_tc (nt_prs hr b n) (b + 11) m (nI a) (st_y (nt_prs hr b n)) ((nt_prs hr b n).1 241 4)) b (tn5 T a x y mm) n k (m + 1) := by
      intro hr oR cR ts5
      have Er : TLe hr b (lt (tn5 T a x y mm) n k) n k := ⟨fun c hc => by
        rw [oR _ (by omega) (by omega), oR _ (by omega) (by omega), sX _ (by omega), sX _ (by omega), lo2 _ (by omega) (by omega), lo2 _ (by omega) (by omega), (ends5 c hc).1, (ends5 c hc).2]
        exact E.1 c hc, fun p hp => by
        rw [oR _ (by omega) (by omega), oR _ (by omega) (by omega), sX _ (by omega), sX _ (by omega), lo2 _ (by omega) (by omega), lo2 _ (by omega) (by omega), R5 _ (by omega), kx _ (Or.inr (Or.inr (Or.inl (by omega))))]
        exact E.2 p hp⟩
      have Cr : COe hr b (lt (tn5 T a x y mm) n k) n k := ⟨fun c hc => by
        rw [oR _ (by omega) (by omega), sX _ (by omega), lo2 _ (by omega) (by omega), R5.rm (by omega) (by omega), kxa c 3 (by omega) (by omega) (by omega)]
        exact Ce.1 c hc, fun p hp => by
        rw [oR _ (by omega) (by omega), sX _ (by omega), lo2 _ (by omega) (by omega)]
        exact Ce.2 p hp⟩
      obtain ⟨pr, po⟩ := prs_eq L5 P5 A5 hb cR Er Cr
      refine fin _ (fun e h1 h2 h3 h4 h5 h6 => by rw [po e h6, oR e h4 h5, sX e h3]; exact lo2 e h1 h2) (by rw [po _ (by omega), oR _ (by omega) (by omega), sX _ (by omega)]) (by rw [po _ (by omega), oR _ (by omega) (by omega), sX _ (by omega)]) (by rw [po _ (by omega), oR _ (by omega) (by omega), sX _ (by omega)]) (fun c hc => ?_) (cR.same (po _ (by omega)) (po _ (by omega))) pr ts5
      rw [po _ (by omega), oR _ (by omega) (by omega)]
      exact Sn c hc
    unfold rt_ex
    rw [if_neg nea, e5, e6, efr, eto]
    rcases pos with ⟨pz, pe⟩ | ⟨-, pe⟩ | ⟨j0, pz, pj, pe⟩
    · skip
      rw [if_neg (show ¬ nI (df T x - df T (lc_z T x y)) ≤ nI mm from nI_ge (by omega) (by omega))]
      obtain ⟨c3, t3⟩ := ct_ex L hb Ts L5 A5 Cx ha hx hy (j := df T x - df T (lc_z T x y) - 1 - mm) (id := id) (by omega) pe.symm out (by rw [(ends5 a ha).1, (ends5 a ha).2]; exact enxy) ends5 hangA hang lent hnewT
      exact done _ (fun c h1 h2 => nt_rh_lo _ _ _ _ _ c h1 h2) c3 t3
    · exact absurd pe out
    · rw [if_pos (show nI (df T x - df T (lc_z T x y)) ≤ nI mm from nI_le (by omega) (by omega))]
      obtain ⟨c3, t3⟩ := ct_ex L hb Ts L5 A5 Cx ha hy hx (j := j0) (id := id) (by omega) pe.symm out (by rw [(ends5 a ha).1, (ends5 a ha).2]; exact enxy.symm.imp (fun z => ⟨z.2, z.1⟩) (fun z => ⟨z.2, z.1⟩)) ends5 hangA hang lent hnewT
      exact done _ (fun c h1 h2 => nt_rh_lo _ _ _ _ _ c h1 h2) c3 t3
end WS1
section WS2
variable {h g r : LH} {b n k m M d : Nat}
/-- the laid tree's class side, and offers -/
theorem NR.offW (N : NR h b r n k m) (G : GIW r n k M) : ∀ a, a < k → (rf_off (lt r n k) a = true → nt_off h b (nI a) = rf_far (lt r n k) a ∧ 0 < rf_far (lt r n k) a) ∧ (rf_off (lt r n k) a = false → nt_off h b (nI a) = 0) := by
  intro a ha
  have L := G.lt
  have P := lt_pr G.1
  have R : RW r (lt r n k) := fun i _ => by rw [lt_fl.r]
  have G1 : GIW (lt r n k) n k M := G.fl lt_fl
  have n7 := L.1.1.2.1
  have k14 := L.1.1.2.2
  obtain ⟨⟨-, -, E0, F0, C0, S0⟩, Nt, -⟩ := N
  obtain ⟨C, Pe, Ts⟩ := Nt.to G.2.2.2.2.1.1 L P R
  exact off_eqW L P G1.2.2.2.2.1.2.2.1 (E0.rw R n7 k14) (F0.rw R n7 k14) (C0.rw R k14) Pe (S0.rw R k14) ha
theorem NR.pickW (N : NR h b r n k m) (G : GIW r n k M) : nt_pick h b k (r.1 271 2) = en_f (lt r n k) k k 0 (-1) := by
  have L := G.lt
  have e2 : (lt r n k).1 271 = r.1 271 := lt_fl.r
  have := pick_eq (h := h) (b := b) L (by unfold RS; rw [e2]; exact G.2.2.1) (N.offW G) (by rw [e2]; exact N.2.2.2.1.2.2)
  rw [e2] at this
  exact this
end WS2
section WS3
variable {h g r : LH} {b n k m M : Nat}
/-- both begin -/
theorem nr_begW (hb : b ≤ 225) (B : BIW r n k) (N : NB h b r n k) (w : Int32) : NS (nt_beg h b n k w) b (bgn r n k w) n k ∧ NRt (nt_beg h b n k w) b (bgn r n k w) n k ∧ (nt_beg h b n k w).1 (b + 11) 2 = h.1 (b + 11) 2 + 1 ∧ (∀ i, i ≠ 2 → (nt_beg h b n k w).1 (b + 11) i = h.1 (b + 11) i) ∧ ∀ e, e = b ∨ b + 11 < e → (nt_beg h b n k w).1 e = h.1 e := by
  have n7 := B.1.1.2.1
  have k14 := B.1.1.2.2
  obtain ⟨G, Fb⟩ := bgn_okW (M := 0) (w := w) B
  obtain ⟨⟨a1, a2, a3⟩, a4, a5⟩ := N
  obtain ⟨p1, p2⟩ := ba_eq (w := w) k 0 h r (by omega) (fun c hc => (a5 c hc).1) (fun c _ hc => (a5 c hc).2) (fun c hc => absurd hc (by omega))
  have F1 := ba_fb (w := w) k 0 r (by omega)
  obtain ⟨q1, q2, q3⟩ := hs_eq (b := b) k14 n 0 (nt_ba b w k 0 h) (ba w k 0 r) (by omega) p1 (fun q hq => by rw [p2 _ (by omega) (by omega), F1.2.2 _ (Or.inl (by omega))]; exact a4 q (by omega)) (fun q hq => absurd hq (by omega))
  rw [Nat.zero_add] at q2
  have qe : ∀ e, e < b + 2 ∨ b + 9 < e → (nt_hs b k n 0 (nt_ba b w k 0 h)).1 e = h.1 e := fun e he => by rw [q3 e he, p2 e (by omega) (by omega)]
  have hq : ∀ c, c < k → AE (nt_hs b k n 0 (nt_ba b w k 0 h)) b (bgn r n k w) c ∧ S1 (nt_hs b k n 0 (nt_ba b w k 0 h)) b (bgn r n k w) c := q1
  have ql : ∀ q, q < n → LNe (nt_hs b k n 0 (nt_ba b w k 0 h)) b (bgn r n k w) q := q2
  have eb : nt_beg h b n k w = nt_tick (nt_prs (nt_hs b k n 0 (nt_ba b w k 0 h)) b n) b := rfl
  rw [eb]
  generalize nt_hs b k n 0 (nt_ba b w k 0 h) = h1 at hq ql qe
  have KX0 := ksx_begW B w
  generalize bgn r n k w = g at hq ql G Fb KX0
  have L := G.lt
  have P := lt_pr G.1
  have R : RW g (lt g n k) := fun i _ => by rw [lt_fl.r]
  generalize lt g n k = T at L P R KX0
  have A : ∀ a, a < k → rm T a 0 ≠ rm T a 1 := fun a ha => by rw [R.rm (by omega) (by omega), R.rm (by omega) (by omega)]; exact G.2.2.2.2.1.1 a ha
  have E1 : TLe h1 b g n k := ⟨fun c hc => (hq c hc).1.1, fun p hp => by
    obtain ⟨-, x, -⟩ := ql p hp
    rcases x with ⟨x1, x2, x3⟩ | ⟨x1, x2, x3⟩
    · exact ⟨fun _ => ⟨x2, x3⟩, fun y => absurd x1 y⟩
    · exact ⟨fun y => by rw [x1] at y; exact absurd y (by decide), fun _ => ⟨x2, x3⟩⟩⟩
  have F1' : FLe h1 b g n k := ⟨fun c hc => ⟨(hq c hc).1.2.1, (hq c hc).1.2.2.2⟩, fun p hp => (ql p hp).2.2.2.1⟩
  have C1 : COe h1 b g n k := ⟨fun c hc => (hq c hc).1.2.2.1, fun p hp => (ql p hp).2.2.1⟩
  have S1' : SRe h1 b g k := fun c hc => (hq c hc).2.1
  have egT : ∀ p q id, p < n → EG T n k p q id → id = nI (100 + p) ∧ q = n := by
    intro p q id hp Eg
    rcases Eg with ⟨z1, z2, -⟩ | ⟨-, c, hc, -, z, -⟩
    · exact ⟨z2, z1⟩
    · exfalso
      unfold rf_hangs at z
      rw [R.rm (by omega) (by omega)] at z
      rcases (hq c hc).2.2 with y | y <;> rw [y] at z <;> cases z
  have C2 : CT h1 b T n := ct_uni L A (fun p hp => ⟨n, nI (100 + p), Nat.le_refl _, by rw [(ql p hp).2.2.2.2.1, (cI_7 n7 (Nat.le_refl _)).mpr rfl], by rw [(ql p hp).2.2.2.2.2, eK_p (by omega)], Or.inl ⟨rfl, rfl, by rw [R _ (by omega)]; exact (ql p hp).1⟩⟩) (fun p q id hp Eg => ⟨p, hp, by rw [(ql p hp).2.2.2.2.2, (egT p q id hp Eg).1, eK_p (by omega)]⟩)
  have TS2 : TS T n k := fun p q id hp Eg => ⟨p, hp, by rw [(egT p q id hp Eg).1, (egT p (uf T p) _ hp (L.at hp).2.2.2.2.2).1]⟩
  obtain ⟨pr, po⟩ := prs_eq L P A hb C2 (E1.rw R n7 k14) (C1.rw R k14)
  have u : ∀ e, e ≠ b + 11 → (nt_tick (nt_prs h1 b n) b).1 e = (nt_prs h1 b n).1 e := fun e he => w1_ne he
  have v : ∀ e, e ≠ b + 10 → e ≠ b + 11 → (nt_tick (nt_prs h1 b n) b).1 e = h1.1 e := fun e h1 h2 => (u e h2).trans (po e h1)
  refine ⟨⟨⟨?_, ?_, ?_⟩, fun p hp => ?_, ?_, ?_, ?_, ?_⟩, ⟨T, L, P, R, C2.same (v _ (by omega) (by omega)) (v _ (by omega) (by omega)), ⟨?_, fun p hp => ?_⟩, TS2, KX0⟩, ?_, fun i hi => ?_, fun e he => ?_⟩
  · rw [v b (by omega) (by omega), qe b (Or.inl (by omega))]; exact a1
  · rw [v b (by omega) (by omega), qe b (Or.inl (by omega))]; exact a2
  · rw [v b (by omega) (by omega), qe b (Or.inl (by omega)), Fb.2.2 2 (Or.inl (by omega))]; exact a3
  · rw [v (b + 1) (by omega) (by omega), qe (b + 1) (Or.inl (by omega)), Fb.2.2 _ (Or.inl (by omega))]; exact a4 p hp
  · unfold TLe
    rw [v (b + 2) (by omega) (by omega), v (b + 3) (by omega) (by omega)]
    exact E1
  · unfold FLe
    rw [v (b + 4) (by omega) (by omega), v (b + 6) (by omega) (by omega)]
    exact F1'
  · unfold COe
    rw [v (b + 5) (by omega) (by omega)]
    exact C1
  · unfold SRe
    rw [v (b + 7) (by omega) (by omega)]
    exact S1'
  · rw [u _ (by omega)]
    exact pr.1
  · rw [u _ (by omega)]
    exact pr.2 p hp
  · unfold nt_tick
    rw [w1_eq, po _ (by omega), qe _ (Or.inr (by omega))]
  · unfold nt_tick
    rw [w1_at hi, po _ (by omega), qe _ (Or.inr (by omega))]
  · rw [v e (by omega) (by omega), qe e (by omega)]
end WS3
section WS4
variable {h g h2 g2 g3 g4 k0 q r r2 : LH} {b n k m t u M d : Nat}
theorem NRt.mvW (N : NRt h b r n k) (A : ∀ a, a < k → rm r a 0 ≠ rm r a 1) (G : GIW r2 n k M) (RX : RTx r r2 n k) : NRt h b r2 n k := by
  obtain ⟨R, RI⟩ := RX
  obtain ⟨T, L, P, R1, C, Pe, S, KK⟩ := N
  have k14 := L.1.1.2.2
  have n7 := L.1.1.2.1
  have L2 := G.lt
  have P2 := lt_pr G.1
  have R2 : RW r2 (lt r2 n k) := fun i _ => by rw [lt_fl.r]
  generalize lt r2 n k = T2 at L2 P2 R2
  have RR : RT T T2 n k := by
    refine ⟨fun p hp => ⟨?_, ?_⟩, fun a ha => ⟨⟨?_, ?_, ?_⟩, ?_⟩⟩
    · rw [R2 _ (by omega), R1 _ (by omega)]; exact (R.1 p hp).1
    · rw [R2 _ (by omega), R1 _ (by omega)]; exact (R.1 p hp).2
    · rw [R2.rm (by omega) (by omega), R1.rm (by omega) (by omega)]; exact (R.2 a ha).1.1
    · rw [R2.rm (by omega) (by omega), R1.rm (by omega) (by omega)]; exact (R.2 a ha).1.2.1
    · rw [R2.rm (by omega) (by omega), R1.rm (by omega) (by omega)]; exact (R.2 a ha).1.2.2
    · have := (R.2 a ha).2
      unfold rf_hangs at this ⊢
      rw [R2.rm (by omega) (by omega), R1.rm (by omega) (by omega)]; exact this
  obtain ⟨x1, x2, x3⟩ := tree_mv L P C Pe S (fun a ha => by rw [R1.rm (by omega) (by omega), R1.rm (by omega) (by omega)]; exact A a ha) L2 P2 RR
  exact ⟨T2, L2, P2, R2, x1, x2, x3, KK.to n7 k14 (fun i z1 z2 _ => by rw [R2 i z2, R1 i z2]; exact RI i z1 z2) (fun p hp => eK_inj n7 k14 ((L2.at hp).2.2.2.2.2.ed hp) ((L.at hp).2.2.2.2.2.ed hp) ((x1 p hp).2.symm.trans (C p hp).2))⟩
end WS4
