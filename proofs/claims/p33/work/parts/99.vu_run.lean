/-! ===== the class's run by the steep rule ends where nothing offers ===== -/
section VUR
variable {h r T : LH} {b n k m M : Nat}
theorem NR.ks (N : NR h b r n k m) (G : GI r n k M) : KS r n k := NRt.ks N.2.1 G.2.2.2.2.1.1 G.lt (lt_pr G.1) (fun i _ => by rw [lt_fl.r])
theorem sx_of_nr (N : NR h b r n k m) (G : GI r n k M) (K : KS r n k) (hM : M ≤ 20000000) : SX (lt r n k) n k M := by
  have L := G.lt
  have P := lt_pr G.1
  have R : RW r (lt r n k) := fun i _ => by rw [lt_fl.r]
  have n7 := L.1.1.2.1
  have k14 := L.1.1.2.2
  have S := N.1.2.2.2.2.2.rw R k14
  refine ⟨L, P, G.fl lt_fl, (N.2.1.to G.2.2.2.2.1.1 L P R).2.2, K.1, K.2.1, K.2.2, fun c hc => ?_, hM⟩
  rcases S c hc with ⟨s6, -, s5⟩ | ⟨s6, -, s5⟩
  · exact Or.inl ⟨s6, s5⟩
  · exact Or.inr ⟨s6, s5⟩
/-- an arc that offers: its cycle -/
theorem off_cyc (L : LT T n k) (B1 : FB T k) {a : Nat} (ha : a < k) (ho : rf_off T a = true) : ∃ x y mm, x < n ∧ y < n ∧ (if rm T a 5 = 0 then rm T a 0 else rm T a 1) = nI x ∧ (if rm T a 5 = 0 then rm T a 1 else rm T a 0) = nI y ∧ mm < lc_n T x y ∧ lvx (lc T a x y) (rlr (lc T a x y) (lc_n T x y) 0 1000000) (lc_n T x y) 0 (-1) = nI mm := by
  have hxy : ∃ x y, x < n ∧ y < n ∧ (if rm T a 5 = 0 then rm T a 0 else rm T a 1) = nI x ∧ (if rm T a 5 = 0 then rm T a 1 else rm T a 0) = nI y := by
    obtain ⟨p, q, hp, hq, e1, e2⟩ := L.1.ends ha
    by_cases z : rm T a 5 = 0
    · exact ⟨p, q, hp, hq, by rw [if_pos z]; exact e1, by rw [if_pos z]; exact e2⟩
    · exact ⟨q, p, hq, hp, by rw [if_neg z]; exact e2, by rw [if_neg z]; exact e1⟩
  obtain ⟨x, y, hx, hy, ex, ey⟩ := hxy
  obtain ⟨Y, -, -⟩ := lc_ok L ha (show x ≤ n by omega) (show y ≤ n by omega)
  have lst := lc_least L B1 ha (show x ≤ n by omega) (show y ≤ n by omega) ho
  obtain ⟨m, hm, em, -⟩ := sx_lv2 (d := 0) Y lst
  exact ⟨x, y, m, hx, hy, ex, ey, hm, em⟩
theorem NR.rul (hb : b ≤ 225) (G : GI r n k M) (N : NR h b r n k m) (x : Int32) : NR (w1 h b 2 x) b (w1 r 271 2 x) n k m := by
  have n7 := G.1.1.2.1
  have k14 := G.1.1.2.2
  have ew : ∀ i, i ≠ 2 → (w1 r 271 2 x).1 271 i = r.1 271 i := fun i hi => w1_at hi
  have he : ∀ e, e ≠ b → (w1 h b 2 x).1 e = h.1 e := fun e he => w1_ne he
  have G3 : GI (w1 r 271 2 x) n k M := G.ru
  exact ⟨N.1.mv n7 k14 (w1_at (by decide)) (w1_at (by decide)) (w1_eq.trans w1_eq.symm) (fun o h1 h2 => he _ (by omega)) (fun i h1 h2 => ew i (by omega)), (N.2.1.mv G.2.2.2.2.1.1 G3 (RT.of (fun i h1 h2 => ew i (by omega)) n7 k14)).cl n7 (fun p _ => by rw [he _ (by omega)]) (fun p _ => by rw [he _ (by omega)]) (fun p _ => by rw [he _ (by omega)]), N.2.2.mv (fun o h1 h2 => he _ (by omega)) (fun i h1 h2 => ew i (by omega))⟩
theorem off_rul {x : Int32} (a : Int32) : nt_off (w1 h b 2 x) b a = nt_off h b a := by
  have e : ∀ o, 1 ≤ o → (w1 h b 2 x).1 (b + o) = h.1 (b + o) := fun o ho => w1_ne (by omega)
  unfold nt_off nt_may nt_red
  rw [e 5 (by omega), e 10 (by omega), e 2 (by omega), e 3 (by omega), e 7 (by omega), e 4 (by omega)]
theorem pk_rul {ru x s : Int32} : ∀ (f i : Nat) (p q : Int32), nt_pk (w1 h b 2 x) b k ru s f i p q = nt_pk h b k ru s f i p q
  | 0, i, p, q => rfl
  | f + 1, i, p, q => by
    rw [nt_pk, nt_pk]
    simp only [off_rul, pk_rul f]
theorem pick_rul {ru x : Int32} : nt_pick (w1 h b 2 x) b k ru = nt_pick h b k ru := by
  unfold nt_pick
  rw [pk_rul, show (w1 h b 2 x).1 (b + 11) = h.1 (b + 11) from w1_ne (by omega)]
/-- the steep rule takes the furthest, whatever the row's rule is -/
theorem steep_pick (hb : b ≤ 225) (N : NR h b r n k m) (G : GI r n k M) : (nt_pick h b k 1 = -1 ∧ ∀ c, c < k → rf_off (lt r n k) c = false) ∨ ∃ a, nt_pick h b k 1 = nI a ∧ a < k ∧ rf_off (lt r n k) a = true ∧ ∀ c, c < k → rf_off (lt r n k) c = true → rf_far (lt r n k) c ≤ rf_far (lt r n k) a := by
  have G1 : GI (w1 r 271 2 1) n k M := G.ru
  have N1 := N.rul hb G 1
  have pk := N1.pick G1
  rw [w1_eq, pick_rul] at pk
  have o1 := N1.off G1
  have o0 := N.off G
  have L1 := G1.lt
  have k14 := L1.1.1.2.2
  have ru1 : (lt (w1 r 271 2 1) n k).1 271 2 = 1 := by rw [lt_fl.r, w1_eq]
  have RS1 : RS (lt (w1 r 271 2 1) n k) := (G1.fl lt_fl : GI (lt (w1 r 271 2 1) n k) n k M).2.2.1
  have same : ∀ c, c < k → rf_off (lt (w1 r 271 2 1) n k) c = rf_off (lt r n k) c ∧ (rf_off (lt r n k) c = true → rf_far (lt (w1 r 271 2 1) n k) c = rf_far (lt r n k) c) := by
    intro c hc
    obtain ⟨p1, p2⟩ := o1 c hc
    obtain ⟨q1, q2⟩ := o0 c hc
    rw [off_rul] at p1 p2
    cases e1 : rf_off (lt (w1 r 271 2 1) n k) c <;> cases e0 : rf_off (lt r n k) c
    · exact ⟨rfl, fun z => by cases z⟩
    · have := p2 e1
      rw [(q1 e0).1] at this
      have q := (q1 e0).2
      rw [this] at q
      exact absurd q (by decide)
    · have := q2 e0
      rw [(p1 e1).1] at this
      have q := (p1 e1).2
      rw [this] at q
      exact absurd q (by decide)
    · exact ⟨rfl, fun _ => (p1 e1).1.symm.trans (q1 e0).1⟩
  by_cases c : en_f (lt (w1 r 271 2 1) n k) k k 0 (-1) = -1
  · refine Or.inl ⟨pk.trans c, fun a ha => ?_⟩
    rw [← (same a ha).1]
    exact (en_none L1.1 RS1).mp c a ha
  · obtain ⟨a, ha, ea⟩ := vi_nI ((en_f_in L1.1 RS1 k 0 (-1) (by omega) (Or.inl rfl)).resolve_left c)
    have ho := (en_f_off L1.1 RS1 k 0 (-1) (by omega) (Or.inl rfl)).resolve_left c
    rw [ea, nI_clamp (by omega)] at ho
    refine Or.inr ⟨a, pk.trans ea, ha, (same a ha).1.symm.trans ho, fun c hc o => ?_⟩
    have st := en_steep ru1 k14 k 0 (-1) (by omega) (Or.inl rfl) (fun j hj => absurd hj (by omega)) a ha ea c hc ((same c hc).1.trans o)
    rw [(same c hc).2 o, (same a ha).2 ((same a ha).1.symm.trans ho)] at st
    exact st
/-- one pivot by the steep rule -/
theorem steep_one (hb : b ≤ 225) (N : NR h b r n k m) (G : GI r n k M) (hM : M ≤ 19000000) : (nt_pick h b k 1 = -1 ∧ ∀ c, c < k → rf_off (lt r n k) c = false) ∨ ∃ a r2, nt_pick h b k 1 = nI a ∧ a < k ∧ NR (rt_step h b n m (nI a)) b r2 n k (m + 1) ∧ GI r2 n k (M + 1) ∧ SD (lt r n k) (lt r2 n k) n k ∧ ∃ R : Int, 1 ≤ R ∧ R ≤ 100000 ∧ R ≤ cst (lt r n k) n k - cst (lt r2 n k) n k ∧ ∀ c, c < k → rf_off (lt r n k) c = true → (rf_far (lt r n k) c).toInt ≤ R := by
  have X := sx_of_nr N G (N.ks G) (by omega)
  have L := G.lt
  have n7 := L.1.1.2.1
  have k14 := L.1.1.2.2
  have GT : GI (lt r n k) n k M := G.fl lt_fl
  rcases steep_pick hb N G with c | ⟨a, ea, ha, ho, far⟩
  · exact Or.inl c
  · obtain ⟨x, y, mm, hx, hy, ex, ey, hm, em⟩ := off_cyc L GT.2.2.2.1 ha ho
    have N5 := nr_step hb N G (by omega) ha hx hy ho ex ey hm em
    refine Or.inr ⟨a, tn5 (lt r n k) a x y mm, ea, ha, N5, ?_⟩
    have xn := Nat.le_of_lt hx
    have yn := Nat.le_of_lt hy
    have ln16 : lc_n (lt r n k) x y ≤ 16 := (lc_ok L ha xn yn).1.2.1
    have er := lvx_m ln16 hm em
    obtain ⟨-, Cp, Rs, Fb, Ag, Db, Gn⟩ := id GT
    have tk := tn_keep L Cp Fb Ag Db Gn (by omega) ha hx hy ho ex ey hm er
    have G5 := tk.1
    have e5 : (lt (tn5 (lt r n k) a x y mm) n k).1 271 = (tn5 (lt r n k) a x y mm).1 271 := lt_fl.r
    have kx : ∀ ix, KX ix → (lt (tn5 (lt r n k) a x y mm) n k).1 271 ix = (lt r n k).1 271 ix := fun ix hix => by rw [e5]; exact tk.2.1 ix hix
    have D : SD (lt r n k) (lt (tn5 (lt r n k) a x y mm) n k) n k := by
      have kxa : ∀ c w, w < 7 → w ≠ 4 → w ≠ 5 → rm (lt (tn5 (lt r n k) a x y mm) n k) c w = rm (lt r n k) c w := fun c w q1 q2 q3 => kx _ (Or.inr (Or.inr (Or.inr (Or.inr ⟨c, w, rfl, q1, q2, q3⟩))))
      exact ⟨fun c hc => ⟨kxa c 0 (by omega) (by omega) (by omega), kxa c 1 (by omega) (by omega) (by omega), kxa c 2 (by omega) (by omega) (by omega), kxa c 3 (by omega) (by omega) (by omega), kxa c 6 (by omega) (by omega) (by omega)⟩, fun p hp => ⟨kx _ (Or.inr (Or.inl (by omega))), kx _ (Or.inr (Or.inr (Or.inl (by omega)))), fun z => lent_mono L GT (by omega) ha hx hy ho ex ey hm er e5 hp z⟩⟩
    have Y := sx_of_nr N5 G5 (N5.ks G5) (by omega)
    obtain ⟨d1, d2⟩ := piv_drop X Y D ha hx hy ho ex ey hm er e5
    have rb := red_bd L X.2.1 Ag.2.2.1 ha
    have fb : (rf_far (lt r n k) a).toInt ≤ 100000 := by
      unfold rf_far
      split
      · exact rb.2
      · rw [neg_i rb]
        omega
    exact ⟨G5, D, (rf_far (lt r n k) a).toInt, d2, fb, d1, fun c hc o => Int32.le_iff_toInt_le.mp (far c hc o)⟩
/-- so many pivots, or it ends -/
theorem steep_run (hb : b ≤ 225) : ∀ (f i m M : Nat) (h r : LH), NR h b r n k m → GI r n k M → M + f ≤ 19000000 → (∃ r2 M2 m2, NR (rt_run b n k 1 f i m h).2 b r2 n k m2 ∧ SX (lt r2 n k) n k M2 ∧ SD (lt r n k) (lt r2 n k) n k ∧ ∀ c, c < k → rf_off (lt r2 n k) c = false) ∨ ∃ (Ts : Nat → LH) (Ms : Nat → Nat), Ts 0 = lt r n k ∧ (∀ j, j ≤ f → SX (Ts j) n k (Ms j)) ∧ (∀ j, j < f → SD (Ts j) (Ts (j + 1)) n k) ∧ ∀ j, j < f → ∃ R : Int, 1 ≤ R ∧ R ≤ 100000 ∧ R ≤ cst (Ts j) n k - cst (Ts (j + 1)) n k ∧ ∀ c, c < k → rf_off (Ts j) c = true → (rf_far (Ts j) c).toInt ≤ R
  | 0, i, m, M, h, r, N, G, hM => Or.inr ⟨fun _ => lt r n k, fun _ => M, rfl, fun _ _ => sx_of_nr N G (N.ks G) (show M ≤ 20000000 by omega), fun j hj => absurd hj (by omega), fun j hj => absurd hj (by omega)⟩
  | f + 1, i, m, M, h, r, N, G, hM => by
    rw [rt_run]
    rcases steep_one hb N G (by omega) with ⟨c, best⟩ | ⟨a, r2, e, ha, N2, G2, D, st⟩
    · rw [if_pos c]
      exact Or.inl ⟨r, M, m, N, sx_of_nr N G (N.ks G) (by omega), SD.rf, best⟩
    · have k14 := G.1.1.2.2
      rw [e, if_neg (nI_m1 (by omega))]
      rcases steep_run hb f (i + 1) (m + 1) (M + 1) _ r2 N2 G2 (by omega) with ⟨r3, M3, m3, q1, q2, q3, q4⟩ | ⟨Ts, Ms, z0, z1, z2, z3⟩
      · exact Or.inl ⟨r3, M3, m3, q1, q2, D.tr q3, q4⟩
      · refine Or.inr ⟨fun j => match j with | 0 => lt r n k | j + 1 => Ts j, fun j => match j with | 0 => M | j + 1 => Ms j, rfl, fun j hj => ?_, fun j hj => ?_, fun j hj => ?_⟩
        · cases j with
          | zero => exact sx_of_nr N G (N.ks G) (show M ≤ 20000000 by omega)
          | succ j => exact z1 j (by omega)
        · cases j with
          | zero =>
            show SD (lt r n k) (Ts 0) n k
            rw [z0]
            exact D
          | succ j => exact z2 j (by omega)
        · cases j with
          | zero =>
            show ∃ R : Int, 1 ≤ R ∧ R ≤ 100000 ∧ R ≤ cst (lt r n k) n k - cst (Ts 0) n k ∧ _
            rw [z0]
            exact st
          | succ j => exact z3 j (by omega)
/-- a million is enough -/
theorem steep_best (hb : b ≤ 225) {i : Nat} (N : NR h b r n k m) (G : GI r n k M) (hM : M ≤ 18000000) : ∃ r2 M2 m2, NR (rt_run b n k 1 1000000 i m h).2 b r2 n k m2 ∧ SX (lt r2 n k) n k M2 ∧ SD (lt r n k) (lt r2 n k) n k ∧ ∀ c, c < k → rf_off (lt r2 n k) c = false := by
  have big : ∀ f, f = 1000000 → ∃ r2 M2 m2, NR (rt_run b n k 1 f i m h).2 b r2 n k m2 ∧ SX (lt r2 n k) n k M2 ∧ SD (lt r n k) (lt r2 n k) n k ∧ ∀ c, c < k → rf_off (lt r2 n k) c = false := by
    intro f ef
    rcases steep_run hb f i m M h r N G (by omega) with z | ⟨Ts, Ms, -, z1, z2, z3⟩
    · exact z
    · have := steep_ends z1 z2 z3
      omega
  exact big _ rfl
end VUR
