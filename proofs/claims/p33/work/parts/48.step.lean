/-! ===== one pivot, many pivots ===== -/
section ST
variable {h : LH} {b d : Nat}
/-- what flows round the cycle -/
def st_fl (b : Nat) : Nat → Nat → LH → LH
  | 0, _, h => h
  | f + 1, i, h => st_fl b f (i + 1) (w1 h (b + 6) (h.1 242 i).toNatClampNeg (h.1 (b + 6) (h.1 242 i).toNatClampNeg + (if h.1 243 i = 0 then -(h.1 241 4) else h.1 241 4)))
theorem NO.f6 {n k i : Nat} {v : Int32} (H : NO h b n k) : NO (w1 h (b + 6) i v) b n k := H.w (by omega) (by omega) (by omega) (by omega) (by omega)
theorem NO.f7 {n k i : Nat} {v : Int32} (H : NO h b n k) : NO (w1 h (b + 7) i v) b n k := H.w (by omega) (by omega) (by omega) (by omega) (by omega)
theorem RO.lo {c e i : Nat} {v : Int32} (R : RO h c) (he : e < 240) : RO (w1 h e i v) c := R.w (fun z => by omega) (fun z => by omega)
theorem st_fl_ok {n k c : Nat} : ∀ (f i : Nat) (h : LH), NO h b n k → RO h c → NO (st_fl b f i h) b n k ∧ RO (st_fl b f i h) c ∧ (∀ e, e ≠ b + 6 → (st_fl b f i h).1 e = h.1 e)
  | 0, i, h, H, R => ⟨H, R, fun _ _ => rfl⟩
  | f + 1, i, h, H, R => by
    have hb := nt_b225 H.1
    unfold st_fl
    obtain ⟨k1, k2, k3⟩ := st_fl_ok (c := c) f (i + 1) (w1 h (b + 6) (h.1 242 i).toNatClampNeg (h.1 (b + 6) (h.1 242 i).toNatClampNeg + (if h.1 243 i = 0 then -(h.1 241 4) else h.1 241 4))) H.f6 (R.lo (by omega))
    refine ⟨k1, k2, fun e he => ?_⟩
    rw [k3 e he, w1_ne he]
theorem sx_flL {n k c : Nat} {rule x3 : Int32} {Q : tf_Q} : ∀ (f i : Nat) (h : LH), NO h b n k → RO h c → i + f = c → (∀ x4 : Int32, lx_X3_step 298 (tf_Cd 298 d) Q 74 [.ref 241, .ref b, .int rule, .int x3, .int x4] [] (st_fl b f i h)) → lx_X3_step 298 (tf_Cd 298 d) Q 22 [.ref 241, .ref b, .int rule, .int x3, .int (nI i)] [] h
  | 0, i, h, H, R, hi, q => by
    have hc := R.2.1
    refine go_X3_step_22 (by decide) H.1 ⟨fun _ => q _, fun z => absurd ?_ z⟩
    rw [R.1]
    exact nI_le (by omega) (by omega)
  | f + 1, i, h, H, R, hi, q => by
    have hc := R.2.1
    have hb := nt_b225 H.1
    obtain ⟨-, -, -, ⟨K6, N6⟩, -⟩ := nt_KN H.1
    have h8 : vp_in (nI i) 8 := vi_of (by omega) (by omega)
    have hcl : (nI i).toNatClampNeg = i := nI_clamp (by omega)
    have h21 := R.2.2 i (by omega)
    rw [st_fl] at q
    refine go_X3_step_22 (by decide) H.1 ⟨fun z => ?_, fun _ => ⟨h8, by rw [hcl]; exact h21, h8, fun c1 => go_X3_step_61 (by decide) H.1 K6 N6 (by omega) (go_X3_step_66 (by decide) H.1 K6 N6 (by omega) ⟨by rw [hcl]; exact h21, ?_⟩), fun c1 => go_X3_step_66 (by decide) H.1 K6 N6 (by omega) ⟨by rw [hcl]; exact h21, ?_⟩⟩⟩
    · rw [R.1] at z
      exact absurd z (nI_ge (by omega) (by omega))
    · rw [hcl] at c1 ⊢
      rw [if_pos c1] at q
      rw [nI_1]
      exact sx_flL f (i + 1) _ H.f6 (R.lo (by omega)) (by omega) q
    · rw [hcl] at c1 ⊢
      rw [if_neg c1] at q
      rw [nI_1]
      exact sx_flL f (i + 1) _ H.f6 (R.lo (by omega)) (by omega) q
/-! one goes in, one goes out -/
def ex_fr (h : LH) (b : Nat) (x : Int32) : Int32 := if h.1 243 (h.1 241 5).toNatClampNeg = 0 then h.1 (b + 3) x.toNatClampNeg else h.1 (b + 2) x.toNatClampNeg
def ex_to (h : LH) (b : Nat) (x : Int32) : Int32 := if h.1 243 (h.1 241 5).toNatClampNeg = 0 then h.1 (b + 2) x.toNatClampNeg else h.1 (b + 3) x.toNatClampNeg
def ex_s (h : LH) (b : Nat) (x y : Int32) : LH := w1 (w1 h (b + 7) x.toNatClampNeg 2) (b + 7) y.toNatClampNeg (if h.1 (b + 6) y.toNatClampNeg = 0 then 0 else 1)
def rt_ex (h : LH) (b n : Nat) (x y : Int32) : LH :=
  if y = x then w1 h (b + 7) x.toNatClampNeg (if h.1 243 (h.1 241 5).toNatClampNeg = 0 then 0 else 1)
  else nt_prs (if h.1 241 5 ≤ h.1 241 6 then nt_rh b y n (ex_to h b x) (ex_fr h b x) x (ex_s h b x y) else nt_rh b y n (ex_fr h b x) (ex_to h b x) x (ex_s h b x y)) b n
theorem ex_in {n k : Nat} (H : NO h b n k) {x : Int32} (hx : vp_in x 14) : vp_in (ex_fr h b x) 8 ∧ vp_in (ex_to h b x) 8 := by
  have ht := H.tl hx
  unfold ex_fr ex_to
  split
  · exact ⟨vi_mono ht.2 (by omega), vi_mono ht.1 (by omega)⟩
  · exact ⟨vi_mono ht.1 (by omega), vi_mono ht.2 (by omega)⟩
theorem NO.exs {n k : Nat} (H : NO h b n k) (x y : Int32) : NO (ex_s h b x y) b n k := NO.f7 (NO.f7 H)
theorem sx_ex {n k : Nat} (H : NO h b n k) {x y : Int32} (hx : vp_in x 14) (hy : vp_in y 21) (h5 : vp_in (h.1 241 5) 8) : tf_Rt (d + 2) 165 [.ref 241, .ref b, .int x, .int y] h tf_z (rt_ex h b n x y) := by
  intro Q q
  have K := H.1
  have hb := nt_b225 K
  obtain ⟨-, -, -, -, K7, N7⟩ := nt_KN K
  have vx : vp_in x 21 := vi_mono hx (by omega)
  obtain ⟨vf, vt⟩ := ex_in H hx
  have HS := H.exs x y
  unfold rt_ex at q
  have m113 : ∀ v : Int32, v = (if h.1 (b + 6) y.toNatClampNeg = 0 then (0 : Int32) else 1) → ¬ y = x → lx_X3_exchange 298 (tf_Cd 298 (d + 1)) Q 113 [.ref 241, .ref b, .int x, .int y, .int (ex_fr h b x), .int (ex_to h b x)] [.int v, .int y, .ref (b + 7)] (w1 h (b + 7) x.toNatClampNeg 2) := by
    intro v hv hne
    rw [if_neg hne] at q
    have es : (w1 (w1 h (b + 7) x.toNatClampNeg 2) (b + 7) y.toNatClampNeg v) = ex_s h b x y := by rw [hv]; rfl
    have e5 : (w1 (w1 h (b + 7) x.toNatClampNeg 2) (b + 7) y.toNatClampNeg v).1 241 = h.1 241 := by rw [w1_ne (by omega), w1_ne (by omega)]
    have e5a : (tf_up (w1 h (b + 7) x.toNatClampNeg 2).1 (b + 7) y.toNatClampNeg v) 241 5 = h.1 241 5 := congrFun e5 5
    have e5b : (tf_up (w1 h (b + 7) x.toNatClampNeg 2).1 (b + 7) y.toNatClampNeg v) 241 6 = h.1 241 6 := congrFun e5 6
    refine go_X3_exchange_113 (by decide) K K7 N7 (by omega) ⟨hy, ?_, ?_⟩
    · intro c1
      rw [e5a, e5b] at c1
      rw [if_pos c1] at q
      show lx_X3_exchange 298 (tf_Cd 298 (d + 1)) Q 138 _ [] (w1 (w1 h (b + 7) x.toNatClampNeg 2) (b + 7) y.toNatClampNeg v)
      rw [es]
      exact go_X3_exchange_138 (by decide) K (sx_rh HS vt vf vx _ (go_X3_exchange_148 (by decide) K (sx_prs (NO.rh n _ _ _ _ HS vt vf vx) _ (go_X3_exchange_152 (by decide) K q))))
    · intro c1
      rw [e5a, e5b] at c1
      rw [if_neg c1] at q
      show tf_Cd 298 (d + 1) 143 _ (w1 (w1 h (b + 7) x.toNatClampNeg 2) (b + 7) y.toNatClampNeg v) _
      rw [es]
      exact sx_rh HS vf vt vx _ (go_X3_exchange_135 (by decide) K (go_X3_exchange_148 (by decide) K (sx_prs (NO.rh n _ _ _ _ HS vf vt vx) _ (go_X3_exchange_152 (by decide) K q))))
  have e6 : (tf_up h.1 (b + 7) x.toNatClampNeg 2) (b + 6) = h.1 (b + 6) := w1_ne (h := h) (c := b + 7) (i := x.toNatClampNeg) (v := 2) (by omega)
  have m85 : ¬ y = x → lx_X3_exchange 298 (tf_Cd 298 (d + 1)) Q 85 [.ref 241, .ref b, .int x, .int y, .int (ex_fr h b x), tf_z] [.int (ex_to h b x)] h := by
    intro hne
    refine go_X3_exchange_85 (by decide) K ⟨vx, hy, fun c1 => ?_, fun c1 => go_X3_exchange_112 (by decide) K K7 N7 (by omega) ?_⟩
    · rw [e6] at c1
      exact m113 0 (by rw [if_pos c1]) hne
    · rw [e6] at c1
      exact m113 1 (by rw [if_neg c1]) hne
  refine en_X3_exchange (by decide) K (go_X3_exchange_0 (by decide) K ⟨fun c1 => ⟨h5, fun c2 => go_X3_exchange_26 (by decide) K K7 N7 (by omega) (go_X3_exchange_27 (by decide) K K7 N7 (by omega) ⟨vx, ?_⟩), fun c2 => go_X3_exchange_27 (by decide) K K7 N7 (by omega) ⟨vx, ?_⟩⟩, fun c1 => go_X3_exchange_29 (by decide) K ⟨h5, fun c2 => go_X3_exchange_50 (by decide) K ⟨vx, go_X3_exchange_56 (by decide) K ⟨h5, fun c3 => go_X3_exchange_79 (by decide) K ⟨vx, ?_⟩, fun c3 => absurd c2 c3⟩⟩, fun c2 => ⟨vx, go_X3_exchange_56 (by decide) K ⟨h5, fun c3 => absurd c3 c2, fun c3 => ⟨vx, ?_⟩⟩⟩⟩⟩)
  · rw [if_pos c1, if_pos c2] at q
    exact q
  · rw [if_pos c1, if_neg c2] at q
    exact q
  · have := m85 c1
    unfold ex_fr ex_to at this
    rw [if_pos c2, if_pos c2] at this
    exact this
  · have := m85 c1
    unfold ex_fr ex_to at this
    rw [if_neg c2, if_neg c2] at this
    exact this
theorem nt_pl_lo {n : Nat} : ∀ (f p : Nat) (h : LH) (e : Nat), e ≠ b + 10 → (nt_pl b n f p h).1 e = h.1 e
  | 0, _, _, _, _ => rfl
  | f + 1, p, h, e, he => by rw [nt_pl, nt_pl_lo f (p + 1) _ e he, w1_ne he]
theorem nt_prs_lo {n e : Nat} (he : e ≠ b + 10) : (nt_prs h b n).1 e = h.1 e := by rw [nt_prs, nt_pl_lo n 0 _ e he, w1_ne he]
theorem nt_rh_lo {goes : Int32} : ∀ (f : Nat) (a u e : Int32) (h : LH) (c : Nat), c ≠ b + 8 → c ≠ b + 9 → (nt_rh b goes f a u e h).1 c = h.1 c
  | 0, _, _, _, _, _, _, _ => rfl
  | f + 1, a, u, e, h, c, h8, h9 => by
    unfold nt_rh
    split
    · rfl
    · split
      · rw [w1_ne h9, w1_ne h8]
      · rw [nt_rh_lo f _ _ _ _ c h8 h9, w1_ne h9, w1_ne h8]
theorem ex_ok {n k : Nat} (H : NO h b n k) {x y : Int32} (hx : vp_in x 14) : NO (rt_ex h b n x y) b n k ∧ (∀ c, c ≠ b + 7 → c ≠ b + 8 → c ≠ b + 9 → c ≠ b + 10 → (rt_ex h b n x y).1 c = h.1 c) := by
  obtain ⟨vf, vt⟩ := ex_in H hx
  have vx : vp_in x 21 := vi_mono hx (by omega)
  have HS := H.exs x y
  have eS : ∀ c, c ≠ b + 7 → (ex_s h b x y).1 c = h.1 c := fun c hc => by unfold ex_s; rw [w1_ne hc, w1_ne hc]
  unfold rt_ex
  split
  · exact ⟨H.f7, fun c h7 _ _ _ => w1_ne h7⟩
  · split
    · exact ⟨NO.prs (NO.rh n _ _ _ _ HS vt vf vx), fun c h7 h8 h9 h10 => by rw [nt_prs_lo h10, nt_rh_lo n _ _ _ _ c h8 h9, eS c h7]⟩
    · exact ⟨NO.prs (NO.rh n _ _ _ _ HS vf vt vx), fun c h7 h8 h9 h10 => by rw [nt_prs_lo h10, nt_rh_lo n _ _ _ _ c h8 h9, eS c h7]⟩
/-- one pivot by an arc -/
def st_1 (h : LH) (b n : Nat) (x : Int32) : LH := st_fl b (rt_cnt (rt_cyc h b n x)) 0 (rt_cyc h b n x)
def st_y (h : LH) : Int32 := h.1 242 (h.1 241 6).toNatClampNeg
def st_2 (h : LH) (b n : Nat) (x : Int32) : LH := rt_ex (st_1 h b n x) b n x (st_y (st_1 h b n x))
def rt_step (h : LH) (b n m : Nat) (x : Int32) : LH := nt_tc (st_2 h b n x) (b + 11) m x (st_y (st_2 h b n x)) ((st_2 h b n x).1 241 4)
theorem nt_tc_lo {t m e : Nat} {x y z : Int32} (he : e < t ∨ t + 3 < e) : (nt_tc h t m x y z).1 e = h.1 e := by
  unfold nt_tc nt_tc0
  rw [w1_ne (by omega)]
  split
  · rw [w1_ne (by omega), w1_ne (by omega), w1_ne (by omega), w1_ne (by omega), w1_ne (by omega)]
  · rw [w1_ne (by omega), w1_ne (by omega), w1_ne (by omega), w1_ne (by omega)]
theorem nt_tc_0 {t m : Nat} {x y z : Int32} : (nt_tc h t m x y z).1 t 0 = nI (m + 1) ∧ (nt_tc h t m x y z).1 t 3 = x := by
  unfold nt_tc
  refine ⟨?_, w1_eq⟩
  rw [w1_at (by decide)]
  split
  · rw [w1_at (by decide)]
    exact w1_eq
  · exact w1_eq
theorem st_yin {g : LH} {c : Nat} (R : RO g c) (hv : vp_in (g.1 241 6) 8) : vp_in (st_y g) 21 := by
  obtain ⟨j, hj, e⟩ := vi_nI hv
  unfold st_y
  rw [e, nI_clamp (by omega)]
  exact R.2.2 j hj
theorem tc_ok {g : LH} {n k c m : Nat} (H : NO g b n k) (R : RO g c) {x y z : Int32} (hx : vp_in x k) : NT (nt_tc g (b + 11) m x y z) b n k (m + 1) ∧ RO (nt_tc g (b + 11) m x y z) c ∧ (∀ e, e < 240 → ¬ (b ≤ e ∧ e < b + 15) → (nt_tc g (b + 11) m x y z).1 e = g.1 e) := by
  have hb := H.2.1
  have hb2 := nt_b225 H.1
  have L : ∀ e, e < b + 11 ∨ b + 14 < e → (nt_tc g (b + 11) m x y z).1 e = g.1 e := fun e he => nt_tc_lo (by omega)
  have t0 := nt_tc_0 (h := g) (t := b + 11) (m := m) (x := x) (y := y) (z := z)
  generalize nt_tc g (b + 11) m x y z = g2 at L t0 ⊢
  refine ⟨⟨H.keep (L b (by omega)) (fun a _ => by rw [L (b + 2) (by omega)]) (fun a _ => by rw [L (b + 3) (by omega)]) (L (b + 8) (by omega)) (L (b + 9) (by omega)), t0.1, ?_⟩, ⟨by rw [L 241 (by omega)]; exact R.1, R.2.1, fun i hi => by rw [L 242 (by omega)]; exact R.2.2 i hi⟩, fun e h1 h2 => L e (by omega)⟩
  obtain ⟨j, hj, e⟩ := vi_nI hx
  exact ⟨j + 1, by omega, by rw [t0.2, e, nI_1]⟩
theorem st1_ok {n k c0 : Nat} (H : NO h b n k) (R0 : RO h c0) {x : Int32} (hx : vp_in x 14) :
    (NO (rt_cyc h b n x) b n k ∧ RO (rt_cyc h b n x) (rt_cnt (rt_cyc h b n x))) ∧ (NO (st_1 h b n x) b n k ∧ (∃ c, RO (st_1 h b n x) c) ∧ vp_in ((st_1 h b n x).1 241 5) 8 ∧ vp_in ((st_1 h b n x).1 241 6) 8) ∧ (∀ e, e < 240 → e ≠ b + 6 → (st_1 h b n x).1 e = h.1 e) := by
  have hb2 := nt_b225 H.1
  obtain ⟨H1, ⟨c, R1⟩, V5, V6, L1⟩ := cyc_ok H R0 hx
  have R1' : RO (rt_cyc h b n x) (rt_cnt (rt_cyc h b n x)) := by rw [R1.cnt]; exact R1
  obtain ⟨H2, R2, L2⟩ := st_fl_ok (rt_cnt (rt_cyc h b n x)) 0 (rt_cyc h b n x) H1 R1'
  unfold st_1
  generalize st_fl b (rt_cnt (rt_cyc h b n x)) 0 (rt_cyc h b n x) = g at H2 R2 L2 ⊢
  exact ⟨⟨H1, R1'⟩, ⟨H2, ⟨_, R2⟩, by rw [L2 241 (by omega)]; exact V5, by rw [L2 241 (by omega)]; exact V6⟩, fun e he h6 => by rw [L2 e h6, L1 e he]⟩
theorem st2_ok {g : LH} {n k c : Nat} (H : NO g b n k) (R : RO g c) {x y : Int32} (hx : vp_in x 14) (h6 : vp_in (g.1 241 6) 8) : NO (rt_ex g b n x y) b n k ∧ RO (rt_ex g b n x y) c ∧ vp_in ((rt_ex g b n x y).1 241 6) 8 ∧ (rt_ex g b n x y).1 (b + 11) = g.1 (b + 11) ∧ (∀ e, ¬ (b ≤ e ∧ e < b + 15) → (rt_ex g b n x y).1 e = g.1 e) := by
  have hb2 := nt_b225 H.1
  obtain ⟨H3, L3⟩ := ex_ok (y := y) H hx
  generalize rt_ex g b n x y = g2 at H3 L3 ⊢
  have L : ∀ e, ¬ (b ≤ e ∧ e < b + 15) → g2.1 e = g.1 e := fun e he => L3 e (by omega) (by omega) (by omega) (by omega)
  exact ⟨H3, ⟨by rw [L 241 (by omega)]; exact R.1, R.2.1, fun i hi => by rw [L 242 (by omega)]; exact R.2.2 i hi⟩, by rw [L 241 (by omega)]; exact h6, L3 (b + 11) (by omega) (by omega) (by omega) (by omega), L⟩
theorem st_ok {n k c0 m : Nat} (H : NT h b n k m) (R0 : RO h c0) {x : Int32} (hx : vp_in x k) :
    (NO (rt_cyc h b n x) b n k ∧ RO (rt_cyc h b n x) (rt_cnt (rt_cyc h b n x))) ∧ (NO (st_1 h b n x) b n k ∧ vp_in ((st_1 h b n x).1 241 5) 8 ∧ vp_in ((st_1 h b n x).1 241 6) 8 ∧ vp_in (st_y (st_1 h b n x)) 21) ∧ (NO (st_2 h b n x) b n k ∧ vp_in ((st_2 h b n x).1 241 6) 8 ∧ (st_2 h b n x).1 (b + 11) 0 = nI m) ∧ (NT (rt_step h b n m x) b n k (m + 1) ∧ ∃ c, RO (rt_step h b n m x) c) ∧ (∀ e, e < 240 → ¬ (b ≤ e ∧ e < b + 15) → (rt_step h b n m x).1 e = h.1 e) := by
  have hb := H.1.2.1
  have hb2 := nt_b225 H.1.1
  have hx14 : vp_in x 14 := vi_mono hx (by omega)
  obtain ⟨A1, ⟨H2, ⟨c, R2⟩, V5, V6⟩, L2⟩ := st1_ok H.1 R0 hx14
  have Y1 := st_yin R2 V6
  unfold rt_step st_2
  generalize st_1 h b n x = g1 at H2 R2 V5 V6 L2 Y1 ⊢
  obtain ⟨H3, R3, V6c, e11, L3⟩ := st2_ok (y := st_y g1) H2 R2 hx14 V6
  generalize rt_ex g1 b n x (st_y g1) = g2 at H3 R3 V6c e11 L3 ⊢
  obtain ⟨T, R4, L4⟩ := tc_ok (m := m) (y := st_y g2) (z := g2.1 241 4) H3 R3 hx
  generalize nt_tc g2 (b + 11) m x (st_y g2) (g2.1 241 4) = g3 at T R4 L4 ⊢
  exact ⟨A1, ⟨H2, V5, V6, Y1⟩, ⟨H3, V6c, by rw [e11, L2 (b + 11) (by omega) (by omega)]; exact H.2.1⟩, ⟨T, c, R4⟩, fun e h1 h2 => by rw [L4 e h1 h2, L3 e h2, L2 e h1 (by omega)]⟩
theorem sx_step {n k c0 m : Nat} (H : NT h b n k m) (hm : m < 2000000000) (R0 : RO h c0) (rule : Int32) : tf_Rt (d + 4) 159 [.ref 241, .ref b, .int rule] h (.int (nt_pick h b k rule)) (if nt_pick h b k rule = -1 then h else rt_step h b n m (nt_pick h b k rule)) := by
  intro Q q
  have K := H.1.1
  have hb := H.1.2.1
  have hp := H.pick rule
  refine en_X3_step (by decide) K (go_X3_step_0 (by decide) K (sx_pick2 H rule _ (go_X3_step_5 (by decide) K ⟨fun c => ?_, fun c => ?_⟩)))
  · rw [if_pos c, c] at q
    exact q
  · rw [if_neg c] at q
    have hx : vp_in (nt_pick h b k rule) k := hp.resolve_left c
    have hx14 : vp_in (nt_pick h b k rule) 14 := vi_mono hx (by omega)
    obtain ⟨⟨H1, R1⟩, ⟨H2, V5, V6, Y1⟩, ⟨H3, V6c, e11⟩, -, -⟩ := st_ok H R0 hx
    have hcy := sx_cyc (d := d) H.1 R0 hx14
    have hfl : ∀ Q2 : tf_Q, (∀ x4 : Int32, lx_X3_step 298 (tf_Cd 298 (d + 3)) Q2 74 [.ref 241, .ref b, .int rule, .int (nt_pick h b k rule), .int x4] [] (st_1 h b n (nt_pick h b k rule))) → lx_X3_step 298 (tf_Cd 298 (d + 3)) Q2 22 [.ref 241, .ref b, .int rule, .int (nt_pick h b k rule), .int (nI 0)] [] (rt_cyc h b n (nt_pick h b k rule)) := fun Q2 => sx_flL (rt_cnt (rt_cyc h b n (nt_pick h b k rule))) 0 _ H1 R1 (Nat.zero_add _)
    generalize nt_pick h b k rule = x at q hx hx14 H1 R1 H2 V5 V6 Y1 H3 V6c e11 hcy hfl ⊢
    unfold rt_step st_2 at q
    unfold st_2 at H3 V6c e11
    generalize st_1 h b n x = g1 at q H2 V5 V6 Y1 H3 V6c e11 hfl
    generalize rt_cyc h b n x = g0 at hcy hfl
    have hex := sx_ex (d := d + 1) H2 hx14 Y1 V5
    have K11 := nt_K11 K
    refine go_X3_step_13 (by decide) K (hcy _ (go_X3_step_19 (by decide) K (hfl _ (fun x4 => go_X3_step_74 (by decide) K ⟨V6, hex _ ?_⟩))))
    generalize rt_ex g1 b n x (st_y g1) = g2 at q H3 V6c e11
    have htc := sx_tc (d := d + 2) K11 e11 hm x (st_y g2) (g2.1 241 4)
    exact go_X3_step_89 (by decide) K ⟨V6c, htc _ (go_X3_step_110 (by decide) K q)⟩
/-- pivots till none offers, so many at most -/
def rt_run (b n k : Nat) (rule : Int32) : Nat → Nat → Nat → LH → Nat × LH
  | 0, i, _, h => (i, h)
  | f + 1, i, m, h => if nt_pick h b k rule = -1 then (i, h) else rt_run b n k rule f (i + 1) (m + 1) (rt_step h b n m (nt_pick h b k rule))
theorem sx_runL {n k M : Nat} {rule : Int32} {Q : tf_Q} (hM : M ≤ 1000000) : ∀ (f i m : Nat) (h : LH) (c : Nat), NT h b n k m → m + f < 2000000000 → RO h c → i + f = M → Q (.int (nI (rt_run b n k rule f i m h).1)) (rt_run b n k rule f i m h).2 → lx_X3_run 298 (tf_Cd 298 (d + 4)) Q 3 [.ref 241, .ref b, .int rule, .int (nI M), .int (nI i)] [] h
  | 0, i, m, h, c, H, hm, R, hi, q => go_X3_run_3 (by decide) H.1.1 ⟨fun _ => go_X3_run_25 (by decide) H.1.1 q, fun z => absurd (nI_le (by omega) (by omega)) z⟩
  | f + 1, i, m, h, c, H, hm, R, hi, q => by
    rw [rt_run] at q
    refine go_X3_run_3 (by decide) H.1.1 ⟨fun z => absurd z (nI_ge (by omega) (by omega)), fun _ => sx_step H (by omega) R rule _ (go_X3_run_15 (by decide) H.1.1 ⟨fun c1 => go_X3_run_25 (by decide) H.1.1 ?_, fun c1 => ?_⟩)⟩
    · rw [if_pos c1] at q ⊢
      exact q
    · rw [if_neg c1] at q ⊢
      obtain ⟨-, -, -, ⟨HT, c2, R2⟩, -⟩ := st_ok H R ((H.pick rule).resolve_left c1)
      rw [nI_1]
      exact sx_runL hM f (i + 1) (m + 1) _ c2 HT (by omega) R2 (by omega) q
theorem sx_run {n k c m M : Nat} (H : NT h b n k m) (hM : M ≤ 1000000) (hm : m + M < 2000000000) (R : RO h c) (rule : Int32) : tf_Rt (d + 5) 160 [.ref 241, .ref b, .int rule, .int (nI M)] h (.int (nI (rt_run b n k rule M 0 m h).1)) (rt_run b n k rule M 0 m h).2 :=
  fun _ q => en_X3_run (by decide) H.1.1 (go_X3_run_0 (by decide) H.1.1 (sx_runL hM M 0 m h c H hm R (by omega) q))
theorem rt_run_ok {n k : Nat} {rule : Int32} : ∀ (f i m : Nat) (h : LH) (c : Nat), NT h b n k m → RO h c → (∃ m2, m2 ≤ m + f ∧ NT (rt_run b n k rule f i m h).2 b n k m2) ∧ (∃ c2, RO (rt_run b n k rule f i m h).2 c2) ∧ (∀ e, e < 240 → ¬ (b ≤ e ∧ e < b + 15) → (rt_run b n k rule f i m h).2.1 e = h.1 e)
  | 0, i, m, h, c, H, R => ⟨⟨m, by omega, H⟩, ⟨c, R⟩, fun _ _ _ => rfl⟩
  | f + 1, i, m, h, c, H, R => by
    rw [rt_run]
    by_cases c1 : nt_pick h b k rule = -1
    · rw [if_pos c1]
      exact ⟨⟨m, by omega, H⟩, ⟨c, R⟩, fun _ _ _ => rfl⟩
    · rw [if_neg c1]
      obtain ⟨-, -, -, ⟨HT, c2, R2⟩, L⟩ := st_ok H R ((H.pick rule).resolve_left c1)
      obtain ⟨⟨m2, k1, k2⟩, k3, k4⟩ := rt_run_ok (rule := rule) f (i + 1) (m + 1) _ c2 HT R2
      exact ⟨⟨m2, by omega, k2⟩, k3, fun e h1 h2 => by rw [k4 e h1 h2, L e h1 h2]⟩
end ST
