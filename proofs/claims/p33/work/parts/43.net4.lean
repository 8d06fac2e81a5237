/-! ===== the class's grid: it begins; acts ===== -/
section NT4
variable {h : LH} {b d : Nat}
def nt_full (h : LH) (b : Nat) (warm : Int32) (a : Nat) : Bool := !decide (warm = 0) && (!decide (h.1 (b + 4) a ≤ 0) && !decide (2 * h.1 (b + 6) a < h.1 (b + 4) a))
/-- an arc as it begins -/
def nt_b1 (h : LH) (b : Nat) (warm : Int32) (a : Nat) : LH := if h.1 (b + 7) a = 3 then w1 h (b + 6) a 0 else if nt_full h b warm a = true then w1 (w1 h (b + 7) a 1) (b + 6) a (h.1 (b + 4) a) else w1 (w1 h (b + 7) a 0) (b + 6) a 0
def nt_ba (b : Nat) (warm : Int32) : Nat → Nat → LH → LH
  | 0, _, h => h
  | f + 1, a, h => nt_ba b warm f (a + 1) (nt_b1 h b warm a)
def nt_hs (b k : Nat) : Nat → Nat → LH → LH
  | 0, _, h => h
  | f + 1, p, h => nt_hs b k f (p + 1) (nt_h1 h b k p)
def nt_tick (h : LH) (b : Nat) : LH := w1 h (b + 11) 2 (h.1 (b + 11) 2 + 1)
def nt_beg (h : LH) (b n k : Nat) (warm : Int32) : LH := nt_tick (nt_prs (nt_hs b k n 0 (nt_ba b warm k 0 h)) b n) b
theorem NO.b1 {n k : Nat} (H : NO h b n k) (warm : Int32) (a : Nat) : NO (nt_b1 h b warm a) b n k := by
  unfold nt_b1
  split
  · exact H.w (by omega) (by omega) (by omega) (by omega) (by omega)
  · split
    · exact (H.w (by omega) (by omega) (by omega) (by omega) (by omega)).w (by omega) (by omega) (by omega) (by omega) (by omega)
    · exact (H.w (by omega) (by omega) (by omega) (by omega) (by omega)).w (by omega) (by omega) (by omega) (by omega) (by omega)
theorem NO.ba {n k : Nat} (warm : Int32) : ∀ (f a : Nat) (h : LH), NO h b n k → NO (nt_ba b warm f a h) b n k
  | 0, _, _, H => H
  | f + 1, a, _, H => NO.ba warm f (a + 1) _ (H.b1 warm a)
theorem NO.hs {n k : Nat} : ∀ (f p : Nat) (h : LH), p + f ≤ 7 → NO h b n k → NO (nt_hs b k f p h) b n k
  | 0, _, _, _, H => H
  | f + 1, p, _, hp, H => NO.hs f (p + 1) _ (by omega) (H.h1 (by omega))
theorem NO.pl {n k : Nat} : ∀ (f p : Nat) (h : LH), NO h b n k → NO (nt_pl b n f p h) b n k
  | 0, _, _, H => H
  | f + 1, p, _, H => NO.pl f (p + 1) _ (H.w (by omega) (by omega) (by omega) (by omega) (by omega))
theorem NO.prs {n k : Nat} (H : NO h b n k) : NO (nt_prs h b n) b n k := NO.pl n 0 _ (H.w (by omega) (by omega) (by omega) (by omega) (by omega))
theorem NO.tick {n k : Nat} (H : NO h b n k) : NO (nt_tick h b) b n k := H.w (by omega) (by omega) (by omega) (by omega) (by omega)
theorem NO.beg {n k : Nat} (H : NO h b n k) (warm : Int32) : NO (nt_beg h b n k warm) b n k := by
  have hb := H.2.1
  exact NO.tick (NO.prs (NO.hs n 0 _ (by omega) (NO.ba warm k 0 h H)))
theorem sx_b1 {n k : Nat} (H : NO h b n k) {warm : Int32} {a : Nat} (ha : a < k) {x3 : Value} {Q : tf_Q} (q : ∀ x3 : Value, lx_X1_begin 298 (tf_Cd 298 d) Q 2 [.ref b, .int warm, .int (nI (a + 1)), x3] [] (nt_b1 h b warm a)) : lx_X1_begin 298 (tf_Cd 298 d) Q 2 [.ref b, .int warm, .int (nI a), x3] [] h := by
  have K := H.1
  have hb := H.2.1
  obtain ⟨hb2, ⟨K2, N2⟩, ⟨K3, N3⟩, ⟨K6, N6⟩, K7, N7⟩ := nt_KN K
  have hi : vp_in (nI a) 21 := vi_of (by omega) (by omega)
  have hcl : (nI a).toNatClampNeg = a := nI_clamp (by omega)
  have k101 : ∀ (x3 : Value) (g : LH), g = nt_b1 h b warm a → lx_X1_begin 298 (tf_Cd 298 d) Q 101 [.ref b, .int warm, .int (nI a), x3] [] g := by
    intro x3 g e
    subst e
    refine go_X1_begin_101 (by decide) K ?_
    rw [nI_1]
    exact q x3
  refine go_X1_begin_2 (by decide) K ⟨fun c => ?_, fun _ => ⟨hi, fun c => ⟨hi, k101 _ _ ?_⟩, fun c => ?_⟩⟩
  · rw [H.2.2.2.1] at c
    exact absurd c (nI_ge (by omega) (by omega))
  · rw [hcl] at c ⊢
    rw [nt_b1, if_pos c]
  · rw [hcl] at c
    have k65 : ∀ (y : Int32) (x3 : Value), (y = 0 ∨ y = 1) → (¬ y = 0 ↔ nt_full h b warm a = true) → lx_X1_begin 298 (tf_Cd 298 d) Q 65 [.ref b, .int warm, .int (nI a), x3] [.int y] h := by
      intro y x3 hy hyf
      refine go_X1_begin_65 (by decide) K ⟨fun c2 => go_X1_begin_79 (by decide) K K7 N7 (by omega) (go_X1_begin_80 (by decide) K K7 N7 (by omega) ⟨hi, fun c3 => go_X1_begin_99 (by decide) K K6 N6 (by omega) (go_X1_begin_100 (by decide) K K6 N6 (by omega) ⟨hi, k101 _ _ ?_⟩), fun c3 => absurd c2 c3⟩), fun c2 => go_X1_begin_80 (by decide) K K7 N7 (by omega) ⟨hi, fun c3 => absurd c3 c2, fun c3 => ⟨hi, go_X1_begin_100 (by decide) K K6 N6 (by omega) ⟨hi, k101 _ _ ?_⟩⟩⟩⟩
      · have hf : ¬ nt_full h b warm a = true := fun z => hyf.mpr z c2
        rw [hcl, nt_b1, if_neg c, if_neg hf]
      · have hf : nt_full h b warm a = true := hyf.mp c2
        rw [hcl, nt_b1, if_neg c, if_pos hf]
        have e4 : (tf_up h.1 (b + 7) a 1) (b + 4) a = h.1 (b + 4) a := congrFun (w1_ne (h := h) (c := b + 7) (i := a) (v := 1) (by omega)) a
        rw [e4]
    have k64 : nt_full h b warm a = false → lx_X1_begin 298 (tf_Cd 298 d) Q 64 [.ref b, .int warm, .int (nI a), x3] [] h := fun hf => go_X1_begin_64 (by decide) K (k65 0 x3 (Or.inl rfl) ⟨fun z => absurd rfl z, fun z => by rw [hf] at z; cases z⟩)
    refine go_X1_begin_30 (by decide) K ⟨fun c2 => k64 ?_, fun c2 => ⟨hi, fun c3 => k64 ?_, fun c3 => ⟨hi, hi, fun c4 => k64 ?_, fun c4 => k65 1 x3 (Or.inr rfl) ⟨fun _ => ?_, fun _ => by decide⟩⟩⟩⟩
    · simp [nt_full, c2]
    · rw [hcl] at c3
      simp [nt_full, c3]
    · rw [hcl] at c4
      simp [nt_full, c4]
    · rw [hcl] at c3 c4
      simp [nt_full, c2, c3, c4]
theorem sx_baL {n k : Nat} {warm : Int32} {Q : tf_Q} : ∀ (f a : Nat) (h : LH) (x3 : Value), NO h b n k → a + f = k → (∀ (x2 x3 : Value), lx_X1_begin 298 (tf_Cd 298 d) Q 109 [.ref b, .int warm, .int 0, x3] [] (nt_ba b warm f a h)) → lx_X1_begin 298 (tf_Cd 298 d) Q 2 [.ref b, .int warm, .int (nI a), x3] [] h
  | 0, a, h, x3, H, ha, q => by
    have hb := H.2.1
    refine go_X1_begin_2 (by decide) H.1 ⟨fun _ => go_X1_begin_107 (by decide) H.1 (q x3 x3), fun c => absurd ?_ c⟩
    rw [H.2.2.2.1]
    exact nI_le (by omega) (by omega)
  | f + 1, a, h, x3, H, ha, q => sx_b1 H (by omega) (fun x3 => sx_baL f (a + 1) _ x3 (H.b1 warm a) (by omega) q)
theorem sx_hsL {n k : Nat} {warm : Int32} {Q : tf_Q} : ∀ (f p : Nat) (h : LH) (x3 : Value), NO h b n k → p + f = n → Q tf_z (nt_tick (nt_prs (nt_hs b k f p h) b n) b) → lx_X1_begin 298 (tf_Cd 298 (d + 1)) Q 109 [.ref b, .int warm, .int (nI p), x3] [] h
  | 0, p, h, x3, H, hp, q => by
    have hb := H.2.1
    refine go_X1_begin_109 (by decide) H.1 ⟨fun _ => go_X1_begin_128 (by decide) H.1 (sx_prs H _ (go_X1_begin_132 (by decide) H.1 q)), fun c => absurd ?_ c⟩
    rw [H.2.2.1]
    exact nI_le (by omega) (by omega)
  | f + 1, p, h, x3, H, hp, q => by
    have hb := H.2.1
    refine go_X1_begin_109 (by decide) H.1 ⟨fun c => ?_, fun _ => sx_h1 H (by omega) _ (go_X1_begin_122 (by decide) H.1 ?_)⟩
    · rw [H.2.2.1] at c
      exact absurd c (nI_ge (by omega) (by omega))
    · rw [nI_1]
      exact sx_hsL f (p + 1) _ x3 (H.h1 (by omega)) (by omega) q
theorem sx_beg {n k : Nat} (H : NO h b n k) (warm : Int32) : tf_Rt (d + 2) 128 [.ref b, .int warm] h tf_z (nt_beg h b n k warm) := by
  intro Q q
  have hb := H.2.1
  refine en_X1_begin (by decide) H.1 (go_X1_begin_0 (by decide) H.1 ?_)
  refine sx_baL k 0 h _ H (by omega) (fun x2 x3 => ?_)
  exact sx_hsL n 0 _ x3 (NO.ba warm k 0 h H) (by omega) q
/-! acts -/
def nt_isR (x : Int32) : Bool := !decide (x < 0) && !decide ((2 : Int32) < x)
theorem sx_isR (x : Int32) : tf_Rt (d + 1) 221 [.int x] h (.int (bI (nt_isR x))) h := by
  intro Q q
  refine en_X8_isRule (by decide) (go_X8_isRule_0 (by decide) ⟨fun c => go_X8_isRule_13 (by decide) (go_X8_isRule_14 (by decide) ⟨rfl, ?_⟩), fun c => ⟨fun c2 => go_X8_isRule_13 (by decide) (go_X8_isRule_14 (by decide) ⟨rfl, ?_⟩), fun c2 => go_X8_isRule_14 (by decide) ⟨rfl, ?_⟩⟩⟩)
  · simpa [nt_isR, c, bI] using q
  · simpa [nt_isR, c, c2, bI] using q
  · simpa [nt_isR, c, c2, bI] using q
theorem sx_setRule (K : tf_K b = 0) (x : Int32) : tf_Rt (d + 2) 123 [.ref b, .int x] h (.int (bI (nt_isR x))) (if nt_isR x = true then w1 h b 2 x else h) := by
  intro Q q
  refine en_X1_setRule (by decide) K (go_X1_setRule_0 (by decide) K (sx_isR x _ (go_X1_setRule_4 (by decide) K ⟨fun e => ?_, fun e => go_X1_setRule_9 (by decide) K ?_⟩)))
  · rw [bI_0] at e
    simpa [e, bI] using q
  · rw [bI_0, Bool.not_eq_false] at e
    simpa [e, bI] using q
def nt_told8 (x : Int32) : Int32 := if 14 ≤ x then (100 + x) - 14 else x
theorem sx_toldEdge (x : Int32) : tf_Rt (d + 1) 220 [.int x] h (.int (nt_told8 x)) h := by
  intro Q q
  refine en_X8_toldEdge (by decide) (go_X8_toldEdge_0 (by decide) ⟨fun c => go_X8_toldEdge_10 (by decide) (go_X8_toldEdge_17 (by decide) ?_), fun c => go_X8_toldEdge_17 (by decide) ?_⟩)
  · simpa only [nt_told8, c, if_true] using q
  · simpa only [nt_told8, c, if_false] using q
theorem hp_vi {n : Nat} {x : Int32} (hn : h.1 b 0 = nI n) (hn7 : n ≤ 7) (hx : nt_hasPt h b x = true) : vp_in x n := by
  simp only [nt_hasPt, Bool.and_eq_true, Bool.not_eq_true', decide_eq_false_iff_not, hn] at hx
  obtain ⟨h0, h1⟩ := hx
  obtain ⟨j, hj, e⟩ := nI_of h0
  subst e
  have : j < n := by
    rcases Nat.lt_or_ge j n with z | z
    · exact z
    · exact absurd (nI_le z hj) h1
  exact vi_of this (by omega)
theorem ha_vi {k : Nat} {x : Int32} (hk : h.1 b 1 = nI k) (hk14 : k ≤ 14) (hx : nt_hasArc h b x = true) : vp_in x k := by
  simp only [nt_hasArc, Bool.and_eq_true, Bool.not_eq_true', decide_eq_false_iff_not, hk] at hx
  obtain ⟨h0, h1⟩ := hx
  obtain ⟨j, hj, e⟩ := nI_of h0
  subst e
  have : j < k := by
    rcases Nat.lt_or_ge j k with z | z
    · exact z
    · exact absurd (nI_le z hj) h1
  exact vi_of this (by omega)
def nt_canMove (h : LH) (b : Nat) (x y m : Int32) : Bool := nt_two h b x y && (!decide (m < 1) && (decide (m ≤ 99) && (!decide ((99 : Int32) < h.1 (b + 1) x.toNatClampNeg + m) && decide ((-99 : Int32) ≤ h.1 (b + 1) y.toNatClampNeg - m))))
def nt_mv (h : LH) (b : Nat) (x y m : Int32) : LH := w1 (w1 h (b + 1) x.toNatClampNeg (h.1 (b + 1) x.toNatClampNeg + m)) (b + 1) y.toNatClampNeg ((w1 h (b + 1) x.toNatClampNeg (h.1 (b + 1) x.toNatClampNeg + m)).1 (b + 1) y.toNatClampNeg - m)
theorem NO.mv {n k : Nat} (H : NO h b n k) (x y m : Int32) : NO (nt_mv h b x y m) b n k := (H.w (by omega) (by omega) (by omega) (by omega) (by omega)).w (by omega) (by omega) (by omega) (by omega) (by omega)
theorem sx_move {n k : Nat} (H : NO h b n k) (x y m : Int32) : tf_Rt (d + 3) 124 [.ref b, .int x, .int y, .int m] h (.int (bI (nt_canMove h b x y m))) (if nt_canMove h b x y m = true then nt_beg (nt_mv h b x y m) b n k 1 else h) := by
  intro Q q
  have K := H.1
  have hb := H.2.1
  have k20 : nt_canMove h b x y m = false → lx_X1_moveSupply 298 (tf_Cd 298 (d + 2)) Q 20 [.ref b, .int x, .int y, .int m] [] h := fun e => go_X1_moveSupply_20 (by decide) K (by simpa [e, bI] using q)
  have k48 : nt_canMove h b x y m = false → lx_X1_moveSupply 298 (tf_Cd 298 (d + 2)) Q 48 [.ref b, .int x, .int y, .int m] [] h := fun e => go_X1_moveSupply_48 (by decide) K (by simpa [e, bI] using q)
  refine en_X1_moveSupply (by decide) K (go_X1_moveSupply_0 (by decide) K (sx_two K x y _ (go_X1_moveSupply_6 (by decide) K ⟨fun e => k20 ?_, fun e => ⟨fun c => k20 ?_, fun c => ⟨fun c2 => ?_, fun c2 => k20 ?_⟩⟩⟩)))
  · rw [bI_0] at e
    simp [nt_canMove, e]
  · simp [nt_canMove, c]
  · rw [bI_0, Bool.not_eq_false] at e
    have ex : nt_hasPt h b x = true := by
      simp only [nt_two, Bool.and_eq_true] at e
      exact e.1
    have ey : nt_hasPt h b y = true := by
      simp only [nt_two, Bool.and_eq_true] at e
      exact e.2.1
    have vx : vp_in x 7 := vi_mono (hp_vi H.2.2.1 (by omega) ex) (by omega)
    have vy : vp_in y 7 := vi_mono (hp_vi H.2.2.1 (by omega) ey) (by omega)
    refine go_X1_moveSupply_22 (by decide) K ⟨vx, fun c3 => k48 ?_, fun c3 => ⟨vy, fun c4 => go_X1_moveSupply_50 (by decide) K ⟨vx, vx, vy, vy, ?_⟩, fun c4 => k48 ?_⟩⟩
    · simp [nt_canMove, c3]
    · have ec : nt_canMove h b x y m = true := by simp [nt_canMove, e, c, c2, c3, c4]
      rw [if_pos ec, ec] at q
      exact sx_beg (H.mv x y m) 1 _ (go_X1_moveSupply_75 (by decide) K q)
    · simp [nt_canMove, c4]
  · simp [nt_canMove, c2]
def nt_canOpen (h : LH) (b : Nat) (a o : Int32) : Bool := nt_hasArc h b a && !decide ((if h.1 (b + 7) a.toNatClampNeg = 3 then (0 : Int32) else 1) = o)
def nt_op (h : LH) (b : Nat) (a o : Int32) : LH := w1 h (b + 7) a.toNatClampNeg (if o = 0 then 3 else 0)
theorem sx_open {n k : Nat} (H : NO h b n k) (a o : Int32) : tf_Rt (d + 3) 125 [.ref b, .int a, .int o] h (.int (bI (nt_canOpen h b a o))) (if nt_canOpen h b a o = true then nt_beg (nt_op h b a o) b n k 1 else h) := by
  intro Q q
  have K := H.1
  have hb := H.2.1
  obtain ⟨hb2, ⟨K2, N2⟩, ⟨K3, N3⟩, ⟨K6, N6⟩, K7, N7⟩ := nt_KN K
  have k27 : nt_canOpen h b a o = false → lx_X1_setOpen 298 (tf_Cd 298 (d + 2)) Q 27 [.ref b, .int a, .int o] [] h := fun e => go_X1_setOpen_27 (by decide) K (by simpa [e, bI] using q)
  refine en_X1_setOpen (by decide) K (go_X1_setOpen_0 (by decide) K (sx_hasArc K a _ (go_X1_setOpen_5 (by decide) K ⟨fun e => k27 ?_, fun e => ?_⟩)))
  · rw [bI_0] at e
    simp [nt_canOpen, e]
  · rw [bI_0, Bool.not_eq_false] at e
    have va : vp_in a 21 := vi_mono (ha_vi H.2.2.2.1 (by omega) e) (by omega)
    have k29 : nt_canOpen h b a o = true → lx_X1_setOpen 298 (tf_Cd 298 (d + 2)) Q 29 [.ref b, .int a, .int o] [] h := by
      intro ec
      rw [if_pos ec, ec] at q
      have HO : NO (nt_op h b a o) b n k := H.w (by omega) (by omega) (by omega) (by omega) (by omega)
      refine go_X1_setOpen_29 (by decide) K ⟨fun c => go_X1_setOpen_42 (by decide) K K7 N7 (by omega) (go_X1_setOpen_43 (by decide) K K7 N7 (by omega) ⟨va, ?_⟩), fun c => go_X1_setOpen_43 (by decide) K K7 N7 (by omega) ⟨va, ?_⟩⟩
      · unfold nt_op at q HO
        rw [if_pos c] at q HO
        exact sx_beg HO 1 _ (go_X1_setOpen_49 (by decide) K q)
      · unfold nt_op at q HO
        rw [if_neg c] at q HO
        exact sx_beg HO 1 _ (go_X1_setOpen_49 (by decide) K q)
    have k23 : ∀ y : Int32, y = (if h.1 (b + 7) a.toNatClampNeg = 3 then (0 : Int32) else 1) → lx_X1_setOpen 298 (tf_Cd 298 (d + 2)) Q 23 [.ref b, .int a, .int o] [.int y] h := by
      intro y hy
      refine go_X1_setOpen_23 (by decide) K ⟨fun c => k27 ?_, fun c => k29 ?_⟩
      · rw [hy] at c
        simp [nt_canOpen, c]
      · rw [hy] at c
        simp [nt_canOpen, e, c]
    exact ⟨va, fun c => go_X1_setOpen_22 (by decide) K (k23 0 (by rw [if_pos c])), fun c => k23 1 (by rw [if_neg c])⟩
def nt_canB (h : LH) (b : Nat) (a v : Int32) : Bool := nt_hasArc h b a && (!decide (v < 0) && (!decide ((99 : Int32) < v) && !decide (v = h.1 (b + 4) a.toNatClampNeg)))
theorem sx_bound {n k : Nat} (H : NO h b n k) (a v : Int32) : tf_Rt (d + 3) 126 [.ref b, .int a, .int v] h (.int (bI (nt_canB h b a v))) (if nt_canB h b a v = true then nt_beg (w1 h (b + 4) a.toNatClampNeg v) b n k 1 else h) := by
  intro Q q
  have K := H.1
  have hb := H.2.1
  have k28 : nt_canB h b a v = false → lx_X1_setBound 298 (tf_Cd 298 (d + 2)) Q 28 [.ref b, .int a, .int v] [] h := fun e => go_X1_setBound_28 (by decide) K (by simpa [e, bI] using q)
  refine en_X1_setBound (by decide) K (go_X1_setBound_0 (by decide) K (sx_hasArc K a _ (go_X1_setBound_5 (by decide) K ⟨fun e => k28 ?_, fun e => ⟨fun c => k28 ?_, fun c => ⟨fun c2 => k28 ?_, fun c2 => ?_⟩⟩⟩)))
  · rw [bI_0] at e
    simp [nt_canB, e]
  · simp [nt_canB, c]
  · simp [nt_canB, c2]
  · rw [bI_0, Bool.not_eq_false] at e
    have va : vp_in a 21 := vi_mono (ha_vi H.2.2.2.1 (by omega) e) (by omega)
    refine ⟨va, fun c3 => k28 ?_, fun c3 => go_X1_setBound_30 (by decide) K ⟨va, ?_⟩⟩
    · simp [nt_canB, c3]
    · have ec : nt_canB h b a v = true := by simp [nt_canB, e, c, c2, c3]
      rw [if_pos ec, ec] at q
      exact sx_beg (H.w (by omega) (by omega) (by omega) (by omega) (by omega)) 1 _ (go_X1_setBound_42 (by decide) K q)
def nt_canC (h : LH) (b : Nat) (a v : Int32) : Bool := nt_hasArc h b a && (!decide (v < -99) && (!decide ((99 : Int32) < v) && !decide (v = h.1 (b + 5) a.toNatClampNeg)))
theorem sx_cost {n k : Nat} (H : NO h b n k) (a v : Int32) : tf_Rt (d + 2) 127 [.ref b, .int a, .int v] h (.int (bI (nt_canC h b a v))) (if nt_canC h b a v = true then nt_prs (w1 h (b + 5) a.toNatClampNeg v) b n else h) := by
  intro Q q
  have K := H.1
  have hb := H.2.1
  have k30 : nt_canC h b a v = false → lx_X1_setCost 298 (tf_Cd 298 (d + 1)) Q 30 [.ref b, .int a, .int v] [] h := fun e => go_X1_setCost_30 (by decide) K (by simpa [e, bI] using q)
  refine en_X1_setCost (by decide) K (go_X1_setCost_0 (by decide) K (sx_hasArc K a _ (go_X1_setCost_5 (by decide) K ⟨fun e => k30 ?_, fun e => ⟨fun c => k30 ?_, fun c => ⟨fun c2 => k30 ?_, fun c2 => ?_⟩⟩⟩)))
  · rw [bI_0] at e
    simp [nt_canC, e]
  · simp [nt_canC, c]
  · simp [nt_canC, c2]
  · rw [bI_0, Bool.not_eq_false] at e
    have va : vp_in a 21 := vi_mono (ha_vi H.2.2.2.1 (by omega) e) (by omega)
    refine ⟨va, fun c3 => k30 ?_, fun c3 => go_X1_setCost_32 (by decide) K ⟨va, ?_⟩⟩
    · simp [nt_canC, c3]
    · have ec : nt_canC h b a v = true := by simp [nt_canC, e, c, c2, c3]
      rw [if_pos ec, ec] at q
      exact sx_prs (H.w (by omega) (by omega) (by omega) (by omega) (by omega)) _ (go_X1_setCost_43 (by decide) K q)
end NT4
