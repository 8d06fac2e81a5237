/-! ===== the class's grid: sets of points, slopes, the tree rehung, tallies ===== -/
section NT5
variable {h : LH} {b d : Nat}
def jb (x0 : Int32) : Int32 := (((((((x0 - ((((x0 : Int32).toUInt32 >>> ((1 : Int32).toUInt32 &&& Int32.toUInt32 31)).toInt32) &&& 1431655765)) &&& 858993459) + ((((x0 - ((((x0 : Int32).toUInt32 >>> ((1 : Int32).toUInt32 &&& Int32.toUInt32 31)).toInt32) &&& 1431655765) : Int32).toUInt32 >>> ((2 : Int32).toUInt32 &&& Int32.toUInt32 31)).toInt32) &&& 858993459)) + (((((x0 - ((((x0 : Int32).toUInt32 >>> ((1 : Int32).toUInt32 &&& Int32.toUInt32 31)).toInt32) &&& 1431655765)) &&& 858993459) + ((((x0 - ((((x0 : Int32).toUInt32 >>> ((1 : Int32).toUInt32 &&& Int32.toUInt32 31)).toInt32) &&& 1431655765) : Int32).toUInt32 >>> ((2 : Int32).toUInt32 &&& Int32.toUInt32 31)).toInt32) &&& 858993459) : Int32).toUInt32 >>> ((4 : Int32).toUInt32 &&& Int32.toUInt32 31)).toInt32)) &&& 252645135) + (((((((x0 - ((((x0 : Int32).toUInt32 >>> ((1 : Int32).toUInt32 &&& Int32.toUInt32 31)).toInt32) &&& 1431655765)) &&& 858993459) + ((((x0 - ((((x0 : Int32).toUInt32 >>> ((1 : Int32).toUInt32 &&& Int32.toUInt32 31)).toInt32) &&& 1431655765) : Int32).toUInt32 >>> ((2 : Int32).toUInt32 &&& Int32.toUInt32 31)).toInt32) &&& 858993459)) + (((((x0 - ((((x0 : Int32).toUInt32 >>> ((1 : Int32).toUInt32 &&& Int32.toUInt32 31)).toInt32) &&& 1431655765)) &&& 858993459) + ((((x0 - ((((x0 : Int32).toUInt32 >>> ((1 : Int32).toUInt32 &&& Int32.toUInt32 31)).toInt32) &&& 1431655765) : Int32).toUInt32 >>> ((2 : Int32).toUInt32 &&& Int32.toUInt32 31)).toInt32) &&& 858993459) : Int32).toUInt32 >>> ((4 : Int32).toUInt32 &&& Int32.toUInt32 31)).toInt32)) &&& 252645135 : Int32).toUInt32 >>> ((8 : Int32).toUInt32 &&& Int32.toUInt32 31)).toInt32)) + ((((((((x0 - ((((x0 : Int32).toUInt32 >>> ((1 : Int32).toUInt32 &&& Int32.toUInt32 31)).toInt32) &&& 1431655765)) &&& 858993459) + ((((x0 - ((((x0 : Int32).toUInt32 >>> ((1 : Int32).toUInt32 &&& Int32.toUInt32 31)).toInt32) &&& 1431655765) : Int32).toUInt32 >>> ((2 : Int32).toUInt32 &&& Int32.toUInt32 31)).toInt32) &&& 858993459)) + (((((x0 - ((((x0 : Int32).toUInt32 >>> ((1 : Int32).toUInt32 &&& Int32.toUInt32 31)).toInt32) &&& 1431655765)) &&& 858993459) + ((((x0 - ((((x0 : Int32).toUInt32 >>> ((1 : Int32).toUInt32 &&& Int32.toUInt32 31)).toInt32) &&& 1431655765) : Int32).toUInt32 >>> ((2 : Int32).toUInt32 &&& Int32.toUInt32 31)).toInt32) &&& 858993459) : Int32).toUInt32 >>> ((4 : Int32).toUInt32 &&& Int32.toUInt32 31)).toInt32)) &&& 252645135) + (((((((x0 - ((((x0 : Int32).toUInt32 >>> ((1 : Int32).toUInt32 &&& Int32.toUInt32 31)).toInt32) &&& 1431655765)) &&& 858993459) + ((((x0 - ((((x0 : Int32).toUInt32 >>> ((1 : Int32).toUInt32 &&& Int32.toUInt32 31)).toInt32) &&& 1431655765) : Int32).toUInt32 >>> ((2 : Int32).toUInt32 &&& Int32.toUInt32 31)).toInt32) &&& 858993459)) + (((((x0 - ((((x0 : Int32).toUInt32 >>> ((1 : Int32).toUInt32 &&& Int32.toUInt32 31)).toInt32) &&& 1431655765)) &&& 858993459) + ((((x0 - ((((x0 : Int32).toUInt32 >>> ((1 : Int32).toUInt32 &&& Int32.toUInt32 31)).toInt32) &&& 1431655765) : Int32).toUInt32 >>> ((2 : Int32).toUInt32 &&& Int32.toUInt32 31)).toInt32) &&& 858993459) : Int32).toUInt32 >>> ((4 : Int32).toUInt32 &&& Int32.toUInt32 31)).toInt32)) &&& 252645135 : Int32).toUInt32 >>> ((8 : Int32).toUInt32 &&& Int32.toUInt32 31)).toInt32) : Int32).toUInt32 >>> ((16 : Int32).toUInt32 &&& Int32.toUInt32 31)).toInt32)) &&& 63
theorem sx_bit (x : Int32) : tf_Rt (d + 1) 243 [.int x] h (.int (jb x)) h := fun _ q => en_J6_bitCount_0f7a4 (go_J6_bitCount_0f7a4_0 q)
def nt_sh1 (h : LH) (b : Nat) (s : Int32) : Nat → Nat → Int32 → Int32
  | 0, _, r => r
  | f + 1, p, r => nt_sh1 h b s f (p + 1) (if ((s >>> (nI p &&& 31)) &&& 1) = 1 then r + h.1 (b + 1) p else r)
def nt_sh2 (h : LH) (b : Nat) (s : Int32) : Nat → Nat → Int32 → Int32
  | 0, _, r => r
  | f + 1, a, r => nt_sh2 h b s f (a + 1) (if h.1 (b + 7) a = 3 then r else if ((s >>> (h.1 (b + 2) a &&& 31)) &&& 1) = 1 then (if ((s >>> (h.1 (b + 3) a &&& 31)) &&& 1) = 0 then r - h.1 (b + 4) a else r) else r)
def nt_short (h : LH) (b n k : Nat) (s : Int32) : Int32 := nt_sh2 h b s k 0 (nt_sh1 h b s n 0 0)
theorem sx_sh2L {n k : Nat} (H : NO h b n k) {s : Int32} {Q : tf_Q} : ∀ (f a : Nat) (r : Int32), a + f = k → Q (.int (nt_sh2 h b s f a r)) h → lx_X1_shortOf 298 (tf_Cd 298 d) Q 38 [.ref b, .int s, .int r, .int (nI a)] [] h
  | 0, a, r, ha, q => by
    have hb := H.2.1
    refine go_X1_shortOf_38 (by decide) H.1 ⟨fun _ => go_X1_shortOf_98 (by decide) H.1 q, fun c => absurd ?_ c⟩
    rw [H.2.2.2.1]
    exact nI_le (by omega) (by omega)
  | f + 1, a, r, ha, q => by
    have hb := H.2.1
    have hi : vp_in (nI a) 21 := vi_of (by omega) (by omega)
    have hcl : (nI a).toNatClampNeg = a := nI_clamp (by omega)
    have k92 : ∀ r2 : Int32, Q (.int (nt_sh2 h b s f (a + 1) r2)) h → lx_X1_shortOf 298 (tf_Cd 298 d) Q 92 [.ref b, .int s, .int r2, .int (nI a)] [] h := fun r2 q2 => go_X1_shortOf_92 (by decide) H.1 (by rw [nI_1]; exact sx_sh2L H f (a + 1) r2 (by omega) q2)
    rw [nt_sh2] at q
    refine go_X1_shortOf_38 (by decide) H.1 ⟨fun c => ?_, fun _ => ⟨hi, fun c => k92 _ ?_, fun c => ⟨hi, fun c2 => ⟨hi, fun c3 => ⟨hi, k92 _ ?_⟩, fun c3 => k92 _ ?_⟩, fun c2 => k92 _ ?_⟩⟩⟩
    · rw [H.2.2.2.1] at c
      exact absurd c (nI_ge (by omega) (by omega))
    · rw [hcl] at c
      rw [if_pos c] at q
      exact q
    · rw [hcl] at c c2 c3 ⊢
      rw [if_neg c, if_pos c2, if_pos c3] at q
      exact q
    · rw [hcl] at c c2 c3
      rw [if_neg c, if_pos c2, if_neg c3] at q
      exact q
    · rw [hcl] at c c2
      rw [if_neg c, if_neg c2] at q
      exact q
theorem sx_sh1L {n k : Nat} (H : NO h b n k) {s : Int32} {Q : tf_Q} : ∀ (f p : Nat) (r : Int32), p + f = n → Q (.int (nt_sh2 h b s k 0 (nt_sh1 h b s f p r))) h → lx_X1_shortOf 298 (tf_Cd 298 d) Q 4 [.ref b, .int s, .int r, .int (nI p)] [] h
  | 0, p, r, hp, q => by
    have hb := H.2.1
    refine go_X1_shortOf_4 (by decide) H.1 ⟨fun _ => go_X1_shortOf_36 (by decide) H.1 (sx_sh2L H k 0 r (by omega) q), fun c => absurd ?_ c⟩
    rw [H.2.2.1]
    exact nI_le (by omega) (by omega)
  | f + 1, p, r, hp, q => by
    have hb := H.2.1
    have hcl : (nI p).toNatClampNeg = p := nI_clamp (by omega)
    rw [nt_sh1] at q
    refine go_X1_shortOf_4 (by decide) H.1 ⟨fun c => ?_, fun _ => ⟨fun c => ⟨vi_of (by omega) (by omega), go_X1_shortOf_30 (by decide) H.1 ?_⟩, fun c => go_X1_shortOf_30 (by decide) H.1 ?_⟩⟩
    · rw [H.2.2.1] at c
      exact absurd c (nI_ge (by omega) (by omega))
    · rw [if_pos c] at q
      rw [hcl, nI_1]
      exact sx_sh1L H f (p + 1) _ (by omega) q
    · rw [if_neg c] at q
      rw [nI_1]
      exact sx_sh1L H f (p + 1) _ (by omega) q
theorem sx_short {n k : Nat} (H : NO h b n k) (s : Int32) : tf_Rt (d + 1) 150 [.ref b, .int s] h (.int (nt_short h b n k s)) h :=
  fun _ q => en_X1_shortOf (by decide) H.1 (go_X1_shortOf_0 (by decide) H.1 (sx_sh1L H n 0 0 (by have := H.2.1; omega) q))
/-- the worst set from the i-th on -/
def nt_ws (h : LH) (b n k : Nat) : Nat → Nat → Int32 → Int32 → Int32
  | 0, _, w, _ => w
  | f + 1, i, w, m =>
    if m < nt_short h b n k (nI i) then nt_ws h b n k f (i + 1) (nI i) (nt_short h b n k (nI i))
    else if nt_short h b n k (nI i) = m then (if jb w ≤ jb (nI i) then nt_ws h b n k f (i + 1) w m else nt_ws h b n k f (i + 1) (nI i) (nt_short h b n k (nI i))) else nt_ws h b n k f (i + 1) w m
theorem nt_shl : ∀ n, n ≤ 7 → ((1 : Int32) <<< (nI n &&& 31)) = nI (2 ^ n) := by decide +kernel
theorem nt_pw {n : Nat} (hn : n ≤ 7) : 2 ^ n ≤ 128 ∧ 1 ≤ 2 ^ n := (by decide : ∀ n, n ≤ 7 → 2 ^ n ≤ 128 ∧ 1 ≤ 2 ^ n) n hn
theorem sx_wsL {n k : Nat} (H : NO h b n k) {Q : tf_Q} : ∀ (f i : Nat) (w m : Int32) (x4 x5 : Value), i + f = 2 ^ n → Q (.int (nt_ws h b n k f i w m)) h → lx_X1_worstSet 298 (tf_Cd 298 (d + 1)) Q 6 [.ref b, .int w, .int m, .int (nI i), x4, x5] [] h
  | 0, i, w, m, x4, x5, hi, q => by
    have hb := H.2.1
    have hp := nt_pw hb.2.1
    refine go_X1_worstSet_6 (by decide) H.1 ⟨fun _ => go_X1_worstSet_69 (by decide) H.1 q, fun c => absurd ?_ c⟩
    rw [H.2.2.1, nt_shl n hb.2.1]
    exact nI_le (by omega) (by omega)
  | f + 1, i, w, m, x4, x5, hi, q => by
    have hb := H.2.1
    have hp := nt_pw hb.2.1
    have k63 : ∀ (w m x4 x5 : Int32), Q (.int (nt_ws h b n k f (i + 1) w m)) h → lx_X1_worstSet 298 (tf_Cd 298 (d + 1)) Q 63 [.ref b, .int w, .int m, .int (nI i), .int x4, .int x5] [] h := fun w m x4 x5 q2 => go_X1_worstSet_63 (by decide) H.1 (by rw [nI_1]; exact sx_wsL H f (i + 1) w m _ _ (by omega) q2)
    rw [nt_ws] at q
    have k39 : ∀ (y : Int32) (x5 : Value), (y = 0 ↔ jb w ≤ jb (nI i)) → lx_X1_worstSet 298 (tf_Cd 298 (d + 1)) Q 39 [.ref b, .int w, .int m, .int (nI i), .int (nt_short h b n k (nI i)), x5] [.int y] h := by
      intro y x5 hy
      refine go_X1_worstSet_39 (by decide) H.1 ⟨fun c => go_X1_worstSet_58 (by decide) H.1 (k63 _ _ _ _ ?_), fun c => ⟨fun c2 => ⟨fun c3 => k63 _ _ _ _ ?_, fun c3 => go_X1_worstSet_58 (by decide) H.1 (k63 _ _ _ _ ?_)⟩, fun c2 => k63 _ _ _ _ ?_⟩⟩
      · rw [if_pos c] at q
        exact q
      · rw [if_neg c, if_pos c2, if_pos (hy.mp c3)] at q
        exact q
      · rw [if_neg c, if_pos c2, if_neg (fun z => c3 (hy.mpr z))] at q
        exact q
      · rw [if_neg c, if_neg c2] at q
        exact q
    refine go_X1_worstSet_6 (by decide) H.1 ⟨fun c => ?_, fun _ => sx_short H (nI i) _ (go_X1_worstSet_21 (by decide) H.1 (sx_bit (nI i) _ (go_X1_worstSet_27 (by decide) H.1 (sx_bit w _ (go_X1_worstSet_31 (by decide) H.1 ⟨fun c => go_X1_worstSet_38 (by decide) H.1 (k39 0 _ ⟨fun _ => c, fun _ => rfl⟩), fun c => k39 1 _ ⟨fun z => absurd z (by decide), fun z => absurd z c⟩⟩)))))⟩
    rw [H.2.2.1, nt_shl n hb.2.1] at c
    exact absurd c (nI_ge (by omega) (by omega))
theorem sx_ws {n k : Nat} (H : NO h b n k) : tf_Rt (d + 2) 151 [.ref b] h (.int (nt_ws h b n k (2 ^ n - 1) 1 0 0)) h :=
  fun _ q => en_X1_worstSet (by decide) H.1 (go_X1_worstSet_0 (by decide) H.1 (sx_wsL H (2 ^ n - 1) 1 0 0 _ _ (by have := nt_pw H.2.1.2.1; omega) q))
/-! slopes -/
def nt_slope (h : LH) (b n : Nat) (x y : Int32) : Int32 :=
  if h.1 (b + 7) x.toNatClampNeg = 2 then
    (if h.1 (b + 9) (h.1 (b + 3) x.toNatClampNeg).toNatClampNeg = x then bI (nt_onw h b (h.1 (b + 3) x.toNatClampNeg) n (h.1 (b + 2) y.toNatClampNeg)) - bI (nt_onw h b (h.1 (b + 3) x.toNatClampNeg) n (h.1 (b + 3) y.toNatClampNeg))
     else bI (nt_onw h b (h.1 (b + 2) x.toNatClampNeg) n (h.1 (b + 3) y.toNatClampNeg)) - bI (nt_onw h b (h.1 (b + 2) x.toNatClampNeg) n (h.1 (b + 2) y.toNatClampNeg)))
  else if x = y then 1 else 0
theorem sx_slope {n k : Nat} (H : NO h b n k) {x y : Int32} (hx : vp_in x 14) (hy : vp_in y 14) : tf_Rt (d + 2) 154 [.ref b, .int x, .int y] h (.int (nt_slope h b n x y)) h := by
  intro Q q
  obtain ⟨K, hb, h0, h1, hu, hue, ht, hh⟩ := id H
  obtain ⟨i, hi, ei⟩ := vi_nI hx
  obtain ⟨j, hj, ej⟩ := vi_nI hy
  have vx : vp_in x 21 := vi_mono hx (by omega)
  have vy : vp_in y 21 := vi_mono hy (by omega)
  have ci : x.toNatClampNeg = i := by rw [ei]; exact nI_clamp (by omega)
  have cj : y.toNatClampNeg = j := by rw [ej]; exact nI_clamp (by omega)
  have hty : vp_in (h.1 (b + 2) y.toNatClampNeg) 8 := by rw [cj]; exact vi_mono (ht j hj) (by omega)
  have hhy : vp_in (h.1 (b + 3) y.toNatClampNeg) 8 := by rw [cj]; exact vi_mono (hh j hj) (by omega)
  have hhx : vp_in (h.1 (b + 3) x.toNatClampNeg) 7 := by rw [ci]; exact hh i hi
  have k105 : ∀ (g s : Int32) (u v : Bool), Q (.int (if g = 0 then bI v - bI u else bI u - bI v)) h → lx_X1_slope 298 (tf_Cd 298 (d + 1)) Q 105 [.ref b, .int x, .int y, .int g, .int s, .int (bI u), tf_z] [.int (bI v)] h := by
    intro g s u v q2
    refine go_X1_slope_105 (by decide) K ⟨fun c => go_X1_slope_119 (by decide) K (go_X1_slope_124 (by decide) K ?_), fun c => go_X1_slope_124 (by decide) K ?_⟩
    · rw [if_pos c] at q2
      exact q2
    · rw [if_neg c] at q2
      exact q2
  have k61 : ∀ (g s : Int32), Q (.int (if g = 0 then bI (nt_onw h b s n (h.1 (b + 3) y.toNatClampNeg)) - bI (nt_onw h b s n (h.1 (b + 2) y.toNatClampNeg)) else bI (nt_onw h b s n (h.1 (b + 2) y.toNatClampNeg)) - bI (nt_onw h b s n (h.1 (b + 3) y.toNatClampNeg)))) h → lx_X1_slope 298 (tf_Cd 298 (d + 1)) Q 61 [.ref b, .int x, .int y, .int g, tf_z, tf_z, tf_z] [.int s] h := by
    intro g s q2
    refine go_X1_slope_61 (by decide) K ⟨vy, sx_onw K h0 hb.2.1 hu hty s _ ?_⟩
    have k83 : lx_X1_slope 298 (tf_Cd 298 (d + 1)) Q 83 [.ref b, .int x, .int y, .int g, .int s, tf_z, tf_z] [.int (bI (nt_onw h b s n (h.1 (b + 2) y.toNatClampNeg)))] h := by
      refine go_X1_slope_83 (by decide) K ⟨vy, sx_onw K h0 hb.2.1 hu hhy s _ ?_⟩
      have := k105 g s (nt_onw h b s n (h.1 (b + 2) y.toNatClampNeg)) (nt_onw h b s n (h.1 (b + 3) y.toNatClampNeg)) q2
      refine go_X1_slope_97 (by decide) K ⟨fun c => go_X1_slope_104 (by decide) K ?_, fun c => ?_⟩
      · rw [c] at this
        exact this
      · rw [bI_0, Bool.not_eq_false] at c
        rw [c] at this
        exact this
    refine go_X1_slope_75 (by decide) K ⟨fun c => go_X1_slope_82 (by decide) K ?_, fun c => ?_⟩
    · rw [c] at k83
      exact k83
    · rw [bI_0, Bool.not_eq_false] at c
      rw [c] at k83
      exact k83
  unfold nt_slope at q
  refine en_X1_slope (by decide) K (go_X1_slope_0 (by decide) K ⟨vx, fun c => go_X1_slope_21 (by decide) K ⟨vx, hhx, fun c2 => go_X1_slope_41 (by decide) K ⟨fun z => absurd z (by decide), fun z => ⟨vx, k61 1 _ ?_⟩⟩, fun c2 => go_X1_slope_40 (by decide) K (go_X1_slope_41 (by decide) K ⟨fun z => go_X1_slope_55 (by decide) K ⟨vx, k61 0 _ ?_⟩, fun z => absurd rfl z⟩)⟩, fun c => ⟨fun c2 => go_X1_slope_20 (by decide) K ?_, fun c2 => go_X1_slope_19 (by decide) K (go_X1_slope_20 (by decide) K ?_)⟩⟩)
  · rw [if_pos c, if_pos c2] at q
    rw [if_neg (by decide)]
    exact q
  · rw [if_pos c, if_neg c2] at q
    rw [if_pos rfl]
    exact q
  · rw [if_neg c, if_pos c2] at q
    exact q
  · rw [if_neg c, if_neg c2] at q
    exact q
def nt_sl0 (h : LH) (b n : Nat) (x : Int32) (a : Nat) : Int32 := if nt_may h b (nI a) = true then nt_slope h b n x (nI a) else 0
def nt_side (h : LH) (b : Nat) (s : Int32) (a : Nat) : Bool := decide ((if h.1 (b + 7) a = 0 then (1 : Int32) else 0) = (if s ≤ 0 then (0 : Int32) else 1))
def nt_low (h : LH) (b n : Nat) (x : Int32) : Nat → Nat → Int32 → Int32
  | 0, _, r => r
  | f + 1, a, r => nt_low h b n x f (a + 1) (if nt_sl0 h b n x a = 0 then r else if nt_side h b (nt_sl0 h b n x a) a = true then (if r < h.1 (b + 5) x.toNatClampNeg - nt_red h b (nI a) * nt_sl0 h b n x a then h.1 (b + 5) x.toNatClampNeg - nt_red h b (nI a) * nt_sl0 h b n x a else r) else r)
def nt_high (h : LH) (b n : Nat) (x : Int32) : Nat → Nat → Int32 → Int32
  | 0, _, r => r
  | f + 1, a, r => nt_high h b n x f (a + 1) (if nt_sl0 h b n x a = 0 then r else if nt_side h b (nt_sl0 h b n x a) a = true then r else (if h.1 (b + 5) x.toNatClampNeg - nt_red h b (nI a) * nt_sl0 h b n x a < r then h.1 (b + 5) x.toNatClampNeg - nt_red h b (nI a) * nt_sl0 h b n x a else r))
theorem sx_lowL {n k : Nat} (H : NO h b n k) {x : Int32} (hx : vp_in x 14) {Q : tf_Q} : ∀ (f a : Nat) (r : Int32) (x4 : Value), a + f = k → Q (.int (nt_low h b n x f a r)) h → lx_X1_lowestCost 298 (tf_Cd 298 (d + 2)) Q 5 [.ref b, .int x, .int r, .int (nI a), x4] [] h
  | 0, a, r, x4, ha, q => by
    have hb := H.2.1
    refine go_X1_lowestCost_5 (by decide) H.1 ⟨fun _ => go_X1_lowestCost_91 (by decide) H.1 q, fun c => absurd ?_ c⟩
    rw [H.2.2.2.1]
    exact nI_le (by omega) (by omega)
  | f + 1, a, r, x4, ha, q => by
    have hb := H.2.1
    have K := H.1
    have vi : vp_in (nI a) 21 := vi_of (by omega) (by omega)
    have v14 : vp_in (nI a) 14 := vi_of (by omega) (by omega)
    have vx : vp_in x 21 := vi_mono hx (by omega)
    have hcl : (nI a).toNatClampNeg = a := nI_clamp (by omega)
    have k85 : ∀ (r2 s : Int32), Q (.int (nt_low h b n x f (a + 1) r2)) h → lx_X1_lowestCost 298 (tf_Cd 298 (d + 2)) Q 85 [.ref b, .int x, .int r2, .int (nI a), .int s] [] h := fun r2 s q2 => go_X1_lowestCost_85 (by decide) K (by rw [nI_1]; exact sx_lowL H hx f (a + 1) r2 _ (by omega) q2)
    rw [nt_low] at q
    have k62 : ¬ nt_sl0 h b n x a = 0 → ∀ (u v : Int32), u = (if h.1 (b + 7) a = 0 then (1 : Int32) else 0) → v = (if nt_sl0 h b n x a ≤ 0 then (0 : Int32) else 1) → lx_X1_lowestCost 298 (tf_Cd 298 (d + 2)) Q 62 [.ref b, .int x, .int r, .int (nI a), .int (nt_sl0 h b n x a)] [.int v, .int u] h := by
      intro hs u v hu hv
      rw [if_neg hs] at q
      refine go_X1_lowestCost_62 (by decide) K ⟨fun c => ⟨vx, sx_red K (H.ends (by omega)) _ (go_X1_lowestCost_77 (by decide) K ?_)⟩, fun c => k85 _ _ ?_⟩
      · rw [tf_Cd_ext (by decide)]
        refine ⟨rfl, go_X1_lowestCost_84 (by decide) K (k85 _ _ ?_)⟩
        rw [if_pos (by rw [nt_side, ← hu, ← hv]; exact decide_eq_true c)] at q
        exact q
      · rw [if_neg (by rw [nt_side, ← hu, ← hv]; exact fun z => c (of_decide_eq_true z))] at q
        exact q
    have k52 : ¬ nt_sl0 h b n x a = 0 → ∀ u : Int32, u = (if h.1 (b + 7) a = 0 then (1 : Int32) else 0) → lx_X1_lowestCost 298 (tf_Cd 298 (d + 2)) Q 52 [.ref b, .int x, .int r, .int (nI a), .int (nt_sl0 h b n x a)] [.int u] h := fun hs u hu =>
      go_X1_lowestCost_52 (by decide) K ⟨fun c => go_X1_lowestCost_61 (by decide) K (k62 hs u 0 hu (by rw [if_pos c])), fun c => k62 hs u 1 hu (by rw [if_neg c])⟩
    have k31 : ∀ (s : Int32) (x4 : Value), s = nt_sl0 h b n x a → lx_X1_lowestCost 298 (tf_Cd 298 (d + 2)) Q 31 [.ref b, .int x, .int r, .int (nI a), x4] [.int s] h := by
      intro s x4 es
      subst es
      refine go_X1_lowestCost_31 (by decide) K ⟨fun c => k85 _ _ ?_, fun c => ⟨vi, fun c2 => k52 c 1 ?_, fun c2 => go_X1_lowestCost_51 (by decide) K (k52 c 0 ?_)⟩⟩
      · rw [if_pos c] at q
        exact q
      · rw [hcl] at c2
        rw [if_pos c2]
      · rw [hcl] at c2
        rw [if_neg c2]
    refine go_X1_lowestCost_5 (by decide) K ⟨fun c => ?_, fun _ => sx_may K vi _ (go_X1_lowestCost_18 (by decide) K ⟨fun c => go_X1_lowestCost_30 (by decide) K (k31 0 _ ?_), fun c => sx_slope H hx v14 _ (go_X1_lowestCost_27 (by decide) K (k31 _ _ ?_))⟩)⟩
    · rw [H.2.2.2.1] at c
      exact absurd c (nI_ge (by omega) (by omega))
    · rw [bI_0] at c
      rw [nt_sl0, c]
      rfl
    · rw [bI_0, Bool.not_eq_false] at c
      rw [nt_sl0, c]
      rfl
theorem sx_low {n k : Nat} (H : NO h b n k) {x : Int32} (hx : vp_in x 14) : tf_Rt (d + 3) 152 [.ref b, .int x] h (.int (nt_low h b n x k 0 (-99))) h :=
  fun _ q => en_X1_lowestCost (by decide) H.1 (go_X1_lowestCost_0 (by decide) H.1 (sx_lowL H hx k 0 (-99) _ (by have := H.2.1; omega) q))
theorem sx_highL {n k : Nat} (H : NO h b n k) {x : Int32} (hx : vp_in x 14) {Q : tf_Q} : ∀ (f a : Nat) (r : Int32) (x4 : Value), a + f = k → Q (.int (nt_high h b n x f a r)) h → lx_X1_highestCost 298 (tf_Cd 298 (d + 2)) Q 5 [.ref b, .int x, .int r, .int (nI a), x4] [] h
  | 0, a, r, x4, ha, q => by
    have hb := H.2.1
    refine go_X1_highestCost_5 (by decide) H.1 ⟨fun _ => go_X1_highestCost_91 (by decide) H.1 q, fun c => absurd ?_ c⟩
    rw [H.2.2.2.1]
    exact nI_le (by omega) (by omega)
  | f + 1, a, r, x4, ha, q => by
    have hb := H.2.1
    have K := H.1
    have vi : vp_in (nI a) 21 := vi_of (by omega) (by omega)
    have v14 : vp_in (nI a) 14 := vi_of (by omega) (by omega)
    have vx : vp_in x 21 := vi_mono hx (by omega)
    have hcl : (nI a).toNatClampNeg = a := nI_clamp (by omega)
    have k85 : ∀ (r2 s : Int32), Q (.int (nt_high h b n x f (a + 1) r2)) h → lx_X1_highestCost 298 (tf_Cd 298 (d + 2)) Q 85 [.ref b, .int x, .int r2, .int (nI a), .int s] [] h := fun r2 s q2 => go_X1_highestCost_85 (by decide) K (by rw [nI_1]; exact sx_highL H hx f (a + 1) r2 _ (by omega) q2)
    rw [nt_high] at q
    have k62 : ¬ nt_sl0 h b n x a = 0 → ∀ (u v : Int32), u = (if h.1 (b + 7) a = 0 then (1 : Int32) else 0) → v = (if nt_sl0 h b n x a ≤ 0 then (0 : Int32) else 1) → lx_X1_highestCost 298 (tf_Cd 298 (d + 2)) Q 62 [.ref b, .int x, .int r, .int (nI a), .int (nt_sl0 h b n x a)] [.int v, .int u] h := by
      intro hs u v hu hv
      rw [if_neg hs] at q
      refine go_X1_highestCost_62 (by decide) K ⟨fun c => k85 _ _ ?_, fun c => ⟨vx, sx_red K (H.ends (by omega)) _ (go_X1_highestCost_77 (by decide) K ?_)⟩⟩
      · rw [if_pos (by rw [nt_side, ← hu, ← hv]; exact decide_eq_true c)] at q
        exact q
      · rw [tf_Cd_ext (by decide)]
        refine ⟨rfl, go_X1_highestCost_84 (by decide) K (k85 _ _ ?_)⟩
        rw [if_neg (by rw [nt_side, ← hu, ← hv]; exact fun z => c (of_decide_eq_true z))] at q
        exact q
    have k52 : ¬ nt_sl0 h b n x a = 0 → ∀ u : Int32, u = (if h.1 (b + 7) a = 0 then (1 : Int32) else 0) → lx_X1_highestCost 298 (tf_Cd 298 (d + 2)) Q 52 [.ref b, .int x, .int r, .int (nI a), .int (nt_sl0 h b n x a)] [.int u] h := fun hs u hu =>
      go_X1_highestCost_52 (by decide) K ⟨fun c => go_X1_highestCost_61 (by decide) K (k62 hs u 0 hu (by rw [if_pos c])), fun c => k62 hs u 1 hu (by rw [if_neg c])⟩
    have k31 : ∀ (s : Int32) (x4 : Value), s = nt_sl0 h b n x a → lx_X1_highestCost 298 (tf_Cd 298 (d + 2)) Q 31 [.ref b, .int x, .int r, .int (nI a), x4] [.int s] h := by
      intro s x4 es
      subst es
      refine go_X1_highestCost_31 (by decide) K ⟨fun c => k85 _ _ ?_, fun c => ⟨vi, fun c2 => k52 c 1 ?_, fun c2 => go_X1_highestCost_51 (by decide) K (k52 c 0 ?_)⟩⟩
      · rw [if_pos c] at q
        exact q
      · rw [hcl] at c2
        rw [if_pos c2]
      · rw [hcl] at c2
        rw [if_neg c2]
    refine go_X1_highestCost_5 (by decide) K ⟨fun c => ?_, fun _ => sx_may K vi _ (go_X1_highestCost_18 (by decide) K ⟨fun c => go_X1_highestCost_30 (by decide) K (k31 0 _ ?_), fun c => sx_slope H hx v14 _ (go_X1_highestCost_27 (by decide) K (k31 _ _ ?_))⟩)⟩
    · rw [H.2.2.2.1] at c
      exact absurd c (nI_ge (by omega) (by omega))
    · rw [bI_0] at c
      rw [nt_sl0, c]
      rfl
    · rw [bI_0, Bool.not_eq_false] at c
      rw [nt_sl0, c]
      rfl
theorem sx_high {n k : Nat} (H : NO h b n k) {x : Int32} (hx : vp_in x 14) : tf_Rt (d + 3) 153 [.ref b, .int x] h (.int (nt_high h b n x k 0 99)) h :=
  fun _ q => en_X1_highestCost (by decide) H.1 (go_X1_highestCost_0 (by decide) H.1 (sx_highL H hx k 0 99 _ (by have := H.2.1; omega) q))
end NT5
