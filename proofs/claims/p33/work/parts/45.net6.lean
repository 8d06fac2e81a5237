/-! ===== the class's grid: the tree rehung, a new grid, tallies ===== -/
section NT6
variable {h : LH} {b d : Nat}
/-- the way up from a is turned round -/
def nt_rh (b : Nat) (goes : Int32) : Nat → Int32 → Int32 → Int32 → LH → LH
  | 0, _, _, _, h => h
  | f + 1, a, u, e, h => if a = 7 then h else if h.1 (b + 9) a.toNatClampNeg = goes then w1 (w1 h (b + 8) a.toNatClampNeg u) (b + 9) a.toNatClampNeg e else nt_rh b goes f (h.1 (b + 8) a.toNatClampNeg) a (h.1 (b + 9) a.toNatClampNeg) (w1 (w1 h (b + 8) a.toNatClampNeg u) (b + 9) a.toNatClampNeg e)
theorem NO.rh1 {n k : Nat} (H : NO h b n k) {i : Nat} {u e : Int32} (hu : vp_in u 8) (he : vp_in e 21) : NO (w1 (w1 h (b + 8) i u) (b + 9) i e) b n k :=
  (H.w (by omega) (by omega) (by omega) (fun _ => hu) (by omega)).w (by omega) (by omega) (by omega) (by omega) (fun _ => he)
theorem NO.rh {n k : Nat} {goes : Int32} : ∀ (f : Nat) (a u e : Int32) (h : LH), NO h b n k → vp_in a 8 → vp_in u 8 → vp_in e 21 → NO (nt_rh b goes f a u e h) b n k
  | 0, _, _, _, _, H, _, _, _ => H
  | f + 1, a, u, e, h, H, ha, hu, he => by
    unfold nt_rh
    split
    · exact H
    · rename_i c
      split
      · exact H.rh1 hu he
      · exact NO.rh f _ _ _ _ (H.rh1 hu he) (H.2.2.2.2.1.at ha c) ha (H.ue ha c)
theorem sx_rhL {n k : Nat} {goes x1 x2 x3 : Int32} {Q : tf_Q} : ∀ (f i : Nat) (a u e : Int32) (h : LH) (x9 x10 : Value), NO h b n k → i + f = n → vp_in a 8 → vp_in u 8 → vp_in e 21 → Q tf_z (nt_rh b goes f a u e h) → lx_X1_rehang 298 (tf_Cd 298 d) Q 12 [.ref b, .int x1, .int x2, .int x3, .int goes, .int a, .int u, .int e, .int (nI i), x9, x10] [] h
  | 0, i, a, u, e, h, x9, x10, H, hi, ha, hu, he, q => by
    have hb := H.2.1
    refine go_X1_rehang_12 (by decide) H.1 ⟨fun _ => go_X1_rehang_92 (by decide) H.1 q, fun c => absurd ?_ c⟩
    rw [H.2.2.1]
    exact nI_le (by omega) (by omega)
  | f + 1, i, a, u, e, h, x9, x10, H, hi, ha, hu, he, q => by
    have hb := H.2.1
    rw [nt_rh] at q
    refine go_X1_rehang_12 (by decide) H.1 ⟨fun c => ?_, fun _ => ⟨fun c => go_X1_rehang_92 (by decide) H.1 ?_, fun c => ⟨vi_7 ha c, vi_7 ha c, vi_7 ha c, vi_7 ha c, fun c2 => go_X1_rehang_92 (by decide) H.1 ?_, fun c2 => go_X1_rehang_74 (by decide) H.1 ?_⟩⟩⟩
    · rw [H.2.2.1] at c
      exact absurd c (nI_ge (by omega) (by omega))
    · rw [if_pos c] at q
      exact q
    · rw [if_neg c, if_pos c2] at q
      exact q
    · rw [if_neg c, if_neg c2] at q
      rw [nI_1]
      exact sx_rhL f (i + 1) _ _ _ _ _ _ (H.rh1 hu he) (by omega) (H.2.2.2.2.1.at ha c) ha (H.ue ha c) q
theorem sx_rh {n k : Nat} (H : NO h b n k) {a u e goes : Int32} (ha : vp_in a 8) (hu : vp_in u 8) (he : vp_in e 21) : tf_Rt (d + 1) 143 [.ref b, .int a, .int u, .int e, .int goes] h tf_z (nt_rh b goes n a u e h) :=
  fun _ q => en_X1_rehang (by decide) H.1 (go_X1_rehang_0 (by decide) H.1 (sx_rhL n 0 a u e h _ _ H (by omega) ha hu he q))
/-! a new grid -/
def nt_z7 (b : Nat) : Nat → Nat → LH → LH
  | 0, _, h => h
  | f + 1, p, h => nt_z7 b f (p + 1) (w1 h (b + 1) p 0)
def nt_clr (h : LH) (b : Nat) (x : Int32) : LH := nt_z7 b 7 0 (w1 (w1 (w1 h b 0 x) b 1 0) b 2 0)
theorem sx_z7L (K : tf_K b = 0) {x : Int32} {Q : tf_Q} : ∀ (f p : Nat) (h : LH), p + f = 7 → Q tf_z (nt_z7 b f p h) → lx_X1_clear 298 (tf_Cd 298 d) Q 17 [.ref b, .int x, .int (nI p)] [] h
  | 0, p, h, hp, q => go_X1_clear_17 (by decide) K ⟨fun _ => go_X1_clear_36 (by decide) K q, fun c => absurd (nI_le (a := 7) (b := p) (by omega) (by omega)) c⟩
  | f + 1, p, h, hp, q => by
    refine go_X1_clear_17 (by decide) K ⟨fun c => absurd c (nI_ge (a := p) (b := 7) (by omega) (by omega)), fun _ => ⟨vi_of (by omega) (by omega), ?_⟩⟩
    rw [nI_1, nI_clamp (by omega)]
    exact sx_z7L K f (p + 1) _ (by omega) q
theorem sx_clr (K : tf_K b = 0) (x : Int32) : tf_Rt (d + 1) 117 [.ref b, .int x] h tf_z (nt_clr h b x) :=
  fun _ q => en_X1_clear (by decide) K (go_X1_clear_0 (by decide) K (sx_z7L K 7 0 _ (by omega) q))
def nt_add (h : LH) (b k : Nat) (x1 x2 x3 x4 : Int32) : LH := w1 (w1 (w1 (w1 (w1 (w1 (w1 h (b + 2) k x1) (b + 3) k x2) (b + 4) k x3) (b + 5) k x4) (b + 6) k 0) (b + 7) k 0) b 1 (nI (k + 1))
theorem sx_add (K : tf_K b = 0) {k : Nat} (hk : h.1 b 1 = nI k) (hk14 : k ≤ 14) (x1 x2 x3 x4 : Int32) : tf_Rt (d + 1) 118 [.ref b, .int x1, .int x2, .int x3, .int x4] h tf_z (if k < 14 then nt_add h b k x1 x2 x3 x4 else h) := by
  intro Q q
  refine en_X1_addArc (by decide) K (go_X1_addArc_0 (by decide) K ⟨fun c => ?_, fun c => ?_⟩)
  · rw [hk] at c
    have c14 : k < 14 := (nI_ltI (a := k) (b := 14) (by omega) (by omega)).mp c
    rw [if_pos c14] at q
    have hi : vp_in (nI k) 21 := vi_of (by omega) (by omega)
    have hcl : (nI k).toNatClampNeg = k := nI_clamp (by omega)
    have e2 : ∀ (g : LH) (o i : Nat) (v : Int32), 0 < o → (tf_up g.1 (b + o) i v) b = g.1 b := fun g o i v ho => w1_ne (h := g) (by omega)
    have f1 : ∀ (v : Int32), (tf_up h.1 (b + 2) k v) b 1 = nI k := fun v => by rw [e2 h 2 k v (by omega)]; exact hk
    refine go_X1_addArc_10 (by decide) K ?_
    simp only [hk, hcl, f1]
    have f2 : ∀ (v w : Int32), (tf_up (tf_up h.1 (b + 2) k v) (b + 3) k w) b 1 = nI k := fun v w => by rw [e2 (w1 h (b + 2) k v) 3 k w (by omega)]; exact f1 v
    simp only [hcl, f2]
    have f3 : ∀ (v w x : Int32), (tf_up (tf_up (tf_up h.1 (b + 2) k v) (b + 3) k w) (b + 4) k x) b 1 = nI k := fun v w x => by rw [e2 (w1 (w1 h (b + 2) k v) (b + 3) k w) 4 k x (by omega)]; exact f2 v w
    simp only [hcl, f3]
    have f4 : ∀ (v w x y : Int32), (tf_up (tf_up (tf_up (tf_up h.1 (b + 2) k v) (b + 3) k w) (b + 4) k x) (b + 5) k y) b 1 = nI k := fun v w x y => by rw [e2 (w1 (w1 (w1 h (b + 2) k v) (b + 3) k w) (b + 4) k x) 5 k y (by omega)]; exact f3 v w x
    simp only [hcl, f4]
    have f5 : ∀ (v w x y z : Int32), (tf_up (tf_up (tf_up (tf_up (tf_up h.1 (b + 2) k v) (b + 3) k w) (b + 4) k x) (b + 5) k y) (b + 6) k z) b 1 = nI k := fun v w x y z => by rw [e2 (w1 (w1 (w1 (w1 h (b + 2) k v) (b + 3) k w) (b + 4) k x) (b + 5) k y) 6 k z (by omega)]; exact f4 v w x y
    simp only [hcl, f5]
    have f6 : ∀ (v w x y z u : Int32), (tf_up (tf_up (tf_up (tf_up (tf_up (tf_up h.1 (b + 2) k v) (b + 3) k w) (b + 4) k x) (b + 5) k y) (b + 6) k z) (b + 7) k u) b 1 = nI k := fun v w x y z u => by rw [e2 (w1 (w1 (w1 (w1 (w1 h (b + 2) k v) (b + 3) k w) (b + 4) k x) (b + 5) k y) (b + 6) k z) 7 k u (by omega)]; exact f5 v w x y z
    simp only [hcl, f6, nI_1]
    exact ⟨hi, hi, hi, hi, hi, hi, q⟩
  · rw [hk] at c
    have c14 : ¬ k < 14 := fun z => c (nI_lt (a := k) (b := 14) z (by omega))
    rw [if_neg c14] at q
    exact q
/-! tallies -/
def nt_tcl (h : LH) (t : Nat) : LH := w1 (w1 (w1 (w1 h t 0 0) t 1 0) t 2 0) t 3 (-1)
theorem sx_tcl {t : Nat} (K : tf_K t = 4) : tf_Rt (d + 1) 170 [.ref t] h tf_z (nt_tcl h t) := fun _ q => en_X5_clear (by decide) K (go_X5_clear_0 (by decide) K q)
def nt_tc0 (h : LH) (t m : Nat) (x y z : Int32) : LH := w1 (w1 (w1 (w1 h (t + 1) (m % 12) x) (t + 2) (m % 12) y) (t + 3) (m % 12) z) t 0 (nI (m + 1))
def nt_tc (h : LH) (t m : Nat) (x y z : Int32) : LH := w1 (if z = 0 then w1 (nt_tc0 h t m x y z) t 1 ((nt_tc0 h t m x y z).1 t 1 + 1) else nt_tc0 h t m x y z) t 3 x
theorem sx_tc {t m : Nat} (K : tf_K t = 4) (hm : h.1 t 0 = nI m) (hm2 : m < 2000000000) (x y z : Int32) : tf_Rt (d + 1) 172 [.ref t, .int x, .int y, .int z] h tf_z (nt_tc h t m x y z) := by
  intro Q q
  have e12 : nI m - nI m / 12 * 12 = nI (m % 12) := pk_rem (a := m) (d := 12) (by omega) (by omega) (by omega)
  have hr : m % 12 < 12 := Nat.mod_lt _ (by omega)
  have hi : vp_in (nI (m % 12)) 12 := vi_of hr (by omega)
  have hcl : (nI (m % 12)).toNatClampNeg = m % 12 := nI_clamp (by omega)
  have e3 : (tf_up (tf_up (tf_up h.1 (t + 1) (m % 12) x) (t + 2) (m % 12) y) (t + 3) (m % 12) z) t 0 = nI m := by
    have a1 : (w1 (w1 (w1 h (t + 1) (m % 12) x) (t + 2) (m % 12) y) (t + 3) (m % 12) z).1 t = h.1 t := by rw [w1_ne (by omega), w1_ne (by omega), w1_ne (by omega)]
    rw [← hm]
    exact congrFun a1 0
  refine en_X5_count (by decide) K (go_X5_count_0 (by decide) K ?_)
  simp only [hm, e12, hcl, e3, nI_1]
  refine ⟨hi, hi, hi, fun c => go_X5_count_57 (by decide) K ?_, fun c => go_X5_count_57 (by decide) K ?_⟩
  · rw [nt_tc, if_pos c] at q
    exact q
  · rw [nt_tc, if_neg c] at q
    exact q
def nt_ttold (h : LH) (t m : Nat) (x y : Int32) : Int32 :=
  if x < 0 then -1 else if 12 ≤ x then -1 else if x < nI m then (let i := (m - 1 - x.toNatClampNeg) % 12
    if y.toInt = 0 then h.1 (t + 1) i else if y.toInt = 1 then nt_told8 (h.1 (t + 2) i) else if y.toInt = 2 then h.1 (t + 3) i else -1) else -1
theorem sx_ttold {t m : Nat} (K : tf_K t = 4) (hm : h.1 t 0 = nI m) (hm2 : m < 2000000000) (x y : Int32) : tf_Rt (d + 2) 173 [.ref t, .int x, .int y] h (.int (nt_ttold h t m x y)) h := by
  intro Q q
  have k18 : nt_ttold h t m x y = -1 → lx_X5_told 298 (tf_Cd 298 (d + 1)) Q 18 [.ref t, .int x, .int y, tf_z] [] h := fun e => go_X5_told_18 (by decide) K (by rw [e] at q; exact q)
  refine en_X5_told (by decide) K (go_X5_told_0 (by decide) K ⟨fun c => k18 (by rw [nt_ttold, if_pos c]), fun c => ⟨fun c2 => k18 (by rw [nt_ttold, if_neg c, if_pos c2]), fun c2 => ⟨fun c3 => ?_, fun c3 => k18 ?_⟩⟩⟩)
  · rw [hm] at c3
    obtain ⟨j, hj, ej⟩ := nI_of c
    subst ej
    have hjm : j < m := (nI_ltI hj (by omega)).mp c3
    have hcj : (nI j).toNatClampNeg = j := nI_clamp hj
    have e12 : ((nI m - 1) - nI j) - ((nI m - 1) - nI j) / 12 * 12 = nI ((m - 1 - j) % 12) := by
      obtain ⟨m1, rfl⟩ : ∃ m1, m = m1 + 1 := ⟨m - 1, by omega⟩
      rw [nI_pred, pk_sub (by omega)]
      exact pk_rem (a := m1 - j) (d := 12) (by omega) (by omega) (by omega)
    have hr : (m - 1 - j) % 12 < 12 := Nat.mod_lt _ (by omega)
    have hi : vp_in (nI ((m - 1 - j) % 12)) 12 := vi_of hr (by omega)
    have hcl : (nI ((m - 1 - j) % 12)).toNatClampNeg = (m - 1 - j) % 12 := nI_clamp (by omega)
    rw [nt_ttold, if_neg c, if_neg c2, if_pos c3, hcj] at q
    refine go_X5_told_20 (by decide) K ?_
    rw [hm, e12]
    refine ⟨fun z => go_X5_told_84 (by decide) K ?_, fun z => go_X5_told_60 (by decide) K ⟨hi, ?_⟩, fun z => go_X5_told_67 (by decide) K ⟨hi, sx_toldEdge _ _ (go_X5_told_76 (by decide) K ?_)⟩, fun z => go_X5_told_77 (by decide) K ⟨hi, ?_⟩, trivial⟩
    · rw [if_neg (by omega), if_neg (by omega), if_neg (by omega)] at q
      exact q
    · rw [if_pos z] at q
      rw [hcl]
      exact q
    · rw [if_neg (by omega), if_pos z] at q
      rw [hcl]
      exact q
    · rw [if_neg (by omega), if_neg (by omega), if_pos z] at q
      rw [hcl]
      exact q
  · rw [hm] at c3
    rw [nt_ttold, if_neg c, if_neg c2, if_neg c3]
end NT6
