/-! ===== trips kept, split, told ===== -/
section TR2
variable {h : LH} {b d M : Nat}
def Ft (h g : LH) : Prop := (∀ e, ¬ (244 ≤ e ∧ e ≤ 250) → g.1 e = h.1 e) ∧ g.2 = h.2
theorem Ft.rf : Ft h h := ⟨fun _ _ => rfl, rfl⟩
theorem Ft.tr {g k : LH} (x : Ft h g) (y : Ft g k) : Ft h k := ⟨fun e he => (y.1 e he).trans (x.1 e he), y.2.trans x.2⟩
theorem Ft.w {g : LH} {c i : Nat} {v : Int32} (x : Ft h g) (hc : 244 ≤ c ∧ c ≤ 250) : Ft h (w1 g c i v) := ⟨fun e he => by rw [w1_ne (by omega)]; exact x.1 e he, x.2⟩
theorem Fk.t {g : LH} (x : Fk h g) : Ft h g := ⟨fun e he => x.1 e (by omega) (by omega) (by omega), x.2.2⟩
def kp1 (g : LH) : Nat → Nat → Int32 → Int32
  | 0, _, r => r
  | f + 1, i, r => kp1 g f (i + 1) (jmin r (g.1 248 (g.1 249 i).toNatClampNeg))
def kp2 (x : Int32) (t l : Nat) : Nat → Nat → LH → LH
  | 0, _, g => g
  | f + 1, i, g => kp2 x t l f (i + 1) (w1 (w1 g 248 (g.1 249 i).toNatClampNeg (g.1 248 (g.1 249 i).toNatClampNeg - x)) 247 (t * 7 + i - l) (g.1 249 i))
theorem kp2_lo {x : Int32} {t l : Nat} : ∀ (f i : Nat) (g : LH), (∀ e, e ≠ 247 → e ≠ 248 → (kp2 x t l f i g).1 e = g.1 e) ∧ (kp2 x t l f i g).2 = g.2
  | 0, _, _ => ⟨fun _ _ _ => rfl, rfl⟩
  | f + 1, i, g => by
    obtain ⟨k1, k2⟩ := kp2_lo (x := x) (t := t) (l := l) f (i + 1) (w1 (w1 g 248 (g.1 249 i).toNatClampNeg (g.1 248 (g.1 249 i).toNatClampNeg - x)) 247 (t * 7 + i - l) (g.1 249 i))
    exact ⟨fun e h1 h2 => by rw [kp2, k1 e h1 h2, w1_ne h1, w1_ne h2], by rw [kp2, k2]⟩
theorem sx_k1L {w l : Nat} (W : WK h w l) {Q : tf_Q} : ∀ (f i : Nat) (r : Int32), i + f = w → (∀ x2 : Int32, lx_X6_keep 298 (tf_Cd 298 d) Q 38 [.ref 244, .int (kp1 h f i r), .int x2] [] h) → lx_X6_keep 298 (tf_Cd 298 d) Q 8 [.ref 244, .int r, .int (nI i)] [] h
  | 0, i, r, hi, q => by
    refine go_X6_keep_8 (by decide) ⟨fun _ => q _, fun z => absurd ?_ z⟩
    rw [W.1]
    exact nI_le (by omega) (by have := W.2.1; omega)
  | f + 1, i, r, hi, q => by
    have h7 := W.2.1
    have hcl : (nI i).toNatClampNeg = i := nI_clamp (by omega)
    refine go_X6_keep_8 (by decide) ⟨fun z => ?_, fun _ => ⟨vi_of (by omega) (by omega), ?_⟩⟩
    · rw [W.1] at z
      exact absurd z (nI_ge (by omega) (by omega))
    · rw [hcl]
      refine ⟨W.2.2.2.2.1 i (by omega), ?_⟩
      rw [tf_Cd_ext (by decide)]
      refine ⟨rfl, go_X6_keep_31 (by decide) ?_⟩
      rw [nI_1]
      exact sx_k1L W f (i + 1) _ (by omega) q
theorem sx_k2L {w l t : Nat} (hl : l ≤ 7) (ht : t < 14) (hw : w ≤ 7) {x : Int32} {Q : tf_Q} : ∀ (f i : Nat) (g : LH), g.1 244 7 = nI w → g.1 244 8 = nI l → g.1 244 0 = nI t → (∀ i, i < w → vp_in (g.1 249 i) 14) → l ≤ i → i + f = w → (∀ x2 : Int32, lx_X6_keep 298 (tf_Cd 298 d) Q 97 [.ref 244, .int x, .int x2] [] (kp2 x t l f i g)) → lx_X6_keep 298 (tf_Cd 298 d) Q 43 [.ref 244, .int x, .int (nI i)] [] g
  | 0, i, g, e7, e8, e0, hv, hli, hi, q => by
    refine go_X6_keep_43 (by decide) ⟨fun _ => q _, fun z => absurd ?_ z⟩
    rw [e7]
    exact nI_le (by omega) (by omega)
  | f + 1, i, g, e7, e8, e0, hv, hli, hi, q => by
    have hcl : (nI i).toNatClampNeg = i := nI_clamp (by omega)
    have v7 : vp_in (nI i) 7 := vi_of (by omega) (by omega)
    refine go_X6_keep_43 (by decide) ⟨fun z => ?_, fun _ => ⟨v7, ?_⟩⟩
    · rw [e7] at z
      exact absurd z (nI_ge (by omega) (by omega))
    · rw [hcl]
      have hi14 := hv i (by omega)
      have a0 : (tf_up g.1 248 (g.1 249 i).toNatClampNeg (g.1 248 (g.1 249 i).toNatClampNeg - x)) 244 0 = nI t := by
        have := w1_ne (h := g) (c := 248) (i := (g.1 249 i).toNatClampNeg) (v := g.1 248 (g.1 249 i).toNatClampNeg - x) (e := 244) (by decide)
        rw [← e0, ← this]
      have a8 : (tf_up g.1 248 (g.1 249 i).toNatClampNeg (g.1 248 (g.1 249 i).toNatClampNeg - x)) 244 8 = nI l := by
        have := w1_ne (h := g) (c := 248) (i := (g.1 249 i).toNatClampNeg) (v := g.1 248 (g.1 249 i).toNatClampNeg - x) (e := 244) (by decide)
        rw [← e8, ← this]
      have a9 : (tf_up g.1 248 (g.1 249 i).toNatClampNeg (g.1 248 (g.1 249 i).toNatClampNeg - x)) 249 i = g.1 249 i := by
        have := w1_ne (h := g) (c := 248) (i := (g.1 249 i).toNatClampNeg) (v := g.1 248 (g.1 249 i).toNatClampNeg - x) (e := 249) (by decide)
        exact congrFun this i
      have ix : nI t * 7 + nI i - nI l = nI (t * 7 + i - l) := by
        rw [show (7 : Int32) = nI 7 from rfl, nI_mul, nI_add, nI_sub (by omega)]
      rw [a0, a8, ix, a9, nI_clamp (n := t * 7 + i - l) (by omega), nI_1]
      refine ⟨hi14, hi14, v7, vi_of (by omega) (by omega), ?_⟩
      refine sx_k2L hl ht hw f (i + 1) (w1 (w1 g 248 (g.1 249 i).toNatClampNeg (g.1 248 (g.1 249 i).toNatClampNeg - x)) 247 (t * 7 + i - l) (g.1 249 i)) ?_ ?_ ?_ ?_ (by omega) (by omega) q
      · rw [w1_ne (by decide), w1_ne (by decide)]; exact e7
      · rw [w1_ne (by decide), w1_ne (by decide)]; exact e8
      · rw [w1_ne (by decide), w1_ne (by decide)]; exact e0
      · intro j hj
        rw [w1_ne (by decide), w1_ne (by decide)]
        exact hv j hj
def kp3 (g : LH) (x : Int32) (t w l : Nat) : LH := w1 (w1 (w1 g 245 t x) 246 t (nI (w - l))) 244 0 (nI (t + 1))
def kp_x (h : LH) (w l : Nat) : Int32 := kp1 h (w - l) l 1000000
def tr_kp (h : LH) (t w l : Nat) : LH := kp3 (kp2 (kp_x h w l) t l (w - l) l h) (kp_x h w l) t w l
theorem sx_keep {t w l : Nat} (W : WK h w l) (e0 : h.1 244 0 = nI t) (ht : t < 14) : tf_Rt (d + 1) 180 [.ref 244] h tf_z (tr_kp h t w l) := by
  intro Q q
  obtain ⟨e7, h7, e8, hl, hv, -⟩ := id W
  unfold tr_kp at q
  refine en_X6_keep (by decide) (go_X6_keep_0 (by decide) ?_)
  rw [e8]
  refine sx_k1L W (w - l) l _ (by omega) (fun x2 => go_X6_keep_38 (by decide) ?_)
  rw [e8]
  obtain ⟨x, hx⟩ : ∃ x, x = kp_x h w l := ⟨_, rfl⟩
  rw [← hx] at q
  have hx2 : kp1 h (w - l) l 1000000 = x := by rw [hx]; rfl
  rw [hx2]
  have L := (kp2_lo (x := x) (t := t) (l := l) (w - l) l h).1
  refine sx_k2L (by omega) ht h7 (w - l) l h e7 e8 e0 hv (Nat.le_refl _) (by omega) (fun x3 => go_X6_keep_97 (by decide) ?_)
  generalize kp2 x t l (w - l) l h = g at L q ⊢
  have g0 : g.1 244 0 = nI t := by rw [L 244 (by decide) (by decide)]; exact e0
  have g7 : g.1 244 7 = nI w := by rw [L 244 (by decide) (by decide)]; exact e7
  have g8 : g.1 244 8 = nI l := by rw [L 244 (by decide) (by decide)]; exact e8
  have hct : (nI t).toNatClampNeg = t := nI_clamp (by omega)
  have b0 : (tf_up g.1 245 t x) 244 = g.1 244 := w1_ne (h := g) (c := 245) (i := t) (v := x) (e := 244) (by decide)
  have b1 : (tf_up (tf_up g.1 245 t x) 246 t (nI (w - l))) 244 = g.1 244 := by
    have := w1_ne (h := w1 g 245 t x) (c := 246) (i := t) (v := nI (w - l)) (e := 244) (by decide)
    exact this.trans b0
  rw [g0, hct, b0, g0, hct, g7, g8, nI_sub (by omega), b1, g0, nI_1]
  exact ⟨vi_of ht (by omega), vi_of ht (by omega), q⟩
/-- t trips are kept, none too long -/
def TRI (h : LH) (t : Nat) : Prop := h.1 244 0 = nI t ∧ t ≤ 14 ∧ ∀ j, j < t → ∃ l, l ≤ 7 ∧ h.1 246 j = nI l
theorem tri_kp {t w l : Nat} (W : WK h w l) (T : TRI h t) (ht : t < 14) : TRI (tr_kp h t w l) (t + 1) ∧ Ft h (tr_kp h t w l) := by
  have L := kp2_lo (x := kp_x h w l) (t := t) (l := l) (w - l) l h
  have h7 := W.2.1
  unfold tr_kp
  generalize kp_x h w l = x at L ⊢
  generalize kp2 x t l (w - l) l h = g at L ⊢
  unfold kp3
  have F : Ft h g := ⟨fun e he => L.1 e (by omega) (by omega), L.2⟩
  refine ⟨⟨by rw [w1_eq], by omega, fun j hj => ?_⟩, ((F.w (by omega)).w (by omega)).w (by omega)⟩
  rw [w1_ne (by decide)]
  by_cases e : j = t
  · rw [e, w1_eq]
    exact ⟨w - l, by omega, rfl⟩
  · rw [w1_at e, w1_ne (by decide), L.1 246 (by decide) (by decide)]
    exact T.2.2 j (by omega)
def tr_lp (b n k : Nat) : Nat → Nat → Int32 → LH → LH
  | 0, _, _, g => g
  | f + 1, t, x, g => if x = -1 then g else
    let g1 := tr_g g b k x
    let g2 := tr_kp g1 t (g1.1 244 7).toNatClampNeg (g1.1 244 8).toNatClampNeg
    tr_lp b n k f (t + 1) (tr_s1 g2 b n k n 0) g2
theorem lp_step {n k t : Nat} {g : LH} (H : NO g b n k) (T : TRI g t) (ht : t < 14) {x : Int32} (hx : vp_in x 7) : ∃ g2 : LH, g2 = (tr_kp (tr_g g b k x) t ((tr_g g b k x).1 244 7).toNatClampNeg ((tr_g g b k x).1 244 8).toNatClampNeg) ∧ NO g2 b n k ∧ TRI g2 (t + 1) ∧ Ft g g2 ∧ tf_Rt (d + 2) 179 [.ref 244, .ref b, .int x] g tf_z (tr_g g b k x) ∧ tf_Rt (d + 2) 180 [.ref 244] (tr_g g b k x) tf_z g2 := by
  obtain ⟨s1, ⟨w, l, W⟩, F⟩ := sx_go (d := d) H hx
  generalize tr_g g b k x = g1 at s1 W F ⊢
  obtain ⟨e7, h7, e8, hl, -, -⟩ := id W
  have c7 : (g1.1 244 7).toNatClampNeg = w := by rw [e7]; exact nI_clamp (by omega)
  have c8 : (g1.1 244 8).toNatClampNeg = l := by rw [e8]; exact nI_clamp (by omega)
  rw [c7, c8]
  have T1 : TRI g1 t := ⟨by rw [F.2.1]; exact T.1, T.2.1, fun j hj => by rw [F.1 246 (by decide) (by decide) (by decide)]; exact T.2.2 j hj⟩
  have s2 := sx_keep (d := d + 1) W T1.1 ht
  obtain ⟨T2, F2⟩ := tri_kp W T1 ht
  exact ⟨_, rfl, H.trp (fun e he => by rw [F2.1 e (by omega), F.1 e (by omega) (by omega) (by omega)]), T2, F.t.tr F2, s1, s2⟩
theorem tr_lp_ok {n k : Nat} : ∀ (f t : Nat) (x : Int32) (g : LH), NO g b n k → TRI g t → t + f = 14 → (x = -1 ∨ vp_in x 7) → (∃ t2, TRI (tr_lp b n k f t x g) t2) ∧ Ft g (tr_lp b n k f t x g)
  | 0, t, x, g, H, T, ht, hx => ⟨⟨t, T⟩, Ft.rf⟩
  | f + 1, t, x, g, H, T, ht, hx => by
    unfold tr_lp
    split
    · exact ⟨⟨t, T⟩, Ft.rf⟩
    · rename_i c
      obtain ⟨g2, e2, H2, T2, F2, -, -⟩ := lp_step (d := 0) H T (by omega) (hx.resolve_left c)
      dsimp only
      rw [← e2]
      obtain ⟨k1, k2⟩ := tr_lp_ok f (t + 1) _ g2 H2 T2 (by omega) (tr_s1_in H.pts.2 n 0 (by have := H.pts.2; omega))
      exact ⟨k1, F2.tr k2⟩
theorem sx_lpL {n k : Nat} {Q : tf_Q} : ∀ (f t : Nat) (x : Int32) (g : LH), NO g b n k → TRI g t → t + f = 14 → (x = -1 ∨ vp_in x 7) → Q tf_z (tr_lp b n k f t x g) → lx_X6_split 298 (tf_Cd 298 (d + 2)) Q 41 [.ref 244, .ref b, .int x, .int (nI t)] [] g
  | 0, t, x, g, H, T, ht, hx, q => go_X6_split_41 (by decide) H.1 ⟨fun _ => go_X6_split_74 (by decide) H.1 q, fun z => absurd (nI_le (a := 14) (by omega) (by omega)) z⟩
  | f + 1, t, x, g, H, T, ht, hx, q => by
    unfold tr_lp at q
    refine go_X6_split_41 (by decide) H.1 ⟨fun z => absurd z (nI_ge (b := 14) (by omega) (by omega)), fun _ => ⟨fun c => go_X6_split_74 (by decide) H.1 (by rw [if_pos c] at q; exact q), fun c => ?_⟩⟩
    rw [if_neg c] at q
    obtain ⟨g2, e2, H2, T2, F2, s1, s2⟩ := lp_step (d := d) H T (by omega) (hx.resolve_left c)
    dsimp only at q
    rw [← e2] at q
    refine s1 _ (go_X6_split_58 (by decide) H.1 (s2 _ (go_X6_split_62 (by decide) H.1 (sx_st (d := d) H2 _ (go_X6_split_67 (by decide) H.1 ?_)))))
    rw [nI_1]
    exact sx_lpL f (t + 1) _ g2 H2 T2 (by omega) (tr_s1_in H.pts.2 n 0 (by have := H.pts.2; omega)) q
def tr_cf (b : Nat) : Nat → Nat → LH → LH
  | 0, _, g => g
  | f + 1, a, g => tr_cf b f (a + 1) (w1 g 248 a (g.1 (b + 6) a))
theorem tr_cf_lo {b : Nat} : ∀ (f a : Nat) (g : LH), (∀ e, e ≠ 248 → (tr_cf b f a g).1 e = g.1 e) ∧ (tr_cf b f a g).2 = g.2
  | 0, _, _ => ⟨fun _ _ => rfl, rfl⟩
  | f + 1, a, g => by
    obtain ⟨k1, k2⟩ := tr_cf_lo (b := b) f (a + 1) (w1 g 248 a (g.1 (b + 6) a))
    exact ⟨fun e he => by rw [tr_cf, k1 e he, w1_ne he], by rw [tr_cf, k2]⟩
theorem sx_cfL {n k : Nat} {Q : tf_Q} : ∀ (f a : Nat) (g : LH), NO g b n k → a + f = k → (∀ x2 : Int32, lx_X6_split 298 (tf_Cd 298 d) Q 33 [.ref 244, .ref b, .int x2, tf_z] [] (tr_cf b f a g)) → lx_X6_split 298 (tf_Cd 298 d) Q 7 [.ref 244, .ref b, .int (nI a), tf_z] [] g
  | 0, a, g, H, ha, q => by
    have hk := H.arcs
    refine go_X6_split_7 (by decide) H.1 ⟨fun _ => q _, fun z => absurd ?_ z⟩
    rw [hk.1]
    exact nI_le (by omega) (by omega)
  | f + 1, a, g, H, ha, q => by
    have hk := H.arcs
    have hcl : (nI a).toNatClampNeg = a := nI_clamp (by omega)
    refine go_X6_split_7 (by decide) H.1 ⟨fun z => ?_, fun _ => ⟨vi_of (by omega) (by omega), vi_of (by omega) (by omega), ?_⟩⟩
    · rw [hk.1] at z
      exact absurd z (nI_ge (by omega) (by omega))
    · rw [hcl, nI_1]
      exact sx_cfL f (a + 1) (w1 g 248 a (g.1 (b + 6) a)) (H.hi (by decide)) (by omega) q
def tr_c (h : LH) (b k : Nat) : LH := tr_cf b k 0 (w1 h 244 0 0)
def tr_sp (h : LH) (b n k : Nat) : LH := tr_lp b n k 14 0 (tr_s1 (tr_c h b k) b n k n 0) (tr_c h b k)
theorem sx_split {n k : Nat} (H : NO h b n k) : tf_Rt (d + 3) 174 [.ref 244, .ref b] h tf_z (tr_sp h b n k) ∧ (∃ t, TRI (tr_sp h b n k) t) ∧ Ft h (tr_sp h b n k) := by
  have L := tr_cf_lo (b := b) k 0 (w1 h 244 0 0)
  have F : Ft h (tr_c h b k) := ⟨fun e he => by unfold tr_c; rw [L.1 e (by omega), w1_ne (by omega)], by unfold tr_c; rw [L.2]⟩
  have HC : NO (tr_c h b k) b n k := H.trp (fun e he => F.1 e (by omega))
  have T : TRI (tr_c h b k) 0 := ⟨by unfold tr_c; rw [L.1 244 (by decide), w1_eq]; rfl, by omega, fun j hj => absurd hj (by omega)⟩
  have h7 := H.pts.2
  have hs := tr_s1_in (h := tr_c h b k) (b := b) (k := k) h7 n 0 (by omega)
  obtain ⟨k1, k2⟩ := tr_lp_ok 14 0 _ _ HC T (by omega) hs
  refine ⟨fun Q q => en_X6_split (by decide) H.1 (go_X6_split_0 (by decide) H.1 (sx_cfL k 0 (w1 h 244 0 0) (H.hi (by decide)) (by omega) (fun x2 => go_X6_split_33 (by decide) H.1 (sx_st (d := d) HC _ (go_X6_split_38 (by decide) H.1 (sx_lpL (d := d) 14 0 _ _ HC T (by omega) hs q)))))), k1, F.tr k2⟩
def tr_told (h : LH) (x y : Int32) : Int32 := if x < 0 then -1 else if x < h.1 244 0 then (if y = 0 then h.1 245 x.toNatClampNeg else if y = 1 then h.1 246 x.toNatClampNeg else if y < 10 then -1 else if y - 10 < h.1 246 x.toNatClampNeg then h.1 247 (x * 7 + y - 10).toNatClampNeg else -1) else -1
theorem m10 {x : Int32} {c : Nat} (hc : c ≤ 7) (c1 : ¬ x < 10) (c2 : x - 10 < nI c) : ∃ j, j < 7 ∧ x = nI (j + 10) := by
  have h0 : ¬ x < 0 := fun z => c1 (Int32.lt_trans z (by decide))
  obtain ⟨j, hj, e⟩ := nI_of h0
  subst e
  have h10 : 10 ≤ j := by
    rcases Nat.lt_or_ge j 10 with z | z
    · exact absurd (nI_lt (b := 10) z (by omega)) c1
    · exact z
  have e2 : nI j - 10 = nI (j - 10) := nI_sub (c := 10) h10
  rw [e2] at c2
  have := (nI_ltI (by omega) (by omega)).mp c2
  exact ⟨j - 10, by omega, by congr 1; omega⟩
theorem sx_trtold {t : Nat} (T : TRI h t) (x y : Int32) : tf_Rt (d + 1) 175 [.ref 244, .int x, .int y] h (.int (tr_told h x y)) h := by
  intro Q q
  unfold tr_told at q
  refine en_X6_told (by decide) (go_X6_told_0 (by decide) ⟨fun c => go_X6_told_12 (by decide) (by rw [if_pos c] at q; exact q), fun c => ⟨fun c2 => ?_, fun c2 => go_X6_told_12 (by decide) (by rw [if_neg c, if_neg c2] at q; exact q)⟩⟩)
  rw [if_neg c, if_pos c2] at q
  obtain ⟨j, hj, e⟩ := nI_of c
  have ht := T.2.1
  have hjt : j < t := by
    rw [T.1, e] at c2
    exact (nI_ltI hj (by omega)).mp c2
  have hcl : x.toNatClampNeg = j := by rw [e]; exact nI_clamp (by omega)
  have v14 : vp_in x 14 := by rw [e]; exact vi_of (by omega) (by omega)
  obtain ⟨l, hl, el⟩ := T.2.2 j hjt
  refine go_X6_told_14 (by decide) ⟨fun c3 => ⟨v14, by rw [if_pos c3] at q; exact q⟩, fun c3 => go_X6_told_25 (by decide) ⟨fun c4 => ⟨v14, by rw [if_neg c3, if_pos c4] at q; exact q⟩, fun c4 => go_X6_told_37 (by decide) ⟨fun c5 => go_X6_told_56 (by decide) (by rw [if_neg c3, if_neg c4, if_pos c5] at q; exact q), fun c5 => ⟨v14, fun c6 => go_X6_told_58 (by decide) ⟨?_, by rw [if_neg c3, if_neg c4, if_neg c5, if_pos c6] at q; exact q⟩, fun c6 => go_X6_told_56 (by decide) (by rw [if_neg c3, if_neg c4, if_neg c5, if_neg c6] at q; exact q)⟩⟩⟩⟩
  rw [hcl, el] at c6
  obtain ⟨i, hi, ei⟩ := m10 hl c5 c6
  rw [e, ei, show (7 : Int32) = nI 7 from rfl, show (10 : Int32) = nI 10 from rfl, nI_mul, nI_add, nI_sub (by omega)]
  exact vi_of (by omega) (by omega)
theorem pq_trip (X : XA h M) (x y : Int32) : ∃ (v : Int32) (g : LH), tf_Rt 11 202 [.ref 240, .int x, .int y] h (.int v) g ∧ XA g M ∧ Ft h g := by
  obtain ⟨n, k, m, hm, H⟩ := X.net
  obtain ⟨s1, ⟨t, T⟩, F⟩ := sx_split (d := 7) H.1
  generalize tr_sp h 0 n k = g at s1 T F
  obtain ⟨c, R⟩ := X.2.1
  have s2 := sx_trtold (d := 9) T x y
  refine ⟨if x = -1 then (if y = 0 then g.1 244 0 else -1) else tr_told g x y, g, fun Q q => en_X8_trip (by decide) (go_X8_trip_0 (by decide) (s1 _ (go_X8_trip_11 (by decide) ⟨fun c => ⟨fun c2 => go_X8_trip_31 (by decide) ?_, fun c2 => go_X8_trip_30 (by decide) (go_X8_trip_31 (by decide) ?_)⟩, fun c => go_X8_trip_32 (by decide) (s2 _ (go_X8_trip_41 (by decide) ?_))⟩))), X.look (fun e he => F.1 e (by omega)) (F.1 240 (by decide)) (R.same (F.1 241 (by decide)) (F.1 242 (by decide))), F⟩
  · rw [if_pos c, if_pos c2] at q
    exact q
  · rw [if_pos c, if_neg c2] at q
    exact q
  · rw [if_neg c] at q
    exact q
end TR2
