/-! ===== the class's trips ===== -/
section TR
variable {h : LH} {b d M : Nat}
theorem nI_sub {a c : Nat} (hc : c ≤ a) : nI a - nI c = nI (a - c) := by
  have : nI (a - c) + nI c = nI a := by rw [nI_add]; congr 1; omega
  rw [← this]
  exact Int32.add_sub_cancel _ _
theorem nI_mul (a c : Nat) : nI a * nI c = nI (a * c) := (Int32.ofNat_mul a c).symm
def tr_out (h : LH) (b : Nat) (x : Int32) : Nat → Nat → Int32
  | 0, _ => -1
  | f + 1, a => if h.1 (b + 2) a = x then (if h.1 248 a ≤ 0 then tr_out h b x f (a + 1) else nI a) else tr_out h b x f (a + 1)
theorem tr_out_in {x : Int32} : ∀ (f a : Nat), a + f ≤ 14 → tr_out h b x f a = -1 ∨ vp_in (tr_out h b x f a) 14
  | 0, _, _ => Or.inl rfl
  | f + 1, a, hf => by
    unfold tr_out
    split
    · split
      · exact tr_out_in f (a + 1) (by omega)
      · exact Or.inr (vi_of (by omega) (by omega))
    · exact tr_out_in f (a + 1) (by omega)
theorem sx_toL {n k : Nat} (H : NO h b n k) {x : Int32} {Q : tf_Q} : ∀ (f a : Nat), a + f = k → Q (.int (tr_out h b x f a)) h → lx_X6_arcOut 298 (tf_Cd 298 d) Q 2 [.ref 244, .ref b, .int x, .int (nI a)] [] h
  | 0, a, ha, q => by
    have hk := H.arcs
    refine go_X6_arcOut_2 (by decide) H.1 ⟨fun _ => go_X6_arcOut_37 (by decide) H.1 q, fun z => absurd ?_ z⟩
    rw [hk.1]
    exact nI_le (by omega) (by omega)
  | f + 1, a, ha, q => by
    have hk := H.arcs
    have hcl : (nI a).toNatClampNeg = a := nI_clamp (by omega)
    have go31 : Q (.int (tr_out h b x f (a + 1))) h → lx_X6_arcOut 298 (tf_Cd 298 d) Q 31 [.ref 244, .ref b, .int x, .int (nI a)] [] h := fun q2 => go_X6_arcOut_31 (by decide) H.1 (by rw [nI_1]; exact sx_toL H f (a + 1) (by omega) q2)
    rw [tr_out] at q
    refine go_X6_arcOut_2 (by decide) H.1 ⟨fun z => ?_, fun _ => ⟨vi_of (by omega) (by omega), ?_⟩⟩
    · rw [hk.1] at z
      exact absurd z (nI_ge (by omega) (by omega))
    · rw [hcl]
      refine ⟨fun c => ⟨vi_of (by omega) (by omega), fun c2 => go31 ?_, fun c2 => ?_⟩, fun c => go31 ?_⟩
      · rw [if_pos c, if_pos c2] at q
        exact q
      · rw [if_pos c, if_neg c2] at q
        exact q
      · rw [if_neg c] at q
        exact q
theorem sx_to {n k : Nat} (H : NO h b n k) (x : Int32) : tf_Rt (d + 1) 178 [.ref 244, .ref b, .int x] h (.int (tr_out h b x k 0)) h := fun _ q => en_X6_arcOut (by decide) H.1 (go_X6_arcOut_0 (by decide) H.1 (sx_toL H k 0 (by omega) q))
def tr_sur (h : LH) (b : Nat) (x : Int32) : Nat → Nat → Int32 → Int32
  | 0, _, s => s
  | f + 1, a, s => tr_sur h b x f (a + 1) (if h.1 (b + 2) a = x then s + h.1 248 a else if h.1 (b + 3) a = x then s - h.1 248 a else s)
theorem sx_suL {n k : Nat} (H : NO h b n k) {x : Int32} {Q : tf_Q} : ∀ (f a : Nat) (s : Int32), a + f = k → Q (.int (tr_sur h b x f a s)) h → lx_X6_surplus 298 (tf_Cd 298 d) Q 5 [.ref 244, .ref b, .int x, .int s, .int (nI a)] [] h
  | 0, a, s, ha, q => by
    have hk := H.arcs
    refine go_X6_surplus_5 (by decide) H.1 ⟨fun _ => go_X6_surplus_65 (by decide) H.1 q, fun z => absurd ?_ z⟩
    rw [hk.1]
    exact nI_le (by omega) (by omega)
  | f + 1, a, s, ha, q => by
    have hk := H.arcs
    have hcl : (nI a).toNatClampNeg = a := nI_clamp (by omega)
    have v21 : vp_in (nI a) 21 := vi_of (by omega) (by omega)
    have v14 : vp_in (nI a) 14 := vi_of (by omega) (by omega)
    have go59 : ∀ s2 : Int32, Q (.int (tr_sur h b x f (a + 1) s2)) h → lx_X6_surplus 298 (tf_Cd 298 d) Q 59 [.ref 244, .ref b, .int x, .int s2, .int (nI a)] [] h := fun s2 q2 => go_X6_surplus_59 (by decide) H.1 (by rw [nI_1]; exact sx_suL H f (a + 1) s2 (by omega) q2)
    rw [tr_sur] at q
    refine go_X6_surplus_5 (by decide) H.1 ⟨fun z => ?_, fun _ => ⟨v21, ?_⟩⟩
    · rw [hk.1] at z
      exact absurd z (nI_ge (by omega) (by omega))
    · rw [hcl]
      refine ⟨fun c => ⟨v14, go59 _ ?_⟩, fun c => go_X6_surplus_38 (by decide) H.1 ⟨v21, ?_⟩⟩
      · rw [if_pos c] at q
        exact q
      · rw [hcl]
        rw [if_neg c] at q
        refine ⟨fun c2 => ⟨v14, go59 _ ?_⟩, fun c2 => go59 _ ?_⟩
        · rw [if_pos c2] at q
          exact q
        · rw [if_neg c2] at q
          exact q
theorem sx_su {n k : Nat} (H : NO h b n k) (x : Int32) : tf_Rt (d + 1) 177 [.ref 244, .ref b, .int x] h (.int (tr_sur h b x k 0 0)) h := fun _ q => en_X6_surplus (by decide) H.1 (go_X6_surplus_0 (by decide) H.1 (sx_suL H k 0 0 (by omega) q))
def tr_s2 (h : LH) (b k : Nat) : Nat → Nat → Int32
  | 0, _ => -1
  | f + 1, p => if tr_out h b (nI p) k 0 = -1 then tr_s2 h b k f (p + 1) else nI p
def tr_s1 (h : LH) (b n k : Nat) : Nat → Nat → Int32
  | 0, _ => tr_s2 h b k n 0
  | f + 1, p => if tr_sur h b (nI p) k 0 0 ≤ 0 then tr_s1 h b n k f (p + 1) else nI p
theorem tr_s2_in {k : Nat} : ∀ (f p : Nat), p + f ≤ 7 → tr_s2 h b k f p = -1 ∨ vp_in (tr_s2 h b k f p) 7
  | 0, _, _ => Or.inl rfl
  | f + 1, p, hp => by
    unfold tr_s2
    split
    · exact tr_s2_in f (p + 1) (by omega)
    · exact Or.inr (vi_of (by omega) (by omega))
theorem tr_s1_in {n k : Nat} (hn : n ≤ 7) : ∀ (f p : Nat), p + f ≤ 7 → tr_s1 h b n k f p = -1 ∨ vp_in (tr_s1 h b n k f p) 7
  | 0, _, _ => tr_s2_in n 0 (by omega)
  | f + 1, p, hp => by
    unfold tr_s1
    split
    · exact tr_s1_in hn f (p + 1) (by omega)
    · exact Or.inr (vi_of (by omega) (by omega))
theorem sx_s2L {n k : Nat} (H : NO h b n k) {Q : tf_Q} : ∀ (f p : Nat), p + f = n → Q (.int (tr_s2 h b k f p)) h → lx_X6_start 298 (tf_Cd 298 (d + 1)) Q 29 [.ref 244, .ref b, .int (nI p)] [] h
  | 0, p, hp, q => by
    have hn := H.pts
    refine go_X6_start_29 (by decide) H.1 ⟨fun _ => go_X6_start_55 (by decide) H.1 q, fun z => absurd ?_ z⟩
    rw [hn.1]
    exact nI_le (by omega) (by omega)
  | f + 1, p, hp, q => by
    have hn := H.pts
    rw [tr_s2] at q
    refine go_X6_start_29 (by decide) H.1 ⟨fun z => ?_, fun _ => sx_to H _ _ (go_X6_start_43 (by decide) H.1 ⟨fun c => go_X6_start_49 (by decide) H.1 ?_, fun c => ?_⟩)⟩
    · rw [hn.1] at z
      exact absurd z (nI_ge (by omega) (by omega))
    · rw [nI_1]
      rw [if_pos c] at q
      exact sx_s2L H f (p + 1) (by omega) q
    · rw [if_neg c] at q
      exact q
theorem sx_s1L {n k : Nat} (H : NO h b n k) {Q : tf_Q} : ∀ (f p : Nat), p + f = n → Q (.int (tr_s1 h b n k f p)) h → lx_X6_start 298 (tf_Cd 298 (d + 1)) Q 2 [.ref 244, .ref b, .int (nI p)] [] h
  | 0, p, hp, q => by
    have hn := H.pts
    refine go_X6_start_2 (by decide) H.1 ⟨fun _ => go_X6_start_27 (by decide) H.1 (sx_s2L H n 0 (by omega) q), fun z => absurd ?_ z⟩
    rw [hn.1]
    exact nI_le (by omega) (by omega)
  | f + 1, p, hp, q => by
    have hn := H.pts
    rw [tr_s1] at q
    refine go_X6_start_2 (by decide) H.1 ⟨fun z => ?_, fun _ => sx_su H _ _ (go_X6_start_16 (by decide) H.1 ⟨fun c => go_X6_start_21 (by decide) H.1 ?_, fun c => ?_⟩)⟩
    · rw [hn.1] at z
      exact absurd z (nI_ge (by omega) (by omega))
    · rw [nI_1]
      rw [if_pos c] at q
      exact sx_s1L H f (p + 1) (by omega) q
    · rw [if_neg c] at q
      exact q
theorem sx_st {n k : Nat} (H : NO h b n k) : tf_Rt (d + 2) 176 [.ref 244, .ref b] h (.int (tr_s1 h b n k n 0)) h := fun _ q => en_X6_start (by decide) H.1 (go_X6_start_0 (by decide) H.1 (sx_s1L H n 0 (by omega) q))
/-- on the way: w arcs walked -/
def WK (g : LH) (w l : Nat) : Prop := g.1 244 7 = nI w ∧ w ≤ 7 ∧ g.1 244 8 = nI l ∧ l ≤ w ∧ (∀ i, i < w → vp_in (g.1 249 i) 14) ∧ (∀ p, p < 7 → g.1 250 p = -1 ∨ ∃ j, j ≤ w ∧ j < 7 ∧ g.1 250 p = nI j)
/-- of the trips only the walk has changed -/
def Fk (h g : LH) : Prop := (∀ e, e ≠ 244 → e ≠ 249 → e ≠ 250 → g.1 e = h.1 e) ∧ g.1 244 0 = h.1 244 0 ∧ g.2 = h.2
theorem Fk.tr {g k : LH} (x : Fk h g) (y : Fk g k) : Fk h k := ⟨fun e h1 h2 h3 => (y.1 e h1 h2 h3).trans (x.1 e h1 h2 h3), y.2.1.trans x.2.1, y.2.2.trans x.2.2⟩
def tr_gz : Nat → Nat → LH → LH
  | 0, _, g => g
  | f + 1, p, g => tr_gz f (p + 1) (w1 g 250 p (-1))
theorem tr_gz_ok : ∀ (f p : Nat) (g : LH), (∀ i, i < p → g.1 250 i = -1) → Fk g (tr_gz f p g) ∧ (∀ i, i < p + f → (tr_gz f p g).1 250 i = -1) ∧ (∀ e, e ≠ 250 → (tr_gz f p g).1 e = g.1 e)
  | 0, _, _, hp => ⟨⟨fun _ _ _ _ => rfl, rfl, rfl⟩, hp, fun _ _ => rfl⟩
  | f + 1, p, g, hp => by
    obtain ⟨k1, k2, k3⟩ := tr_gz_ok f (p + 1) (w1 g 250 p (-1)) (fun i hi => by
      by_cases e : i = p
      · subst e
        exact w1_eq
      · rw [w1_at e]
        exact hp i (by omega))
    exact ⟨⟨fun e h1 h2 h3 => by rw [tr_gz, k3 e h3, w1_ne h3], by rw [tr_gz, k3 244 (by decide), w1_ne (by decide)], by rw [tr_gz, k1.2.2]⟩, fun i hi => k2 i (by omega), fun e he => by rw [tr_gz, k3 e he, w1_ne he]⟩
def tr_g1 (g : LH) (x : Int32) : LH := w1 g 250 x.toNatClampNeg (g.1 244 7)
def tr_g2 (g : LH) (a : Int32) : LH := w1 (w1 g 249 (g.1 244 7).toNatClampNeg a) 244 7 ((w1 g 249 (g.1 244 7).toNatClampNeg a).1 244 7 + 1)
def tr_go (b k : Nat) : Nat → Int32 → LH → LH
  | 0, _, g => g
  | f + 1, x, g => if tr_out (tr_g1 g x) b x k 0 = -1 then tr_g1 g x else
    let g2 := tr_g2 (tr_g1 g x) (tr_out (tr_g1 g x) b x k 0)
    let v := g2.1 (b + 3) (tr_out (tr_g1 g x) b x k 0).toNatClampNeg
    if g2.1 250 v.toNatClampNeg = -1 then tr_go b k f v g2 else w1 g2 244 8 (g2.1 250 v.toNatClampNeg)
theorem NO.trp {n k : Nat} {g : LH} (H : NO h b n k) (L : ∀ e, e < 240 → g.1 e = h.1 e) : NO g b n k := by
  have hb := nt_b225 H.1
  exact H.keep (L b (by omega)) (fun a _ => by rw [L (b + 2) (by omega)]) (fun a _ => by rw [L (b + 3) (by omega)]) (L (b + 8) (by omega)) (L (b + 9) (by omega))
theorem wk_g1 {g : LH} {w l : Nat} (W : WK g w l) (hw : w < 7) {x : Int32} (hx : vp_in x 7) : WK (tr_g1 g x) w l ∧ Fk g (tr_g1 g x) := by
  obtain ⟨e7, h7, e8, hl, hi, hp⟩ := W
  unfold tr_g1
  refine ⟨⟨by rw [w1_ne (by decide)]; exact e7, h7, by rw [w1_ne (by decide)]; exact e8, hl, fun i hi2 => by rw [w1_ne (by decide)]; exact hi i hi2, fun p hp2 => ?_⟩, fun e h1 h2 h3 => w1_ne h3, by rw [w1_ne (by decide)], rfl⟩
  by_cases e : p = x.toNatClampNeg
  · rw [e, w1_eq, e7]
    exact Or.inr ⟨w, Nat.le_refl _, hw, rfl⟩
  · rw [w1_at e]
    exact hp p hp2
theorem wk_g2 {g : LH} {w l : Nat} (W : WK g w l) (hw : w < 7) {a : Int32} (ha : vp_in a 14) : WK (tr_g2 g a) (w + 1) l ∧ Fk g (tr_g2 g a) ∧ (tr_g2 g a).1 250 = g.1 250 := by
  obtain ⟨e7, h7, e8, hl, hi, hp⟩ := W
  have hcl : (g.1 244 7).toNatClampNeg = w := by rw [e7]; exact nI_clamp (by omega)
  unfold tr_g2
  rw [hcl]
  refine ⟨⟨?_, by omega, ?_, by omega, fun i hi2 => ?_, fun p hp2 => ?_⟩, ⟨fun e h1 h2 h3 => by rw [w1_ne h1, w1_ne h2], by rw [w1_at (by decide), w1_ne (by decide)], rfl⟩, by rw [w1_ne (by decide), w1_ne (by decide)]⟩
  · rw [w1_eq, w1_ne (by decide), e7, nI_1]
  · rw [w1_at (by decide), w1_ne (by decide)]
    exact e8
  · rw [w1_ne (by decide)]
    by_cases e : i = w
    · rw [e, w1_eq]
      exact ha
    · rw [w1_at e]
      exact hi i (by omega)
  · rw [w1_ne (by decide), w1_ne (by decide)]
    rcases hp p hp2 with z | ⟨j, h1, h2, h3⟩
    · exact Or.inl z
    · exact Or.inr ⟨j, by omega, h2, h3⟩
theorem tr_go_ok {n k : Nat} : ∀ (f w : Nat) (x : Int32) (g : LH), NO g b n k → w + f = 7 → WK g w 0 → vp_in x 7 → (∃ w2 l2, WK (tr_go b k f x g) w2 l2) ∧ Fk g (tr_go b k f x g)
  | 0, w, x, g, H, hw, W, hx => ⟨⟨w, 0, W⟩, ⟨fun _ _ _ _ => rfl, rfl, rfl⟩⟩
  | f + 1, w, x, g, H, hw, W, hx => by
    obtain ⟨W1, F1⟩ := wk_g1 W (by omega) hx
    have H1 : NO (tr_g1 g x) b n k := H.trp (fun e he => F1.1 e (by omega) (by omega) (by omega))
    unfold tr_go
    generalize tr_g1 g x = g1 at W1 F1 H1 ⊢
    split
    · exact ⟨⟨w, 0, W1⟩, F1⟩
    · rename_i c
      have ha := (tr_out_in (h := g1) (b := b) (x := x) k 0 (by have := H.arcs.2; omega)).resolve_left c
      generalize tr_out g1 b x k 0 = a at ha ⊢
      obtain ⟨W2, F2, -⟩ := wk_g2 W1 (by omega) ha
      have H2 : NO (tr_g2 g1 a) b n k := H1.trp (fun e he => F2.1 e (by omega) (by omega) (by omega))
      have hv := (H2.tl ha).2
      dsimp only
      generalize tr_g2 g1 a = g2 at W2 F2 H2 hv ⊢
      obtain ⟨v, hv2⟩ : ∃ v, v = g2.1 (b + 3) a.toNatClampNeg := ⟨_, rfl⟩
      rw [← hv2] at hv ⊢
      split
      · obtain ⟨k1, k2⟩ := tr_go_ok f (w + 1) v g2 H2 (by omega) W2 hv
        exact ⟨k1, (F1.tr F2).tr k2⟩
      · rename_i c2
        obtain ⟨j, hj, ej⟩ := vi_nI hv
        have hcl : v.toNatClampNeg = j := by rw [ej]; exact nI_clamp (by omega)
        rw [hcl] at c2 ⊢
        obtain ⟨e7, h7, e8, hl, hi, hp⟩ := W2
        obtain ⟨l, hl1, hl2, hl3⟩ := (hp j hj).resolve_left c2
        refine ⟨⟨w + 1, l, by rw [w1_at (by decide)]; exact e7, h7, by rw [w1_eq]; exact hl3, hl1, fun i hi2 => by rw [w1_ne (by decide)]; exact hi i hi2, fun p hp2 => by rw [w1_ne (by decide)]; exact hp p hp2⟩, (F1.tr F2).tr ⟨fun e h1 h2 h3 => w1_ne h1, by rw [w1_at (by decide)], rfl⟩⟩
theorem sx_goL {n k : Nat} {x0 : Int32} {Q : tf_Q} : ∀ (f w : Nat) (x : Int32) (g : LH) (x4 : Value), NO g b n k → w + f = 7 → WK g w 0 → vp_in x 7 → Q tf_z (tr_go b k f x g) → lx_X6_go 298 (tf_Cd 298 (d + 1)) Q 33 [.ref 244, .ref b, .int x0, .int x, x4] [] g
  | 0, w, x, g, x4, H, hw, W, hx, q => by
    refine go_X6_go_33 (by decide) H.1 ⟨fun _ => go_X6_go_120 (by decide) H.1 q, fun z => absurd ?_ z⟩
    rw [W.1]
    exact nI_le (a := 7) (by omega) (by omega)
  | f + 1, w, x, g, x4, H, hw, W, hx, q => by
    obtain ⟨W1, F1⟩ := wk_g1 W (by omega) hx
    have H1 : NO (tr_g1 g x) b n k := H.trp (fun e he => F1.1 e (by omega) (by omega) (by omega))
    unfold tr_go at q
    refine go_X6_go_33 (by decide) H.1 ⟨fun z => ?_, fun _ => ⟨hx, ?_⟩⟩
    · rw [W.1] at z
      exact absurd z (nI_ge (b := 7) (by omega) (by omega))
    · have s1 := sx_to (d := d) H1 x
      refine s1 _ ?_
      generalize tr_g1 g x = g1 at W1 F1 H1 q ⊢
      refine go_X6_go_58 (by decide) H.1 ⟨fun c => ?_, fun c => ?_⟩
      · rw [if_pos c] at q
        exact q
      · rw [if_neg c] at q
        have ha := (tr_out_in (h := g1) (b := b) (x := x) k 0 (by have := H.arcs.2; omega)).resolve_left c
        generalize tr_out g1 b x k 0 = a at ha q ⊢
        obtain ⟨W2, F2, -⟩ := wk_g2 W1 (by omega) ha
        have H2 : NO (tr_g2 g1 a) b n k := H1.trp (fun e he => F2.1 e (by omega) (by omega) (by omega))
        have hv := (H2.tl ha).2
        dsimp only at q
        have w7 : vp_in (g1.1 244 7) 7 := by rw [W1.1]; exact vi_of (by omega) (by omega)
        refine go_X6_go_67 (by decide) H.1 ⟨w7, vi_mono ha (by omega), hv, fun c2 => go_X6_go_117 (by decide) H.1 ?_, fun c2 => ⟨hv, ?_⟩⟩
        · have q2 : Q tf_z (tr_go b k f ((tr_g2 g1 a).1 (b + 3) a.toNatClampNeg) (tr_g2 g1 a)) := by
            have c3 : (tr_g2 g1 a).1 250 ((tr_g2 g1 a).1 (b + 3) a.toNatClampNeg).toNatClampNeg = -1 := c2
            rw [if_pos c3] at q
            exact q
          exact sx_goL f (w + 1) _ (tr_g2 g1 a) _ H2 (by omega) W2 hv q2
        · have c3 : ¬ (tr_g2 g1 a).1 250 ((tr_g2 g1 a).1 (b + 3) a.toNatClampNeg).toNatClampNeg = -1 := c2
          rw [if_neg c3] at q
          exact q
theorem sx_gzL {K : tf_K b = 0} {x0 : Int32} {Q : tf_Q} : ∀ (f p : Nat) (g : LH), p + f = 7 → lx_X6_go 298 (tf_Cd 298 (d + 1)) Q 33 [.ref 244, .ref b, .int x0, .int x0, tf_z] [] (w1 (w1 (tr_gz f p g) 244 7 0) 244 8 0) → lx_X6_go 298 (tf_Cd 298 (d + 1)) Q 2 [.ref 244, .ref b, .int x0, .int (nI p), tf_z] [] g
  | 0, p, g, hp, q => go_X6_go_2 (by decide) K ⟨fun _ => go_X6_go_21 (by decide) K q, fun z => absurd (nI_le (a := 7) (by omega) (by omega)) z⟩
  | f + 1, p, g, hp, q => by
    have hcl : (nI p).toNatClampNeg = p := nI_clamp (by omega)
    refine go_X6_go_2 (by decide) K ⟨fun z => absurd z (nI_ge (b := 7) (by omega) (by omega)), fun _ => ⟨vi_of (by omega) (by omega), ?_⟩⟩
    rw [hcl, nI_1]
    exact sx_gzL (K := K) f (p + 1) (w1 g 250 p (-1)) (by omega) q
def tr_g (h : LH) (b k : Nat) (x : Int32) : LH := tr_go b k 7 x (w1 (w1 (tr_gz 7 0 h) 244 7 0) 244 8 0)
theorem sx_go {n k : Nat} (H : NO h b n k) {x : Int32} (hx : vp_in x 7) : tf_Rt (d + 2) 179 [.ref 244, .ref b, .int x] h tf_z (tr_g h b k x) ∧ (∃ w l, WK (tr_g h b k x) w l) ∧ Fk h (tr_g h b k x) := by
  obtain ⟨k1, k2, k3⟩ := tr_gz_ok 7 0 h (fun i hi => absurd hi (by omega))
  have W : WK (w1 (w1 (tr_gz 7 0 h) 244 7 0) 244 8 0) 0 0 := by
    refine ⟨by rw [w1_at (by decide), w1_eq]; rfl, by omega, by rw [w1_eq]; rfl, Nat.le_refl _, fun i hi => absurd hi (by omega), fun p hp => Or.inl ?_⟩
    rw [w1_ne (by decide), w1_ne (by decide)]
    exact k2 p (by omega)
  have F : Fk h (w1 (w1 (tr_gz 7 0 h) 244 7 0) 244 8 0) := k1.tr ⟨fun e h1 h2 h3 => by rw [w1_ne h1, w1_ne h1], by rw [w1_at (by decide), w1_at (by decide)], rfl⟩
  have H0 : NO (w1 (w1 (tr_gz 7 0 h) 244 7 0) 244 8 0) b n k := H.trp (fun e he => F.1 e (by omega) (by omega) (by omega))
  obtain ⟨g1, g2⟩ := tr_go_ok 7 0 x _ H0 (by omega) W hx
  refine ⟨fun Q q => en_X6_go (by decide) H.1 (go_X6_go_0 (by decide) H.1 (sx_gzL (K := H.1) 7 0 h (by omega) (sx_goL 7 0 x _ _ H0 (by omega) W hx q))), g1, F.tr g2⟩
end TR
