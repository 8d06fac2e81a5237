/-! ===== the reference: lay, as a whole ===== -/
section RLZ
variable {h g : LH} {d M : Nat}
theorem af_2 {Q : tf_Q} (q : ∀ g, FLn h g → g.1 275 = h.1 275 → GT g 0 → Q tf_z g) : ∀ (f i : Nat) (g : LH), i + f = 98 → FLn h g → g.1 275 = h.1 275 → GT g 0 → lx_X9_atFirst 298 (tf_Cd 298 d) Q 45 [.ref 270, .int (nI i)] [] g
  | f, i, g, hf, F, e5, G => by
    have fin : lx_X9_atFirst 298 (tf_Cd 298 d) Q 64 [.ref 270, .int (nI i)] [] g := by
      refine go_X9_atFirst_64 (by decide) (q (w1 (w1 g 270 13 (-1)) 270 6 0) (F.tr ((FLn.w (Or.inr ⟨rfl, by decide⟩)).tr (FLn.w (Or.inr ⟨rfl, by decide⟩)))) (by rw [w1_ne (by decide), w1_ne (by decide)]; exact e5) ⟨G.1, by rw [w1_at (by decide), w1_at (by decide)]; exact G.2.1, by rw [w1_at (by decide), w1_at (by decide)]; exact G.2.2.1, fun p hp => by rw [w1_ne (by decide), w1_ne (by decide)]; exact G.2.2.2.1 p hp, fun a ha => absurd ha (by omega)⟩)
    cases f with
    | zero => exact go_X9_atFirst_45 (by decide) ⟨fun _ => fin, fun c => absurd (show nI 98 ≤ nI i from nI_le (by omega) (by omega)) c⟩
    | succ f =>
      refine go_X9_atFirst_45 (by decide) ⟨fun _ => fin, fun _ => ⟨vi_of (by omega) (by omega), ?_⟩⟩
      rw [nI_1]
      exact af_2 q f (i + 1) (w1 g 277 (nI i).toNatClampNeg 0) (by omega) (F.tr (FLn.w (Or.inl (by decide)))) (by rw [w1_ne (by decide)]; exact e5) ⟨G.1, by rw [w1_ne (by decide)]; exact G.2.1, by rw [w1_ne (by decide)]; exact G.2.2.1, fun p hp => by rw [w1_ne (by decide)]; exact G.2.2.2.1 p hp, fun a ha => absurd ha (by omega)⟩
theorem af_1 {Q : tf_Q} (q : ∀ g, FLn h g → g.1 275 = h.1 275 → GT g 0 → Q tf_z g) : ∀ (f i : Nat) (g : LH), i + f = 7 → FLn h g → g.1 275 = h.1 275 → g.1 270 18 = 2 → g.1 270 19 = 0 → (∀ p, p < i → g.1 276 p = 0) → lx_X9_atFirst 298 (tf_Cd 298 d) Q 17 [.ref 270, .int (nI i)] [] g
  | 0, i, g, hf, F, e5, e18, e19, z => go_X9_atFirst_17 (by decide) ⟨fun _ => go_X9_atFirst_43 (by decide) (af_2 q 98 0 g (by omega) F e5 ⟨by omega, e19, ⟨2, by omega, by omega, e18⟩, fun p hp => ⟨99, by omega, by rw [z p (by omega)]; rfl⟩, fun a ha => absurd ha (by omega)⟩), fun c => absurd (show nI 7 ≤ nI i from nI_le (by omega) (by omega)) c⟩
  | f + 1, i, g, hf, F, e5, e18, e19, z => by
    refine go_X9_atFirst_17 (by decide) ⟨fun c => absurd (show nI 7 ≤ nI i from c) (nI_ge (by omega) (by omega)), fun _ => ⟨vi_of (by omega) (by omega), vi_of (by omega) (by omega), ?_⟩⟩
    rw [nI_1, nI_clamp (by omega)]
    refine af_1 q f (i + 1) (w1 (w1 g 276 i 0) 278 i (-1)) (by omega) (F.tr ((FLn.w (Or.inl (by decide))).tr (FLn.w (Or.inl (by decide))))) (by rw [w1_ne (by decide), w1_ne (by decide)]; exact e5) (by rw [w1_ne (by decide), w1_ne (by decide)]; exact e18) (by rw [w1_ne (by decide), w1_ne (by decide)]; exact e19) (fun p hp => ?_)
    rw [w1_ne (by decide)]
    by_cases hpi : p = i
    · rw [hpi, w1_eq]
    · rw [w1_at hpi]
      exact z p (by omega)
theorem sp_af : tf_Sp (d + 1) 14 [.ref 270] h (fun _ g => FLn h g ∧ g.1 275 = h.1 275 ∧ GT g 0) := by
  intro Q q
  refine en_X9_atFirst (by decide) (go_X9_atFirst_0 (by decide) (af_1 (h := h) (fun g F e G => q _ g ⟨F, e, G⟩) 7 0 (w1 (w1 (w1 h 270 18 2) 270 19 0) 270 20 0) (by omega) (((FLn.w (Or.inr ⟨rfl, by decide⟩)).tr (FLn.w (Or.inr ⟨rfl, by decide⟩))).tr (FLn.w (Or.inr ⟨rfl, by decide⟩))) (by rw [w1_ne (by decide), w1_ne (by decide), w1_ne (by decide)]) (by rw [w1_at (by decide), w1_at (by decide), w1_eq]) (by rw [w1_at (by decide), w1_eq]) (fun p hp => absurd hp (by omega))))
theorem mi_L {m : Nat} {Q : tf_Q} (q : ∀ x, (x = -1 → ∀ p, m ≤ p → p < 7 → h.1 278 p = -1) → Q (.int x) h) : ∀ (f i : Nat) (x : Int32), i + f = 7 → (x = -1 → ∀ p, m ≤ p → p < i → h.1 278 p = -1) → lx_X9_missing 298 (tf_Cd 298 d) Q 7 [.ref 270, .int x, .int (nI i)] [] h
  | 0, i, x, hf, z => go_X9_missing_7 (by decide) ⟨fun _ => go_X9_missing_55 (by decide) (q x (fun y p h1 h2 => z y p h1 (by omega))), fun c => absurd (show nI 7 ≤ nI i from nI_le (by omega) (by omega)) c⟩
  | f + 1, i, x, hf, z => by
    have ci : (nI i).toNatClampNeg = i := nI_clamp (by omega)
    have v7 : vp_in (nI i) 7 := vi_of (by omega) (by omega)
    have k38 : h.1 278 i ≠ -1 → lx_X9_missing 298 (tf_Cd 298 d) Q 38 [.ref 270, .int x, .int (nI i)] [] h := fun hn => by
      refine go_X9_missing_38 (by decide) ⟨v7, go_X9_missing_48 (by decide) ?_⟩
      rw [nI_1, ci]
      exact mi_L q f (i + 1) _ (by omega) (fun y => absurd y hn)
    have k47 : (x = -1 → h.1 278 i = -1) → lx_X9_missing 298 (tf_Cd 298 d) Q 47 [.ref 270, .int x, .int (nI i)] [] h := fun hn => by
      refine go_X9_missing_47 (by decide) (go_X9_missing_48 (by decide) ?_)
      rw [nI_1]
      refine mi_L q f (i + 1) _ (by omega) (fun y p h1 h2 => ?_)
      by_cases hpi : p = i
      · rw [hpi]; exact hn y
      · exact z y p h1 (by omega)
    refine go_X9_missing_7 (by decide) ⟨fun c => absurd (show nI 7 ≤ nI i from c) (nI_ge (by omega) (by omega)), fun _ => ⟨v7, fun c1 => ?_, fun c1 => ⟨fun _ => ?_, fun c2 => ⟨v7, fun _ => k47 (fun y => absurd y c2), fun _ => ?_⟩⟩⟩⟩
    · rw [ci] at c1
      exact k47 (fun _ => c1)
    · rw [ci] at c1
      exact k38 c1
    · rw [ci] at c1
      exact k38 c1
theorem sp_mi {m : Nat} (e18 : h.1 270 18 = nI m) (hm : m ≤ 7) : tf_Sp (d + 1) 21 [.ref 270] h (fun v g => g = h ∧ ∃ x, v = .int x ∧ (x = -1 → ∀ p, m ≤ p → p < 7 → h.1 278 p = -1)) := by
  intro Q q
  refine en_X9_missing (by decide) (go_X9_missing_0 (by decide) ?_)
  rw [e18]
  exact mi_L (fun x hx => q _ _ ⟨rfl, x, rfl, hx⟩) (7 - m) m _ (by omega) (fun _ p h1 h2 => absurd h2 (by omega))
def isf (h : LH) (x y : Int32) : LH := w1 (w1 h 271 171 x) 271 172 y
theorem sx_isf (x y : Int32) : tf_Rt (d + 1) 22 [.ref 270, .int x, .int y] h tf_z (isf h x y) := fun Q q => en_X9_isFaulty (by decide) (go_X9_isFaulty_0 (by decide) q)
/-- only the row's own places changed, the texts' and the images' not -/
def FW (h g : LH) : Prop := (∀ e, e ≠ 271 → g.1 e = h.1 e) ∧ ∀ ix, 170 ≤ ix → g.1 271 ix = h.1 271 ix
theorem FW.w {i : Nat} {v : Int32} (F : FW h g) (hi : i < 170) : FW h (w1 g 271 i v) := ⟨fun e he => by rw [w1_ne he]; exact F.1 e he, fun ix hx => by rw [w1_at (by omega)]; exact F.2 ix hx⟩
theorem ta_3 {Q : tf_Q} (q : ∀ g (x : Int32), FW h g → (∀ j, j < 72 → g.1 271 j = h.1 271 j) → (∀ j, j < 98 → g.1 271 (72 + j) = h.1 277 j) → lx_X9_taken 298 (tf_Cd 298 d) Q 118 [.ref 270, .int x] [] g) : ∀ (f i : Nat) (g : LH), i + f = 98 → FW h g → (∀ j, j < 72 → g.1 271 j = h.1 271 j) → (∀ j, j < i → g.1 271 (72 + j) = h.1 277 j) → lx_X9_taken 298 (tf_Cd 298 d) Q 91 [.ref 270, .int (nI i)] [] g
  | 0, i, g, hf, F, z, y => go_X9_taken_91 (by decide) ⟨fun _ => q g _ F z (fun j hj => y j (by omega)), fun c => absurd (show nI 98 ≤ nI i from nI_le (by omega) (by omega)) c⟩
  | f + 1, i, g, hf, F, z, y => by
    have e72 : (72 : Int32) + nI i = nI (72 + i) := nI_add 72 i
    refine go_X9_taken_91 (by decide) ⟨fun c => absurd (show nI 98 ≤ nI i from c) (nI_ge (by omega) (by omega)), fun _ => ?_⟩
    rw [e72, nI_clamp (show i < 2 ^ 31 by omega), nI_clamp (show 72 + i < 2 ^ 31 by omega), nI_1]
    refine ⟨vi_of (by omega) (by omega), vi_of (by omega) (by omega), ta_3 q f (i + 1) (w1 g 271 (72 + i) (g.1 277 i)) (by omega) (F.w (by omega)) (fun j hj => by rw [w1_at (by omega)]; exact z j hj) (fun j hj => ?_)⟩
    by_cases hji : j = i
    · rw [hji, w1_eq, F.1 277 (by decide)]
    · rw [w1_at (by omega)]
      exact y j (by omega)
theorem ta_2 {Q : tf_Q} (q : ∀ g (x : Int32), FW h g → (∀ j, j < 44 → g.1 271 j = h.1 271 j) → (∀ j, j < 7 → g.1 271 (44 + j) = h.1 276 j) → (∀ j, 51 ≤ j → j < 72 → g.1 271 j = h.1 271 j) → lx_X9_taken 298 (tf_Cd 298 d) Q 89 [.ref 270, .int x] [] g) : ∀ (f i : Nat) (g : LH), i + f = 7 → FW h g → (∀ j, j < 44 → g.1 271 j = h.1 271 j) → (∀ j, j < i → g.1 271 (44 + j) = h.1 276 j) → (∀ j, 51 ≤ j → j < 72 → g.1 271 j = h.1 271 j) → lx_X9_taken 298 (tf_Cd 298 d) Q 62 [.ref 270, .int (nI i)] [] g
  | 0, i, g, hf, F, z, y, z2 => go_X9_taken_62 (by decide) ⟨fun _ => q g _ F z (fun j hj => y j (by omega)) z2, fun c => absurd (show nI 7 ≤ nI i from nI_le (by omega) (by omega)) c⟩
  | f + 1, i, g, hf, F, z, y, z2 => by
    have e44 : (44 : Int32) + nI i = nI (44 + i) := nI_add 44 i
    refine go_X9_taken_62 (by decide) ⟨fun c => absurd (show nI 7 ≤ nI i from c) (nI_ge (by omega) (by omega)), fun _ => ?_⟩
    rw [e44, nI_clamp (show i < 2 ^ 31 by omega), nI_clamp (show 44 + i < 2 ^ 31 by omega), nI_1]
    refine ⟨vi_of (by omega) (by omega), vi_of (by omega) (by omega), ta_2 q f (i + 1) (w1 g 271 (44 + i) (g.1 276 i)) (by omega) (F.w (by omega)) (fun j hj => by rw [w1_at (by omega)]; exact z j hj) (fun j hj => ?_) (fun j h1 h2 => by rw [w1_at (by omega)]; exact z2 j h1 h2)⟩
    by_cases hji : j = i
    · rw [hji, w1_eq, F.1 276 (by decide)]
    · rw [w1_at (by omega)]
      exact y j (by omega)
theorem ta_1 {Q : tf_Q} (q : ∀ g (x : Int32), FW h g → (∀ j, j < 170 → g.1 271 j = 0) → lx_X9_taken 298 (tf_Cd 298 d) Q 22 [.ref 270, .int x] [] g) : ∀ (f i : Nat) (g : LH), i + f = 170 → FW h g → (∀ j, j < i → g.1 271 j = 0) → lx_X9_taken 298 (tf_Cd 298 d) Q 2 [.ref 270, .int (nI i)] [] g
  | 0, i, g, hf, F, z => go_X9_taken_2 (by decide) ⟨fun _ => q g _ F (fun j hj => z j (by omega)), fun c => absurd (show nI 170 ≤ nI i from nI_le (by omega) (by omega)) c⟩
  | f + 1, i, g, hf, F, z => by
    refine go_X9_taken_2 (by decide) ⟨fun c => absurd (show nI 170 ≤ nI i from c) (nI_ge (by omega) (by omega)), fun _ => ?_⟩
    rw [nI_clamp (show i < 2 ^ 31 by omega), nI_1]
    refine ⟨vi_of (by omega) (by omega), ta_1 q f (i + 1) (w1 g 271 i 0) (by omega) (F.w (by omega)) (fun j hj => ?_)⟩
    by_cases hji : j = i
    · rw [hji, w1_eq]
    · rw [w1_at hji]
      exact z j (by omega)
theorem sp_ta {k m : Nat} (G : GT h k) (e18 : h.1 270 18 = nI m) (m2 : 2 ≤ m) (m7 : m ≤ 7) (e13 : h.1 270 13 = -1) (mi : ∀ p, m ≤ p → p < 7 → h.1 278 p = -1) : tf_Sp (d + 3) 23 [.ref 270] h (fun _ g => GI g m k M ∧ g.1 270 5 = nI 0 ∧ (∀ e, e ≠ 270 → e ≠ 271 → g.1 e = h.1 e) ∧ ∀ ix, 170 ≤ ix → g.1 271 ix = h.1 271 ix) := by
  intro Q q
  refine en_X9_taken (by decide) (go_X9_taken_0 (by decide) (ta_1 (h := h) (fun g1 x F1 z1 => go_X9_taken_22 (by decide) ?_) 170 0 h (by omega) ⟨fun _ _ => rfl, fun _ _ => rfl⟩ (fun j hj => absurd hj (by omega))))
  have key : ∀ (a0 a1 a2 : Int32), a0 = nI m → a1 = nI k → lx_X9_taken 298 (tf_Cd 298 (d + 2)) Q 62 [.ref 270, .int 0] [] (w1 (w1 (w1 (w1 g1 271 0 a0) 271 1 a1) 271 2 a2) 271 6 (-1)) := by
    rintro a0 a1 a2 rfl rfl
    have F2 : FW h (w1 (w1 (w1 (w1 g1 271 0 (nI m)) 271 1 (nI k)) 271 2 a2) 271 6 (-1)) := (((F1.w (by decide)).w (by decide)).w (by decide)).w (by decide)
    have x0 : (w1 (w1 (w1 (w1 g1 271 0 (nI m)) 271 1 (nI k)) 271 2 a2) 271 6 (-1)).1 271 0 = nI m := by rw [w1_at (by decide), w1_at (by decide), w1_at (by decide), w1_eq]
    have x1 : (w1 (w1 (w1 (w1 g1 271 0 (nI m)) 271 1 (nI k)) 271 2 a2) 271 6 (-1)).1 271 1 = nI k := by rw [w1_at (by decide), w1_at (by decide), w1_eq]
    have x6 : (w1 (w1 (w1 (w1 g1 271 0 (nI m)) 271 1 (nI k)) 271 2 a2) 271 6 (-1)).1 271 6 = -1 := w1_eq
    have x7 : (w1 (w1 (w1 (w1 g1 271 0 (nI m)) 271 1 (nI k)) 271 2 a2) 271 6 (-1)).1 271 7 = 0 := by rw [w1_at (by decide), w1_at (by decide), w1_at (by decide), w1_at (by decide)]; exact z1 7 (by decide)
    generalize w1 (w1 (w1 (w1 g1 271 0 (nI m)) 271 1 (nI k)) 271 2 a2) 271 6 (-1) = g2 at F2 x0 x1 x6 x7
    refine ta_2 (h := g2) (fun g3 x F3 z3 y3 _ => go_X9_taken_89 (by decide) (ta_3 (h := g3) (fun g4 x F4 z4 y4 => go_X9_taken_118 (by decide) ?_) 98 0 g3 (by omega) ⟨fun _ _ => rfl, fun _ _ => rfl⟩ (fun _ _ => rfl) (fun j hj => absurd hj (by omega)))) 7 0 g2 (by omega) ⟨fun _ _ => rfl, fun _ _ => rfl⟩ (fun _ _ => rfl) (fun j hj => absurd hj (by omega)) (fun _ _ _ => rfl)
    have lo : ∀ e, e ≠ 271 → g4.1 e = h.1 e := fun e he => by rw [F4.1 e he, F3.1 e he, F2.1 e he]
    have hi : ∀ ix, 170 ≤ ix → g4.1 271 ix = h.1 271 ix := fun ix hx => by rw [F4.2 ix hx, F3.2 ix hx, F2.2 ix hx]
    have s4 : ∀ j, j < 44 → g4.1 271 j = g2.1 271 j := fun j hj => by rw [z4 j (by omega), z3 j hj]
    have er : ∀ a w, a < 14 → w < 7 → rm (w1 g4 270 5 0) a w = td h a w := fun a w ha hw => by
      unfold rm td
      rw [w1_ne (by decide), Nat.add_assoc, y4 (7 * a + w) (by omega), F3.1 277 (by decide), F2.1 277 (by decide)]
    have es : ∀ p, p < 7 → (w1 g4 270 5 0).1 271 (44 + p) = h.1 276 p := fun p hp => by
      rw [w1_ne (by decide), z4 (44 + p) (by omega), y3 p hp, F2.1 276 (by decide)]
    have e271 : (w1 g4 270 5 0).1 271 = g4.1 271 := w1_ne (by decide)
    have pin : ∀ a, a < k → ∀ w, w = 0 ∨ w = 1 → vp_in (td h a w) m := by
      intro a ha w hw
      have A := G.2.2.2.2 a ha
      have vw : vp_in (td h a w) 7 ∧ h.1 278 (td h a w).toNatClampNeg ≠ -1 := by
        rcases hw with rfl | rfl
        · exact ⟨A.1, A.2.2.2.2.2.1⟩
        · exact ⟨A.2.1, A.2.2.2.2.2.2⟩
      obtain ⟨p, hp, ep⟩ := vi_nI vw.1
      have n1 := vw.2
      rw [ep, nI_clamp (by omega)] at n1
      rw [ep]
      rcases Nat.lt_or_ge p m with z | z
      · exact vi_of z (by omega)
      · exact absurd (mi p z hp) n1
    have B : BI (w1 g4 270 5 0) m k := by
      have k14 := G.1
      refine ⟨⟨⟨m2, m7, k14⟩, by rw [e271, s4 0 (by decide)]; exact x0, by rw [e271, s4 1 (by decide)]; exact x1, fun a ha => ?_⟩, ⟨0, by omega, by rw [e271, s4 6 (by decide), x6]; rfl⟩, ⟨0, by omega, by rw [e271, s4 7 (by decide), x7]; rfl⟩, fun a ha => ?_, fun a ha => ?_, fun a ha => ?_, fun p hp => ?_⟩
      · rw [er a 0 (by omega) (by decide), er a 1 (by omega) (by decide)]
        exact ⟨pin a ha 0 (Or.inl rfl), pin a ha 1 (Or.inr rfl)⟩
      · rw [er a 0 (by omega) (by decide), er a 1 (by omega) (by decide)]
        exact (G.2.2.2.2 a ha).2.2.2.2.1 e13
      · rw [er a 2 (by omega) (by decide)]
        exact (G.2.2.2.2 a ha).2.2.1
      · rw [er a 3 (by omega) (by decide)]
        exact (G.2.2.2.2 a ha).2.2.2.1
      · rw [es p (by omega)]
        exact G.2.2.2.1 p (by omega)
    have s5 := sx_bgn (d := d) B.1 0
    obtain ⟨G5, F5⟩ := bgn_ok (w := 0) (M := M) B
    generalize bgn (w1 g4 270 5 0) m k 0 = g5 at s5 G5 F5
    refine s5 _ (go_X9_taken_128 (by decide) (q _ g5 ⟨G5, ?_, fun e h1 h2 => ?_, fun ix hx => ?_⟩))
    · rw [F5.1 270 (by decide), w1_eq]
      rfl
    · rw [F5.1 e h2, w1_ne h1]
      exact lo e h2
    · rw [F5.2.2 ix (Or.inr (Or.inl hx)), w1_ne (by decide)]
      exact hi ix hx
  exact key _ _ _ (by show g1.1 270 18 = nI m; rw [F1.1 270 (by decide)]; exact e18) (by show g1.1 270 19 = nI k; rw [F1.1 270 (by decide)]; exact G.2.1)
end RLZ
