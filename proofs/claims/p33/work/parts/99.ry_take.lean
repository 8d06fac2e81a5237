/-! ===== lay: what the two sides gather is the same; what the reference takes ===== -/
section RYT
variable {h g : LH} {M d : Nat}
/-- two states of reading that are alike where it counts -/
def SEq (s s2 : px_S) : Prop := s.bad = s2.bad ∧ s.pts = s2.pts ∧ s.n = s2.n ∧ s.ru = s2.ru ∧ (∀ p, p < 7 → s.su p = s2.su p) ∧ ∀ j, j < 98 → s.tl j = s2.tl j
theorem S0.se {s s2 : px_S} (a : S0 s) (b : S0 s2) : SEq s s2 := ⟨a.1.trans b.1.symm, a.2.2.1.trans b.2.2.1.symm, a.2.2.2.1.trans b.2.2.2.1.symm, a.2.2.2.2.1.trans b.2.2.2.2.1.symm, fun p hp => (a.2.2.2.2.2.1 p hp).trans (b.2.2.2.2.2.1 p hp).symm, fun j hj => (a.2.2.2.2.2.2 j hj).trans (b.2.2.2.2.2.2 j hj).symm⟩
theorem pw_se {f f2 : Nat → Int32} {i : Nat} {v : Int32} {N : Nat} (e : ∀ j, j < N → f j = f2 j) : ∀ j, j < N → px_pw f i v j = px_pw f2 i v j := fun j hj => by
  unfold px_pw
  split
  · rfl
  · exact e j hj
theorem tl_se {f f2 : Nat → Int32} {n : Nat} {a b c d : Int32} (e : ∀ j, j < 98 → f j = f2 j) : ∀ j, j < 98 → px_tl f n a b c d j = px_tl f2 n a b c d j := by
  intro j hj
  unfold px_tl
  rw [e j hj]
theorem sl_se {v b : Nat} {l : List (Int32 × Nat)} {s s2 : px_S} (E : SEq s s2) : SEq (px_sl v b l s) (px_sl v b l s2) := by
  obtain ⟨bad, fa, pts, n, ru, su, tl⟩ := s
  obtain ⟨bad2, fa2, pts2, n2, ru2, su2, tl2⟩ := s2
  obtain ⟨e1, e2, e3, e4, e5, e6⟩ := E
  have e1 : bad = bad2 := e1
  have e2 : pts = pts2 := e2
  have e3 : n = n2 := e3
  have e4 : ru = ru2 := e4
  have e5 : ∀ p, p < 7 → su p = su2 p := e5
  have e6 : ∀ j, j < 98 → tl j = tl2 j := e6
  subst e1 e2 e3 e4
  unfold px_sl
  split
  · exact ⟨rfl, rfl, rfl, rfl, e5, e6⟩
  · split
    · refine ⟨rfl, rfl, rfl, rfl, e5, ?_⟩
      show ∀ j, j < 98 → (if n < 14 then _ else tl) j = (if n < 14 then _ else tl2) j
      split
      · exact tl_se e6
      · exact e6
    · split
      · exact ⟨rfl, rfl, rfl, rfl, pw_se e5, e6⟩
      · split
        · refine ⟨rfl, rfl, rfl, rfl, e5, ?_⟩
          show ∀ j, j < 98 → (if rf_in (px_rd (l.getD 0 (0, 0)).1 0 (nI n - 1)) 0 (nI n - 1) = true then _ else tl) j = (if rf_in (px_rd (l.getD 0 (0, 0)).1 0 (nI n - 1)) 0 (nI n - 1) = true then _ else tl2) j
          split
          · exact pw_se e6
          · exact e6
        · exact ⟨rfl, rfl, rfl, rfl, e5, e6⟩
theorem sS_se : ∀ (ls : List px_L) (s s2 : px_S), SEq s s2 → SEq (px_sS ls s) (px_sS ls s2)
  | [], _, _, E => E
  | L :: r, s, s2, E => by
    rw [px_sS, px_sS]
    exact sS_se r _ _ (sl_se E)
/-- what is never told of an arc -/
def SI (s : px_S) : Prop := ∀ a, s.tl (7 * a + 4) = 0 ∧ (s.tl (7 * a + 6) = 0 ∨ s.tl (7 * a + 6) = 1)
theorem sl_si {v b : Nat} {l : List (Int32 × Nat)} {s : px_S} (E : SI s) : SI (px_sl v b l s) := by
  obtain ⟨bad, fa, pts, n, ru, su, tl⟩ := s
  have E : ∀ a, tl (7 * a + 4) = 0 ∧ (tl (7 * a + 6) = 0 ∨ tl (7 * a + 6) = 1) := E
  unfold px_sl
  split
  · exact E
  · split
    · show ∀ a, (if n < 14 then _ else tl) (7 * a + 4) = 0 ∧ ((if n < 14 then _ else tl) (7 * a + 6) = 0 ∨ (if n < 14 then _ else tl) (7 * a + 6) = 1)
      split
      · intro a
        have t : ∀ (c0 c1 c2 c3 : Int32) (i : Nat), i ≠ 7 * n + 3 → i ≠ 7 * n + 2 → i ≠ 7 * n + 1 → i ≠ 7 * n → px_tl tl n c0 c1 c2 c3 i = tl i := fun c0 c1 c2 c3 i h3 h2 h1 h0 => by
          unfold px_tl
          rw [if_neg h3, if_neg h2, if_neg h1, if_neg h0]
        show px_tl tl n _ _ _ _ (7 * a + 4) = 0 ∧ (px_tl tl n _ _ _ _ (7 * a + 6) = 0 ∨ px_tl tl n _ _ _ _ (7 * a + 6) = 1)
        rw [t _ _ _ _ _ (by omega) (by omega) (by omega) (by omega), t _ _ _ _ _ (by omega) (by omega) (by omega) (by omega)]
        exact E a
      · exact E
    · split
      · exact E
      · split
        · show ∀ a, (if rf_in (px_rd (l.getD 0 (0, 0)).1 0 (nI n - 1)) 0 (nI n - 1) = true then _ else tl) (7 * a + 4) = 0 ∧ ((if rf_in (px_rd (l.getD 0 (0, 0)).1 0 (nI n - 1)) 0 (nI n - 1) = true then _ else tl) (7 * a + 6) = 0 ∨ (if rf_in (px_rd (l.getD 0 (0, 0)).1 0 (nI n - 1)) 0 (nI n - 1) = true then _ else tl) (7 * a + 6) = 1)
          split
          · intro a
            unfold px_pw
            rw [if_neg (by omega)]
            refine ⟨(E a).1, ?_⟩
            split
            · exact Or.inr rfl
            · exact (E a).2
          · exact E
        · exact E
theorem sS_si : ∀ (ls : List px_L) (s : px_S), SI s → SI (px_sS ls s)
  | [], _, E => E
  | L :: r, s, E => by
    rw [px_sS]
    exact sS_si r _ (sl_si E)
/-- the row that is taken, before it begins -/
def TKr (h r : LH) (m k : Nat) : Prop := BI r m k ∧ r.1 271 2 = h.1 270 20 ∧ (r.1 271 3 = 0 ∧ r.1 271 4 = 0 ∧ r.1 271 5 = 0 ∧ r.1 271 6 = -1 ∧ r.1 271 7 = 0) ∧ (∀ p, p < 7 → r.1 271 (44 + p) = h.1 276 p) ∧ ∀ a w, a < 14 → w < 7 → rm r a w = td h a w
theorem rx_ta {k m : Nat} (G : GT h k) (e18 : h.1 270 18 = nI m) (m2 : 2 ≤ m) (m7 : m ≤ 7) (e13 : h.1 270 13 = -1) (mi : ∀ p, m ≤ p → p < 7 → h.1 278 p = -1) : tf_Sp (d + 3) 23 [.ref 270] h (fun _ g => ∃ r, TKr h r m k ∧ ∀ i, g.1 271 i = (bgn r m k 0).1 271 i) := by
  intro Q q
  refine en_X9_taken (by decide) (go_X9_taken_0 (by decide) (ta_1 (h := h) (fun g1 x F1 z1 => go_X9_taken_22 (by decide) ?_) 170 0 h (by omega) ⟨fun _ _ => rfl, fun _ _ => rfl⟩ (fun j hj => absurd hj (by omega))))
  have key : ∀ (a0 a1 a2 : Int32), a0 = nI m → a1 = nI k → a2 = h.1 270 20 → lx_X9_taken 298 (tf_Cd 298 (d + 2)) Q 62 [.ref 270, .int 0] [] (w1 (w1 (w1 (w1 g1 271 0 a0) 271 1 a1) 271 2 a2) 271 6 (-1)) := by
    rintro a0 a1 a2 rfl rfl ea2
    have F2 : FW h (w1 (w1 (w1 (w1 g1 271 0 (nI m)) 271 1 (nI k)) 271 2 a2) 271 6 (-1)) := (((F1.w (by decide)).w (by decide)).w (by decide)).w (by decide)
    have x0 : (w1 (w1 (w1 (w1 g1 271 0 (nI m)) 271 1 (nI k)) 271 2 a2) 271 6 (-1)).1 271 0 = nI m := by rw [w1_at (by decide), w1_at (by decide), w1_at (by decide), w1_eq]
    have x1 : (w1 (w1 (w1 (w1 g1 271 0 (nI m)) 271 1 (nI k)) 271 2 a2) 271 6 (-1)).1 271 1 = nI k := by rw [w1_at (by decide), w1_at (by decide), w1_eq]
    have x2 : (w1 (w1 (w1 (w1 g1 271 0 (nI m)) 271 1 (nI k)) 271 2 a2) 271 6 (-1)).1 271 2 = a2 := by rw [w1_at (by decide), w1_eq]
    have x6 : (w1 (w1 (w1 (w1 g1 271 0 (nI m)) 271 1 (nI k)) 271 2 a2) 271 6 (-1)).1 271 6 = -1 := w1_eq
    have xx : ∀ j, j < 170 → j ≠ 0 → j ≠ 1 → j ≠ 2 → j ≠ 6 → (w1 (w1 (w1 (w1 g1 271 0 (nI m)) 271 1 (nI k)) 271 2 a2) 271 6 (-1)).1 271 j = 0 := fun j hj h0 h1 h2 h6 => by rw [w1_at h6, w1_at h2, w1_at h1, w1_at h0]; exact z1 j hj
    generalize w1 (w1 (w1 (w1 g1 271 0 (nI m)) 271 1 (nI k)) 271 2 a2) 271 6 (-1) = g2 at F2 x0 x1 x2 x6 xx
    have x7 := xx 7 (by decide) (by decide) (by decide) (by decide) (by decide)
    refine ta_2 (h := g2) (fun g3 x F3 z3 y3 _ => go_X9_taken_89 (by decide) (ta_3 (h := g3) (fun g4 x F4 z4 y4 => go_X9_taken_118 (by decide) ?_) 98 0 g3 (by omega) ⟨fun _ _ => rfl, fun _ _ => rfl⟩ (fun _ _ => rfl) (fun j hj => absurd hj (by omega)))) 7 0 g2 (by omega) ⟨fun _ _ => rfl, fun _ _ => rfl⟩ (fun _ _ => rfl) (fun j hj => absurd hj (by omega)) (fun _ _ _ => rfl)
    have s4 : ∀ j, j < 44 → g4.1 271 j = g2.1 271 j := fun j hj => by rw [z4 j (by omega), z3 j hj]
    have er : ∀ a w, a < 14 → w < 7 → rm (w1 g4 270 5 0) a w = td h a w := fun a w ha hw => by
      unfold rm td
      rw [w1_ne (by decide), Nat.add_assoc, y4 (7 * a + w) (by omega), F3.1 277 (by decide), F2.1 277 (by decide)]
    have es : ∀ p, p < 7 → (w1 g4 270 5 0).1 271 (44 + p) = h.1 276 p := fun p hp => by
      rw [w1_ne (by decide), z4 (44 + p) (by omega), y3 p hp, F2.1 276 (by decide)]
    have e271 : (w1 g4 270 5 0).1 271 = g4.1 271 := w1_ne (by decide)
    have pin : ∀ a, a < k → ∀ w, w = 0 ∨ w = 1 → vp_in (td h a w) m := by
      intro a ha w hw
      have A := G.2.2.2.2 a ha
      have vw : vp_in (td h a w) 7 ∧ h.1 278 (td h a w).toNatClampNeg ≠ -1 := by
        rcases hw with rfl | rfl
        · exact ⟨A.1, A.2.2.2.2.2.1⟩
        · exact ⟨A.2.1, A.2.2.2.2.2.2⟩
      obtain ⟨p, hp, ep⟩ := vi_nI vw.1
      have n1 := vw.2
      rw [ep, nI_clamp (by omega)] at n1
      rw [ep]
      rcases Nat.lt_or_ge p m with z | z
      · exact vi_of z (by omega)
      · exact absurd (mi p z hp) n1
    have B : BI (w1 g4 270 5 0) m k := by
      have k14 := G.1
      refine ⟨⟨⟨m2, m7, k14⟩, by rw [e271, s4 0 (by decide)]; exact x0, by rw [e271, s4 1 (by decide)]; exact x1, fun a ha => ?_⟩, ⟨0, by omega, by rw [e271, s4 6 (by decide), x6]; rfl⟩, ⟨0, by omega, by rw [e271, s4 7 (by decide), x7]; rfl⟩, fun a ha => ?_, fun a ha => ?_, fun a ha => ?_, fun p hp => ?_⟩
      · rw [er a 0 (by omega) (by decide), er a 1 (by omega) (by decide)]
        exact ⟨pin a ha 0 (Or.inl rfl), pin a ha 1 (Or.inr rfl)⟩
      · rw [er a 0 (by omega) (by decide), er a 1 (by omega) (by decide)]
        exact (G.2.2.2.2 a ha).2.2.2.2.1 e13
      · rw [er a 2 (by omega) (by decide)]
        exact (G.2.2.2.2 a ha).2.2.1
      · rw [er a 3 (by omega) (by decide)]
        exact (G.2.2.2.2 a ha).2.2.2.1
      · rw [es p (by omega)]
        exact G.2.2.2.1 p (by omega)
    have s5 := sx_bgn (d := d) B.1 0
    refine s5 _ (go_X9_taken_128 (by decide) (q _ _ ⟨w1 g4 270 5 0, ⟨B, ?_, ⟨?_, ?_, ?_, ?_, ?_⟩, es, er⟩, fun i => rfl⟩))
    · rw [e271, s4 2 (by decide), x2, ea2]
    · rw [e271, s4 3 (by decide), xx 3 (by decide) (by decide) (by decide) (by decide) (by decide)]
    · rw [e271, s4 4 (by decide), xx 4 (by decide) (by decide) (by decide) (by decide) (by decide)]
    · rw [e271, s4 5 (by decide), xx 5 (by decide) (by decide) (by decide) (by decide) (by decide)]
    · rw [e271, s4 6 (by decide), x6]
    · rw [e271, s4 7 (by decide), x7]
  exact key _ _ _ (by show g1.1 270 18 = nI m; rw [F1.1 270 (by decide)]; exact e18) (by show g1.1 270 19 = nI k; rw [F1.1 270 (by decide)]; exact G.2.1) (by show g1.1 270 20 = _; rw [F1.1 270 (by decide)])
end RYT
