/-! ===== a pivot keeps the grid ===== -/
section RK9
variable {g : LH} {n k M : Nat}
/-- debts after the flows -/
theorem tn3_pt (T : LT g n k) (A : AG g n k) (D : DB g n M) (hM : M ≤ 20000000) {a x y m : Nat} (ha : a < k) (hx : x ≤ n) (hy : y ≤ n) (ho : rf_off g a = true) (hm : m < lc_n g x y) (er : rr (lc g a x y) m = rlr (lc g a x y) (lc_n g x y) 0 1000000) {p : Nat} (hp : p < n) : ∃ v, v ≤ 2000 + 99 * (M + 1) ∧ (tn3 g a x y).1 271 (65 + p) = nI v := by
  have hn := T.1.1
  have e271 := lc_271 T ha hx hy
  obtain ⟨dl, hdl, edl, all⟩ := lc_dl T A D hM ha hx hy hm er
  obtain ⟨v, h1, h3, -⟩ := D p hp
  have hinj : ∀ m1 m2, m1 < lc_n g x y → m2 < lc_n g x y → fx ((lc g a x y).1 285 m1) = fx ((lc g a x y).1 285 m2) → m1 = m2 := fun m1 m2 q1 q2 e => lc_inj T ha hx hy ho q1 q2 (fx_inj hn.2.1 hn.2.2 (lc_ed T ha hx hy q1) (lc_ed T ha hx hy q2) e)
  by_cases hc : ∃ i, i < lc_n g x y ∧ (lc g a x y).1 285 i = nI (100 + p)
  · obtain ⟨i, hi, ei⟩ := hc
    have fi : fx ((lc g a x y).1 285 i) = 65 + p := by rw [ei]; exact fx_p (by omega)
    have val := fls_at (dl := nI dl) (m := i) (lc_n g x y) 0 (lc g a x y) (Nat.zero_le _) (by omega) (fun m2 _ q2 e => hinj m2 i (by omega) hi e)
    rw [fi, e271] at val
    have val2 : (tn3 g a x y).1 271 (65 + p) = g.1 271 (65 + p) + (if (lc g a x y).1 286 i = 0 then -nI dl else nI dl) := by
      unfold tn3
      rw [edl]
      exact val
    have hroom : rr (lc g a x y) i = nI (if (lc g a x y).1 286 i = 0 then v else 1000000) := by
      rcases lc_room T A D hM ha hx hy hi with ⟨b2, hb2, q0, -⟩ | ⟨p2, hp2, q0, v2, q1, q2, q3⟩
      · have := (nI_eq (by omega) (by omega)).mp (q0.symm.trans ei)
        omega
      · have : p2 = p := by
          have := (nI_eq (by omega) (by omega)).mp (q0.symm.trans ei)
          omega
        subst this
        have ev : v2 = v := (nI_eq (by omega) (by omega)).mp (q2.symm.trans h3)
        rw [← ev]
        exact q3
    have le := all i _ hi (by split <;> omega) hroom
    by_cases c : (lc g a x y).1 286 i = 0
    · rw [if_pos c] at val2 le
      rw [h3, nI_subneg le] at val2
      exact ⟨v - dl, by omega, val2⟩
    · rw [if_neg c] at val2
      rw [h3, nI_add] at val2
      exact ⟨v + dl, by omega, val2⟩
  · have val := fls_out (dl := nI dl) (ix := 65 + p) (lc_n g x y) 0 (lc g a x y) (fun m2 _ q2 e => hc ⟨m2, by omega, by
      rcases lc_ed T ha hx hy (show m2 < lc_n g x y by omega) with ⟨b2, hb2, eb⟩ | ⟨p2, hp2, ep⟩
      · rw [eb, fx_a (by omega)] at e
        omega
      · rw [ep, fx_p (by omega)] at e
        rw [ep, show p2 = p by omega]⟩)
    rw [e271] at val
    have val2 : (tn3 g a x y).1 271 (65 + p) = g.1 271 (65 + p) := by
      unfold tn3
      rw [edl]
      exact val
    exact ⟨v, by omega, val2.trans h3⟩
theorem rp_at {a w : Nat} {v : Int32} : (rp g a w v).1 271 (72 + 7 * a + w) = v := w1_eq
theorem rp_ne {a w ix : Nat} {v : Int32} (h : ix ≠ 72 + 7 * a + w) : (rp g a w v).1 271 ix = g.1 271 ix := w1_at h
/-- where the arcs stand afterwards, and the loans -/
theorem tn4_lo {a : Nat} {id : Int32} (E : ED n k id) (hn : n ≤ 7) (hk : k ≤ 14) (ha : a < k) : (∀ e, e ≠ 271 → (tn4 g a id).1 e = g.1 e) ∧ (tn4 g a id).2 = g.2 ∧ (∀ ix, ¬ (51 ≤ ix ∧ ix < 58) → (∀ b, b < k → ix ≠ 72 + 7 * b + 5) → (tn4 g a id).1 271 ix = g.1 271 ix) ∧ (id ≠ nI a → rm (tn4 g a id) a 5 = 2) ∧ (id = nI a → rm (tn4 g a id) a 5 = (if rm g a 5 = 0 then 1 else 0)) ∧ (∀ b, b ≠ a → b < k → id ≠ nI b → rm (tn4 g a id) b 5 = rm g b 5) ∧ (∀ b, b ≠ a → b < k → id = nI b → rm (tn4 g a id) b 5 = (if rm g b 4 = 0 then 0 else 1)) ∧ (∀ p, p < n → id ≠ nI (100 + p) → (tn4 g a id).1 271 (51 + p) = g.1 271 (51 + p)) := by
  unfold tn4
  rcases E with ⟨c, hc, ec⟩ | ⟨p, hp, ep⟩
  · by_cases hca : c = a
    · subst hca
      rw [if_pos ec]
      refine ⟨fun e he => w1_ne he, rfl, fun ix _ h2 => rp_ne (h2 c ha), fun z => absurd ec z, fun _ => rp_at, fun b h1 h2 _ => rp_ne (by omega), fun b h1 h2 h3 => ?_, fun p hp _ => rp_ne (by omega)⟩
      exact absurd ((nI_eq (by omega) (by omega)).mp (h3.symm.trans ec)) h1
    · have hne : ¬ id = nI a := fun z => hca ((nI_eq (by omega) (by omega)).mp (ec.symm.trans z))
      rw [if_neg hne]
      unfold go_o
      rw [ec, loan_a (by omega), if_neg Bool.false_ne_true, nI_clamp (by omega)]
      have r4 : rm (rp g a 5 2) c 4 = rm g c 4 := rp_ne (by omega)
      rw [r4]
      refine ⟨fun e he => (w1_ne he).trans (w1_ne he), rfl, fun ix _ h2 => (rp_ne (h2 c hc)).trans (rp_ne (h2 a ha)), fun _ => (rp_ne (by omega)).trans rp_at, fun z => absurd (ec.trans z) hne, fun b h1 h2 h3 => ?_, fun b h1 h2 h3 => ?_, fun p hp _ => (rp_ne (by omega)).trans (rp_ne (by omega))⟩
      · have : b ≠ c := fun z => h3 (by rw [z])
        exact (rp_ne (by omega)).trans (rp_ne (by omega))
      · have : c = b := (nI_eq (by omega) (by omega)).mp h3
        subst this
        exact rp_at
  · have hne : ¬ id = nI a := fun z => by
      have := (nI_eq (by omega) (by omega)).mp (ep.symm.trans z)
      omega
    rw [if_neg hne]
    unfold go_o
    have i51 : (51 : Int32) + id - 100 = nI (51 + p) := by rw [ep]; exact loan_ix (c := 51)
    rw [i51, ep, loan_p (by omega), if_pos rfl, nI_clamp (by omega)]
    refine ⟨fun e he => (w1_ne he).trans (w1_ne he), rfl, fun ix h1 h2 => (w1_at (by omega)).trans (rp_ne (h2 a ha)), fun _ => (w1_at (by omega)).trans rp_at, fun z => absurd (ep.trans z) hne, fun b h1 h2 h3 => (w1_at (by omega)).trans (rp_ne (by omega)), fun b h1 h2 h3 => ?_, fun q hq h1 => ?_⟩
    · have := (nI_eq (by omega) (by omega)).mp h3
      omega
    · have : q ≠ p := fun z => h1 (by rw [z])
      exact (w1_at (by omega)).trans (rp_ne (by omega))
theorem ip_s7 : ∀ (f : Nat) (g : LH), (ip_s f g).1 271 7 = g.1 271 7
  | 0, _ => rfl
  | f + 1, g => by
    rw [ip_s, ip_s7 f, w1_at (by omega)]
theorem ip_gn {x y z : Int32} (N : GN g) : GN (ip g x y z) ∧ (ip g x y z).1 271 6 = x := by
  obtain ⟨v, hv, e⟩ := N
  refine ⟨?_, ?_⟩
  · unfold ip ip_6 ip_5 ip_4 ip_3 GN
    rw [w1_at (by omega), w1_at (by omega), w1_at (by omega), w1_eq, w1_at (by omega), w1_at (by omega), w1_at (by omega), ip_s7, e, nI_1]
    unfold rf_le
    by_cases c : nI (v + 1) ≤ 12
    · rw [if_pos c]
      exact ⟨v + 1, (nI_leI (a := v + 1) (b := 12) (by omega) (by omega)).mp c, rfl⟩
    · rw [if_neg c]
      exact ⟨12, Nat.le_refl _, rfl⟩
  · unfold ip
    rw [w1_eq]
/-- what a pivot leaves of the row as it was -/
def KX (ix : Nat) : Prop := ix < 3 ∨ (44 ≤ ix ∧ ix < 51) ∨ (58 ≤ ix ∧ ix < 65) ∨ 170 ≤ ix ∨ ∃ b w, ix = 72 + 7 * b + w ∧ w < 7 ∧ w ≠ 4 ∧ w ≠ 5
theorem tn_keep (T : LT g n k) (C : CP g n k) (B : FB g k) (A : AG g n k) (D : DB g n M) (N : GN g) (hM : M ≤ 20000000) {a x y m : Nat} (ha : a < k) (hx : x < n) (hy : y < n) (ho : rf_off g a = true) (ex : (if rm g a 5 = 0 then rm g a 0 else rm g a 1) = nI x) (ey : (if rm g a 5 = 0 then rm g a 1 else rm g a 0) = nI y) (hm : m < lc_n g x y) (er : rr (lc g a x y) m = rlr (lc g a x y) (lc_n g x y) 0 1000000) : GI (tn5 g a x y m) n k (M + 1) ∧ (∀ ix, KX ix → (tn5 g a x y m).1 271 ix = g.1 271 ix) ∧ (∀ e, e ≠ 271 → e ≠ 285 → e ≠ 286 → e ≠ 270 → (tn5 g a x y m).1 e = g.1 e) ∧ (tn5 g a x y m).2 = g.2 ∧ (∀ i, i ≠ 30 → i ≠ 31 → (tn5 g a x y m).1 270 i = g.1 270 i) := by
  have hn := T.1.1
  have hx' : x ≤ n := by omega
  have hy' : y ≤ n := by omega
  obtain ⟨Y, FJ, -, -, -, -⟩ := lc_ok T ha hx' hy'
  have E := lc_ed T (m := m) ha hx' hy' hm
  have W := fls_fw (dl := rlr (lc g a x y) (lc_n g x y) 0 1000000) (lc_n g x y) 0 (lc g a x y) Y (by omega)
  have ar := fun b (hb : b < k) => tn3_arc T A D hM ha hx' hy' ho hm er ex hb
  have pt := fun p (hp : p < n) => tn3_pt T A D hM ha hx' hy' ho hm er hp
  have e271 := lc_271 T ha hx' hy'
  have ids := lc_ids (a := a) hm
  have brn := lc_branch T hx' hy'
  have hnd : rm g a 5 = 0 ∨ rm g a 5 = 1 := off_w ho
  have hW : Fw (lc g a x y) (tn3 g a x y) := W
  -- the row before the standings change
  have g3ix : ∀ ix, ¬ IXF ix → (tn3 g a x y).1 271 ix = g.1 271 ix := fun ix h => by rw [hW.2.2 ix h, e271]
  have g35 : ∀ b, rm (tn3 g a x y) b 5 = rm g b 5 := fun b => g3ix _ (by unfold IXF; intro z; rcases z with z | ⟨c, -, z⟩ <;> omega)
  have g3N : (tn3 g a x y).1 271 7 = g.1 271 7 := g3ix 7 (by unfold IXF; intro z; rcases z with z | ⟨c, -, z⟩ <;> omega)
  have f1 : ∀ e, e ≠ 271 → e ≠ 285 → e ≠ 286 → e ≠ 270 → (tn3 g a x y).1 e = g.1 e := fun e h1 h2 h3 h4 => (hW.1 e h1).trans (FJ.1 e h2 h3 h4)
  have f2 : (tn3 g a x y).2 = g.2 := hW.2.1.trans FJ.2.1
  have f3 : ∀ i, i ≠ 30 → i ≠ 31 → (tn3 g a x y).1 270 i = g.1 270 i := fun i h1 h2 => by rw [hW.1 270 (by decide)]; exact FJ.2.2 i h1 h2
  unfold tn5
  generalize rlr (lc g a x y) (lc_n g x y) 0 1000000 = dl at *
  generalize (lc g a x y).1 285 m = id at *
  generalize tn3 g a x y = g3 at *
  obtain ⟨t1, t2, t3, t4, t5, t6, t7, t8⟩ := tn4_lo (g := g3) E hn.2.1 hn.2.2 ha
  have N4 : GN (tn4 g3 a id) := by
    unfold GN
    rw [t3 7 (by omega) (fun b _ => by omega), g3N]
    exact N
  generalize tn4 g3 a id = g4 at *
  have P := ip_fp (g := g4) (x := nI a) (y := id) (z := dl)
  obtain ⟨N5, L5⟩ := ip_gn (x := nI a) (y := id) (z := dl) N4
  generalize ip g4 (nI a) id dl = G at *
  have keep : ∀ ix, KX ix → G.1 271 ix = g.1 271 ix := by
    intro ix hk
    have c1 : ix < 3 ∨ 44 ≤ ix := by rcases hk with z | z | z | z | ⟨b, w, z, -⟩ <;> omega
    have c2 : ¬ (51 ≤ ix ∧ ix < 58) := by rcases hk with z | z | z | z | ⟨b, w, z, -⟩ <;> omega
    have c3 : ∀ b, b < k → ix ≠ 72 + 7 * b + 5 := by
      intro b hb e
      rcases hk with z | z | z | z | ⟨b2, w, z, h1, h2, h3⟩ <;> omega
    have c4 : ¬ IXF ix := by
      intro z2
      unfold IXF at z2
      rcases z2 with z2 | ⟨c, hc, z2⟩ <;> rcases hk with z | z | z | z | ⟨b2, w, z, h1, h2, h3⟩ <;> omega
    rw [P.2.2 ix c1, t3 ix c2 c3, g3ix ix c4]
  have kr : ∀ b w, w < 7 → w ≠ 4 → w ≠ 5 → rm G b w = rm g b w := fun b w h1 h2 h3 => keep _ (Or.inr (Or.inr (Or.inr (Or.inr ⟨b, w, rfl, h1, h2, h3⟩))))
  have k4 : ∀ b, b < k → rm G b 4 = rm g3 b 4 := fun b hb => by
    unfold rm
    rw [P.2.2 _ (by omega), t3 _ (by omega) (fun c _ => by omega)]
  have k5 : ∀ b, rm G b 5 = rm g4 b 5 := fun b => P.2.2 _ (by omega)
  have k51 : ∀ p, p < n → G.1 271 (51 + p) = g4.1 271 (51 + p) := fun p _ => P.2.2 _ (by omega)
  have g351 : ∀ p, p < n → g3.1 271 (51 + p) = g.1 271 (51 + p) := fun p hp => g3ix _ (by unfold IXF; intro z; rcases z with z | ⟨c, -, z⟩ <;> omega)
  refine ⟨⟨⟨T.1.1, by rw [keep 0 (Or.inl (by omega))]; exact T.1.2.1, by rw [keep 1 (Or.inl (by omega))]; exact T.1.2.2.1, fun b hb => by rw [kr b 0 (by omega) (by omega) (by omega), kr b 1 (by omega) (by omega) (by omega)]; exact T.1.2.2.2 b hb⟩, ?_, ⟨a + 1, by omega, by rw [L5, nI_1]⟩, ?_, ⟨fun b hb => by rw [kr b 0 (by omega) (by omega) (by omega), kr b 1 (by omega) (by omega) (by omega)]; exact A.1 b hb, fun b hb => ?_, fun b hb => by rw [kr b 3 (by omega) (by omega) (by omega)]; exact A.2.2.1 b hb, fun p hp => by rw [keep _ (Or.inr (Or.inl (by omega)))]; exact A.2.2.2 p hp⟩, fun p hp => ?_, N5⟩, keep, fun e h1 h2 h3 h4 => ?_, ?_, fun i h1 h2 => ?_⟩
  · -- the cut property
    have hR : ∀ b, b < k → rm G b 0 = rm g b 0 ∧ rm G b 1 = rm g b 1 := fun b _ => ⟨kr b 0 (by omega) (by omega) (by omega), kr b 1 (by omega) (by omega) (by omega)⟩
    by_cases hid : id = nI a
    · refine C.hang hR (fun b hb hh => ?_) (fun p hp hl => ?_)
      · by_cases hba : b = a
        · subst hba
          unfold rf_hangs at hh
          have h2 := of_decide_eq_true hh
          rcases hnd with z | z
          · rw [z] at h2
            exact absurd h2 (by decide)
          · rw [z] at h2
            exact absurd h2 (by decide)
        · unfold rf_hangs at hh ⊢
          rw [k5, t6 b hba hb (fun z => hba ((nI_eq (by omega) (by omega)).mp (z.symm.trans hid))), g35]
          exact hh
      · rw [k51 p hp, t8 p hp (fun z => by
          have := (nI_eq (by omega) (by omega)).mp (z.symm.trans hid)
          omega), g351 p hp]
        exact hl
    · obtain ⟨i, j, ei, ej, hi, hj, ez, dis⟩ := brn
      rw [ei, ej] at ids
      have hp0 : ∃ p0, ((∃ i0, i0 < i ∧ p0 = tw g i0 x) ∨ ∃ j0, j0 < j ∧ p0 = tw g j0 y) ∧ id = g.1 282 p0 := by
        rcases ids with z | ⟨i0, h1, h2⟩ | ⟨j0, h1, h2⟩
        · exact absurd z hid
        · exact ⟨_, Or.inl ⟨i0, h1, rfl⟩, h2⟩
        · exact ⟨_, Or.inr ⟨j0, h1, rfl⟩, h2⟩
      obtain ⟨p0, on, eid⟩ := hp0
      have ends : (rm g a 0 = nI x ∧ rm g a 1 = nI y) ∨ (rm g a 1 = nI x ∧ rm g a 0 = nI y) := by
        by_cases z : rm g a 5 = 0
        · rw [if_pos z] at ex ey
          exact Or.inl ⟨ex, ey⟩
        · rw [if_neg z] at ex ey
          exact Or.inr ⟨ex, ey⟩
      refine CP.piv T C ha hx hy ends hi hj ez dis on hR ?_ (fun b hb hne hh => ?_) (fun p hp hne hl => ?_)
      · unfold rf_hangs
        rw [k5, t4 hid]
        rfl
      · by_cases hba : b = a
        · rw [hba]
          unfold rf_hangs
          rw [k5, t4 hid]
          rfl
        · unfold rf_hangs at hh ⊢
          rw [k5, t6 b hba hb (fun z => hne (by rw [← eid]; exact z)), g35]
          exact hh
      · rw [k51 p hp, t8 p hp (fun z => hne (by rw [← eid]; exact z)), g351 p hp]
        exact hl
  · -- empty or full
    intro b hb
    obtain ⟨v, bd, h1, h2, h3, h4, h5, h6, h7⟩ := ar b hb
    rw [kr b 2 (by omega) (by omega) (by omega), k4 b hb, k5 b]
    refine ⟨(B b hb).1, ?_⟩
    by_cases hba : b = a
    · by_cases hid : id = nI a
      · have w := h7 hba hid (A.1 a ha) B
        rw [hba, t5 hid, g35]
        rw [hba] at h3 h4
        rw [h3, h4]
        rcases hnd with z | z
        · rw [if_pos z]
          exact ⟨fun q => absurd q (by decide), fun _ => by rw [w.1 z]⟩
        · rw [if_neg (by rw [z]; decide)]
          exact ⟨fun _ => by rw [w.2 z]; rfl, fun q => absurd q (by decide)⟩
      · rw [hba, t4 hid]
        exact ⟨fun q => absurd q (by decide), fun q => absurd q (by decide)⟩
    · by_cases hid : id = nI b
      · rw [t7 b hba hb hid, h3, h4]
        rcases h5 hid with z | z
        · rw [z, if_pos nI_0]
          exact ⟨fun _ => rfl, fun q => absurd q (by decide)⟩
        · rw [z]
          by_cases q0 : nI bd = 0
          · rw [if_pos q0]
            exact ⟨fun _ => q0, fun q => absurd q (by decide)⟩
          · rw [if_neg q0]
            exact ⟨fun q => absurd q (by decide), fun _ => rfl⟩
      · rw [t6 b hba hb hid, g35]
        refine ⟨fun q => ?_, fun q => ?_⟩
        · rw [h6 (by rw [q]; decide) hba]
          exact (B b hb).2.1 q
        · rw [h6 (by rw [q]; decide) hba]
          exact (B b hb).2.2 q
  · obtain ⟨v, bd, h1, h2, h3, h4, -⟩ := ar b hb
    exact ⟨v, bd, h1, h2, by rw [k4 b hb]; exact h3, by rw [kr b 2 (by omega) (by omega) (by omega)]; exact h4⟩
  · obtain ⟨v, h1, h2⟩ := pt p hp
    obtain ⟨-, -, -, dw⟩ := D p hp
    exact ⟨v, h1, by rw [P.2.2 _ (by omega), t3 _ (by omega) (fun c _ => by omega)]; exact h2, by rw [keep (58 + p) (Or.inr (Or.inr (Or.inl (by omega))))]; exact dw⟩
  · rw [P.1 e h1, t1 e h1, f1 e h1 h2 h3 h4]
  · rw [P.2.1, t2, f2]
  · rw [P.1 270 (by decide), t1 270 (by decide), f3 i h1 h2]
end RK9
