/-! ===== shift, block, widen, charge on both sides ===== -/
section RPT
variable {h g h2 h3 g1 g3 r r2 T T2 : LH} {b n k m t u M d : Nat}
theorem arc_eq (N : NS h b r n k) (G : RM r n k) (x : Int32) : nt_hasArc h b x = rf_isArc r x := by
  have hn := G.1
  rw [Bool.eq_iff_iff]
  constructor
  · intro z
    obtain ⟨j, hj, ej⟩ := vi_nI (ha_vi N.1.2.1 (by omega) z)
    subst ej
    unfold rf_isArc rf_in
    have e : r.1 271 1 - 1 = nI (k - 1) := by
      rw [G.2.2.1, show k = k - 1 + 1 by omega]
      exact nI_pred _
    rw [e]
    have c1 : ¬ nI j < 0 := nI_pos (by omega)
    have c2 : ¬ nI (k - 1) < nI j := nI_nlt (by omega) (by omega)
    simp [c1, c2]
  · intro z
    obtain ⟨a, ha, ea⟩ := rf_arc_t G z
    subst ea
    unfold nt_hasArc
    rw [N.1.2.1]
    have c1 : ¬ nI a < 0 := nI_pos (by omega)
    have c2 : ¬ nI k ≤ nI a := nI_ge (by omega) (by omega)
    simp [c1, c2]
theorem hpt_eq (N : NS h b r n k) (G : RM r n k) (x : Int32) : nt_hasPt h b x = rf_isPt r x := by
  have hn := G.1
  have e : r.1 271 0 - 1 = nI (n - 1) := by
    rw [G.2.1, show n = n - 1 + 1 by omega]
    exact nI_pred _
  rw [Bool.eq_iff_iff]
  unfold rf_isPt
  rw [e]
  constructor
  · intro z
    obtain ⟨j, hj, ej⟩ := vi_nI (hp_vi N.1.1 (by omega) z)
    subst ej
    unfold rf_in
    have c1 : ¬ nI j < 0 := nI_pos (by omega)
    have c2 : ¬ nI (n - 1) < nI j := nI_nlt (by omega) (by omega)
    simp [c1, c2]
  · intro z
    obtain ⟨a, -, ha, ea⟩ := rf_in_t (l := 0) (u := n - 1) (by omega) z (by omega)
    subst ea
    unfold nt_hasPt
    rw [N.1.1]
    have c1 : ¬ nI a < 0 := nI_pos (by omega)
    have c2 : ¬ nI n ≤ nI a := nI_ge (by omega) (by omega)
    simp [c1, c2]
theorem two_eq (N : NS h b r n k) (G : RM r n k) (x y : Int32) : nt_two h b x y = rf_two r x y := by
  unfold nt_two rf_two
  rw [hpt_eq N G, hpt_eq N G]
theorem dle (x y : Int32) : decide (x ≤ y) = !decide (y < x) := by
  by_cases c : x ≤ y
  · simp [c, Int32.not_lt.mpr c]
  · simp [c, Int32.not_le.mp c]
theorem cmv_eq (N : NS h b r n k) (G : RM r n k) (x y z : Int32) : nt_canMove h b x y z = rf_cs r x y z := by
  unfold nt_canMove rf_cs
  rw [two_eq N G]
  by_cases c : rf_two r x y = true
  · obtain ⟨p, q, hp, hq, -, ex, ey⟩ := rf_two_t G c
    have hn := G.1
    subst ex ey
    rw [c, i44, i44, nI_clamp (by omega), nI_clamp (by omega), nI_clamp (by omega), nI_clamp (by omega), N.2.1 p hp, N.2.1 q hq, dle, dle]
    unfold rf_in
    simp [Bool.and_assoc]
  · rw [Bool.not_eq_true] at c
    rw [c]
    rfl
theorem cb_eq (N : NS h b r n k) (G : RM r n k) (x v : Int32) : nt_canB h b x v = rf_cb r x 2 v 0 := by
  unfold nt_canB rf_cb
  rw [arc_eq N G]
  by_cases c : rf_isArc r x = true
  · obtain ⟨a, ha, ea⟩ := rf_arc_t G c
    have hn := G.1
    subst ea
    rw [c, nI_clamp (by omega), (N.2.2.2.1.1 a ha).1, if_neg (by decide)]
    unfold rf_in
    rw [show decide (v = rm r a 2) = decide (rm r a 2 = v) from decide_eq_decide.mpr eq_comm]
    simp [Bool.and_assoc]
  · rw [Bool.not_eq_true] at c
    rw [c]
    rfl
theorem cc_eq (N : NS h b r n k) (G : RM r n k) (x v : Int32) : nt_canC h b x v = rf_cb r x 3 v (-99) := by
  unfold nt_canC rf_cb
  rw [arc_eq N G]
  by_cases c : rf_isArc r x = true
  · obtain ⟨a, ha, ea⟩ := rf_arc_t G c
    have hn := G.1
    subst ea
    rw [c, nI_clamp (by omega), N.2.2.2.2.1.1 a ha, if_neg (by decide)]
    unfold rf_in
    rw [show decide (v = rm r a 3) = decide (rm r a 3 = v) from decide_eq_decide.mpr eq_comm]
    simp [Bool.and_assoc]
  · rw [Bool.not_eq_true] at c
    rw [c]
    rfl
theorem co_eq (N : NS h b r n k) (G : RM r n k) (x y : Int32) (hy : y = 0 ∨ y = 1) : nt_canOpen h b x y = rf_cb r x 6 (if y = 0 then 1 else 0) 0 := by
  unfold nt_canOpen rf_cb
  rw [arc_eq N G]
  by_cases c : rf_isArc r x = true
  · obtain ⟨a, ha, ea⟩ := rf_arc_t G c
    have hn := G.1
    subst ea
    rw [c, nI_clamp (by omega), if_pos rfl]
    rcases N.2.2.2.2.2 a ha with ⟨s6, s7, s5⟩ | ⟨s6, s7, s5⟩
    · have n3 : ¬ rm r a 5 = 3 := fun z => by
        rw [z] at s5
        exact s5 (Or.inr (by decide))
      rw [s7, s6, if_neg n3]
      rcases hy with hy | hy <;> subst hy <;> decide
    · rw [s7, s6]
      rcases hy with hy | hy <;> subst hy <;> decide
  · rw [Bool.not_eq_true] at c
    rw [c]
    rfl
theorem NB.mv (N : NB h b r n k) (n7 : n ≤ 7) (k14 : k ≤ 14) (e0 : h2.1 b = h.1 b) (es : ∀ p, p < n → h2.1 (b + 1) p = r2.1 271 (44 + p)) (ec : ∀ o, 2 ≤ o → o ≤ 7 → h2.1 (b + o) = h.1 (b + o)) (e2 : r2.1 271 2 = r.1 271 2) (e : ∀ i, 72 ≤ i → i < 170 → r2.1 271 i = r.1 271 i) : NB h2 b r2 n k := by
  obtain ⟨⟨a1, a2, a3⟩, a4, a5⟩ := N
  have er : ∀ a w, a < k → w < 7 → rm r2 a w = rm r a w := fun a w ha hw => e _ (by omega) (by omega)
  refine ⟨⟨by rw [e0]; exact a1, by rw [e0]; exact a2, by rw [e0, e2]; exact a3⟩, es, fun c hc => ?_⟩
  unfold AE B0
  rw [ec 2 (by omega) (by omega), ec 3 (by omega) (by omega), ec 4 (by omega) (by omega), ec 5 (by omega) (by omega), ec 6 (by omega) (by omega), ec 7 (by omega) (by omega), er c 0 hc (by omega), er c 1 hc (by omega), er c 2 hc (by omega), er c 3 hc (by omega), er c 4 hc (by omega), er c 6 hc (by omega)]
  exact a5 c hc
/-- one arc's bound is another -/
theorem NB.bound (N : NB h b r n k) {a : Nat} {v : Int32} (k14 : k ≤ 14) (n7 : n ≤ 7) : NB (w1 h (b + 4) a v) b (rp r a 2 v) n k := by
  obtain ⟨⟨a1, a2, a3⟩, a4, a5⟩ := N
  have e : ∀ i, i ≠ 72 + 7 * a + 2 → (rp r a 2 v).1 271 i = r.1 271 i := fun i hi => rp_ne hi
  have ev : rm (rp r a 2 v) a 2 = v := rp_at
  have er : ∀ c w, w < 7 → w ≠ 2 → rm (rp r a 2 v) c w = rm r c w := fun c w h1 h2 => e _ (by omega)
  have hc : ∀ x, x ≠ b + 4 → (w1 h (b + 4) a v).1 x = h.1 x := fun x hx => w1_ne hx
  refine ⟨⟨by rw [hc b (by omega)]; exact a1, by rw [hc b (by omega)]; exact a2, by rw [hc b (by omega), e 2 (by omega)]; exact a3⟩, fun p hp => by rw [hc _ (by omega), e _ (by omega)]; exact a4 p hp, fun c hk => ?_⟩
  unfold AE B0
  rw [hc (b + 2) (by omega), hc (b + 3) (by omega), hc (b + 5) (by omega), hc (b + 6) (by omega), hc (b + 7) (by omega), er c 0 (by omega) (by omega), er c 1 (by omega) (by omega), er c 3 (by omega) (by omega), er c 4 (by omega) (by omega), er c 6 (by omega) (by omega)]
  obtain ⟨⟨x1, x2, x3⟩, x4⟩ := a5 c hk
  refine ⟨⟨x1, ?_, x3⟩, x4⟩
  by_cases z : c = a
  · subst z
    rw [w1_eq, ev]
  · rw [w1_at z]
    have : rm (rp r a 2 v) c 2 = rm r c 2 := e _ (by omega)
    rw [this]
    exact x2
/-- one arc is blocked, or no longer -/
theorem NB.opn (N : NB h b r n k) {a : Nat} {y : Int32} (k14 : k ≤ 14) (n7 : n ≤ 7) : NB (w1 h (b + 7) a (if y = 0 then 3 else 0)) b (rp r a 6 (if y = 0 then 1 else 0)) n k := by
  obtain ⟨⟨a1, a2, a3⟩, a4, a5⟩ := N
  have e : ∀ i, i ≠ 72 + 7 * a + 6 → (rp r a 6 (if y = 0 then 1 else 0)).1 271 i = r.1 271 i := fun i hi => rp_ne hi
  have ev : rm (rp r a 6 (if y = 0 then 1 else 0)) a 6 = (if y = 0 then 1 else 0) := rp_at
  have er : ∀ c w, w < 6 → rm (rp r a 6 (if y = 0 then 1 else 0)) c w = rm r c w := fun c w h1 => e _ (by omega)
  have hc : ∀ x, x ≠ b + 7 → (w1 h (b + 7) a (if y = 0 then 3 else 0)).1 x = h.1 x := fun x hx => w1_ne hx
  refine ⟨⟨by rw [hc b (by omega)]; exact a1, by rw [hc b (by omega)]; exact a2, by rw [hc b (by omega), e 2 (by omega)]; exact a3⟩, fun p hp => by rw [hc _ (by omega), e _ (by omega)]; exact a4 p hp, fun c hk => ?_⟩
  unfold AE B0
  rw [hc (b + 2) (by omega), hc (b + 3) (by omega), hc (b + 4) (by omega), hc (b + 5) (by omega), hc (b + 6) (by omega), er c 0 (by omega), er c 1 (by omega), er c 2 (by omega), er c 3 (by omega), er c 4 (by omega)]
  obtain ⟨x1, x4⟩ := a5 c hk
  refine ⟨x1, ?_⟩
  by_cases z : c = a
  · subst z
    rw [w1_eq, ev]
    by_cases z : y = 0
    · rw [if_pos z, if_pos z]
      exact Or.inr ⟨rfl, rfl⟩
    · rw [if_neg z, if_neg z]
      exact Or.inl ⟨rfl, by decide⟩
  · rw [w1_at z]
    have : rm (rp r a 6 (if y = 0 then 1 else 0)) c 6 = rm r c 6 := e _ (by omega)
    rw [this]
    exact x4
/-- what can be told of an arc, on both sides -/
theorem rx_becomes (G : GI r n k M) {x v low : Int32} {w : Nat} (hw : (w = 2 ∧ low = 0) ∨ (w = 6 ∧ low = 0) ∨ (w = 3 ∧ low = -99)) (c : rf_cb r x w v low = true) (hN : ∀ a, a < k → x = nI a → (w = 3 → NR h3 0 (rp r a 3 v) n k m) ∧ (w ≠ 3 → ∃ h2, h3 = nt_beg h2 0 n k 1 ∧ NB h2 0 (rp r a w v) n k ∧ TA h2 0 (rp r a w v) m)) : tf_Sp (d + 4) 61 [.ref 270, .int x, .int (nI w), .int v] r (fun _ g => NR h3 0 g n k m) := by
  intro Q q
  have hn := G.1.1
  unfold rf_cb at c
  simp only [Bool.and_eq_true, Bool.not_eq_true', decide_eq_false_iff_not] at c
  obtain ⟨c1, c2, -⟩ := c
  obtain ⟨a, ha, ea⟩ := rf_arc_t G.1 c1
  obtain ⟨n1, n2⟩ := hN a ha ea
  refine en_X9_becomes (by decide) (go_X9_becomes_0 (by decide) (sx_puts (d := d + 2) a w v ea rfl (by omega) (by omega) _ (go_X9_becomes_7 (by decide) ⟨fun z => go_X9_becomes_17 (by decide) (q _ _ ?_), fun z => ?_⟩)))
  · have hw3 : w = 3 := (nI_eq (b := 3) (by omega) (by omega)).mp z
    have := n1 hw3
    rw [← hw3] at this
    exact this
  · have hw3 : ¬ w = 3 := fun y => z (by rw [y]; rfl)
    obtain ⟨h2, e3, NB2, TA2⟩ := n2 hw3
    have B : BI (rp r a w v) n k := by
      refine G.bi.arc (by omega) ?_
      rcases hw with ⟨y, hl⟩ | ⟨y, -⟩ | ⟨y, -⟩
      · subst y
        subst hl
        rw [if_neg (by decide)] at c2
        obtain ⟨j, -, h2, h3⟩ := rf_in_t (l := 0) (u := 99) (by omega) c2 (by omega)
        exact Or.inl ⟨rfl, by rw [h3]; exact vi_of (by omega) (by omega)⟩
      · exact Or.inr y
      · exact absurd y hw3
    refine rx_bga (d := d) (M := M) (by omega) B NB2 TA2 1 _ (fun v2 g p4 => go_X9_becomes_17 (by decide) (q _ _ ?_))
    rw [e3]
    exact p4.2.2.2
/-- what is told of an arc: the reference, once the class has answered -/
theorem zz_tl (I : IZ h t) (ht : t ≤ 511) (hm : m ≤ 2000000 * t) (G : GI h n k (8000 * t)) (C1 : CF h (ac_sv h)) {x v low : Int32} {w : Nat} (hw : (w = 2 ∧ low = 0) ∨ (w = 6 ∧ low = 0) ∨ (w = 3 ∧ low = -99)) {can : Bool} (ec : can = rf_cb h x w v low) (H3 : can = true → NT h3 0 n k m ∧ (∀ e, ¬ e < 15 → h3.1 e = (ac_sv h).1 e)) (hN : can = true → ∀ r, r.1 271 = h.1 271 → ∀ a, a < k → x = nI a → (w = 3 → NR h3 0 (rp r a 3 v) n k m) ∧ (w ≠ 3 → ∃ h2, h3 = nt_beg h2 0 n k 1 ∧ NB h2 0 (rp r a w v) n k ∧ TA h2 0 (rp r a w v) m)) : tf_Sp (d + 10) 62 [.ref 270, .int x, .int (nI w), .int v, .int low] (ac_ca (if can = true then h3 else ac_sv h) (bI can)) (fun v g => v = .int (bI can) ∧ NZ g (t + 1)) := by
  obtain ⟨u, hu, eu⟩ := I.un
  intro Q q
  cases can with
  | false =>
    rw [if_neg (by decide), ac_ca_0]
    refine en_X9_tells (by decide) (go_X9_tells_0 (by decide) ?_)
    show tf_Cd 298 (d + 9) _ _ (w1 (ac_sv h) 270 0 0) _
    have o : ∀ e, e ≠ 270 → (w1 (ac_sv h) 270 0 0).1 e = (ac_sv h).1 e := fun e he => w1_ne he
    have o5 : (w1 (ac_sv h) 270 0 0).1 270 5 = (ac_sv h).1 270 5 := w1_at (by decide)
    generalize w1 (ac_sv h) 270 0 0 = q1 at o o5
    have r1 : q1.1 271 = h.1 271 := by rw [o 271 (by decide), C1.1 271 (by decide)]
    have G1 : GI q1 n k (8000 * t) := G.cong (RW.of r1)
    refine sx_cb (d := d + 6) G1.1 x (by omega) v low _ (go_X9_tells_14 (by decide) ⟨fun _ => q _ _ ⟨rfl, I.no (fun e h1 _ => o e h1) o5⟩, fun c => absurd ?_ c⟩)
    rw [bI_0, rf_cb_same r1]
    exact ec.symm
  | true =>
    obtain ⟨HT, L3⟩ := H3 rfl
    rw [if_pos rfl]
    refine en_X9_tells (by decide) (go_X9_tells_0 (by decide) ?_)
    show tf_Cd 298 (d + 9) _ _ (w1 (ac_ca h3 1) 270 0 0) _
    have c2 : ∀ e, 270 ≤ e → h3.1 e = h.1 e := fun e he => by rw [L3 e (by omega), C1.1 e he]
    obtain ⟨q1, eq1, qe, q5, q71, q74, q55⟩ := q_beg I eu c2
    rw [← eq1]
    have G1 : GI q1 n k (8000 * t) := G.cong (RW.of q71)
    have cc : rf_cb q1 x w v low = true := by rw [rf_cb_same q71]; exact ec.symm
    refine sx_cb (d := d + 6) G1.1 x (by omega) v low _ (go_X9_tells_14 (by decide) ⟨fun z => ?_, fun c => go_X9_tells_19 (by decide) ?_⟩)
    · rw [bI_0, cc] at z
      cases z
    refine rx_kp (d := d + 8) hu q5 _ (fun v0 g3 p => go_X9_tells_24 (by decide) ?_)
    have r3 : g3.1 271 = h.1 271 := by rw [p.2.2.2.1 271 (by decide) (by decide), q71]
    have G3 : GI g3 n k (8000 * (t + 1)) := (G.cong (RW.of r3)).mono (by omega)
    have c3 : rf_cb g3 x w v low = true := by rw [rf_cb_same r3]; exact ec.symm
    refine ((sp_becomes (d := d + 5) G3 hw c3).cj (rx_becomes (d := d + 5) G3 hw c3 (fun a ha ea => hN rfl g3 r3 a ha ea))) _ (fun v4 g4 p4 => go_X9_tells_31 (by decide) (q _ _ ⟨rfl, I.dn hu eu (fun e h1 h2 => L3 e (by omega)) c2 (fun e h1 _ => qe e h1) p (fun e h1 h2 h3 => p4.1.2.1 e h2) (by rw [p4.1.2.1 270 (by decide)]) (fun ix h1 h2 => p4.1.2.2 ix (by omega)) ⟨n, k, m, by omega, HT, p4.1.1, p4.2⟩⟩))
end RPT
