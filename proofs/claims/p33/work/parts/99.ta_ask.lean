/-! ===== questions: both sides answer alike ===== -/
section TAK
variable {h g hc r : LH} {t M d n k m b : Nat}
/-- the reference answers just this -/
def XV (kn : Nat) (As : List Value) (h : LH) (x : Int32) : Prop := tf_Sp 11 kn (.ref 270 :: As) h (fun v _ => v = .int x)
theorem ze_q {kx km : Nat} {As Bs : List Value} {v : Int32} {P : LH → Prop} (I : lk_sp h kx (.ref 240 :: As) km (.ref 270 :: Bs) P) (c : tf_Rt 11 kx (.ref 240 :: As) h (.int v) g) (r : XV km Bs g v) : lk_eq h kx (.ref 240 :: As) km (.ref 270 :: Bs) P := (tf_Sp.cj I (c.sp (P := fun w g2 => w = .int v ∧ g2 = g) ⟨rfl, rfl⟩)).mp (fun w g2 p => by
  obtain ⟨⟨-, p2⟩, rfl, rfl⟩ := p
  exact ⟨v, rfl, (tf_Sp.cj p2 r).mp (fun _ _ q => ⟨q.2, q.1.2⟩)⟩)
/-- the laid tree, and the class's grid beside it -/
theorem NR.lay (N : NR h b r n k m) (G : GI r n k M) : LT (lt r n k) n k ∧ PR (lt r n k) n k ∧ CT h b (lt r n k) n ∧ PRe h b (lt r n k) n ∧ TLe h b (lt r n k) n k ∧ FLe h b (lt r n k) n k ∧ COe h b (lt r n k) n k ∧ SRe h b (lt r n k) k ∧ GI (lt r n k) n k M := by
  have L := G.lt
  have P := lt_pr G.1
  have R : RW r (lt r n k) := fun i _ => by rw [lt_fl.r]
  have n7 := L.1.1.2.1
  have k14 := L.1.1.2.2
  obtain ⟨⟨-, -, E0, F0, C0, S0⟩, Nt, -⟩ := N
  obtain ⟨C, Pe, Ts⟩ := Nt.to G.2.2.2.2.1.1 L P R
  exact ⟨L, P, C, Pe, E0.rw R n7 k14, F0.rw R n7 k14, C0.rw R k14, S0.rw R k14, G.fl lt_fl⟩
/-- a question's reference row: the sign of a throw is taken back, no more -/
theorem NR.w0 {v : Int32} {i : Nat} (N : NR h b r n k m) (G : GI r n k M) : NR h b (w1 r 270 i v) n k m := N.rw (fun i _ => by rw [w1_ne (by decide)]) G.1.1.2.1 G.1.1.2.2
theorem cnt_eq {T : LH} (off : ∀ a, a < k → (rf_off T a = true → nt_off h b (nI a) = rf_far T a ∧ 0 < rf_far T a) ∧ (rf_off T a = false → nt_off h b (nI a) = 0)) : ∀ (f i : Nat) (s : Int32), i + f = k → nt_cnt h b f i s = rf_many T f i s
  | 0, _, _, _ => rfl
  | f + 1, i, s, hi => by
    rw [nt_cnt, rf_many, cnt_eq off f (i + 1) _ (by omega)]
    congr 1
    by_cases z : rf_off T i = true
    · obtain ⟨e, p⟩ := (off i (by omega)).1 z
      rw [if_pos z, e, if_neg (Int32.not_le.mpr p)]
    · rw [if_neg z, (off i (by omega)).2 (Bool.eq_false_iff.mpr z), if_pos (by decide), Int32.add_zero]
theorem xv_unL (H : RM g n k) (E : ∀ p, p < n → hc.1 (b + 6) (14 + p) = g.1 271 (65 + p)) {Q : tf_Q} : ∀ (f p : Nat) (s : Int32), p + f = n → Q (.int (nt_unm hc b f p s)) g → lx_X9_unmet 298 (tf_Cd 298 d) Q 4 [.ref 270, .int s, .int (nI p)] [] g
  | 0, p, s, hp, q => by
    have hn := H.1
    exact go_X9_unmet_4 (by decide) ⟨fun _ => go_X9_unmet_32 (by decide) q, fun z => absurd (H.n2 (by omega) (by omega)) z⟩
  | f + 1, p, s, hp, q => by
    have hn := H.1
    have i65' : (65 : Int32) + nI p = nI (65 + p) := nI_add 65 p
    refine go_X9_unmet_4 (by decide) ⟨fun z => absurd z (H.n1 (by omega)), fun _ => ?_⟩
    rw [i65', nI_1, nI_clamp (show 65 + p < 2 ^ 31 by omega), ← E p (by omega)]
    exact ⟨vi_of (by omega) (by omega), xv_unL H E f (p + 1) _ (by omega) q⟩
theorem xv_un (H : RM g n k) (E : ∀ p, p < n → hc.1 (b + 6) (14 + p) = g.1 271 (65 + p)) : tf_Rt (d + 1) 71 [.ref 270] g (.int (nt_unm hc b n 0 0)) g := fun Q q => en_X9_unmet (by decide) (go_X9_unmet_0 (by decide) (xv_unL H E n 0 0 (by omega) q))
theorem xv_grid (G0 : GI h n k M) (N : NR h 0 h n k m) (el : h.1 251 1 = h.1 271 170) (eu : h.1 240 9 = h.1 270 5) (x : Int32) : XV 72 [.int x] h (qv_grid h n k x) := by
  intro Q q
  have q2 : ∀ (y : Int32) (g : LH), y = qv_grid h n k x → Q (.int y) g := fun y g e => q _ g (by rw [e])
  clear q
  have G : GI (w1 h 270 0 0) n k M := G0.w (by decide)
  have N1 : NR h 0 (w1 h 270 0 0) n k m := N.w0 G0
  have cm := cnt_eq (N1.off G) k 0 0 (by omega)
  obtain ⟨-, -, -, -, -, F, -, -, G2⟩ := N1.lay G
  have f1 : (lt (w1 h 270 0 0) n k).1 271 = h.1 271 := by rw [lt_fl.r, w1_ne (by decide)]
  have f5 : (lt (w1 h 270 0 0) n k).1 270 5 = h.1 270 5 := by rw [lt_fl.1 270 (by decide), w1_at (by decide)]
  obtain ⟨⟨⟨a0, a1, a2⟩, -⟩, -, ⟨b0, b0'⟩, ⟨b1, b2, b3⟩, -⟩ := N
  have r0 := G0.1.2.1
  have r1 := G0.1.2.2.1
  refine en_X9_grid (by decide) (go_X9_grid_0 (by decide) (sx_lt (h := w1 h 270 0 0) (d := 7) G.1 _ (go_X9_grid_9 (by decide) ?_)))
  generalize lt (w1 h 270 0 0) n k = g at *
  have a72 : ∀ c : Nat, c < 3 → x.toInt = (c : Int) → h.1 271 c = qv_grid h n k x → lx_X9_grid 298 (tf_Cd 298 10) Q 72 [.ref 270, .int x] [] g := fun c hm e ev => go_X9_grid_72 (by decide) (by
    rw [ti_n (by omega) e, nI_clamp (by omega)]
    exact ⟨vi_of (by omega) (by omega), q2 _ _ (by rw [f1, ev])⟩)
  have a97 : ∀ c : Nat, 5 ≤ c → c < 9 → x.toInt = (c : Int) → h.1 271 (c - 2) = qv_grid h n k x → lx_X9_grid 298 (tf_Cd 298 10) Q 97 [.ref 270, .int x] [] g := fun c h5 hm e ev => go_X9_grid_97 (by decide) (by
    have : (3 : Int32) + x - 5 = nI (c - 2) := by
      rw [ti_n (by omega) e, show (3 : Int32) = nI 3 from rfl, show (5 : Int32) = nI 5 from rfl, nI_add, nI_sub (by omega)]
      congr 1
      omega
    rw [this, nI_clamp (by omega)]
    exact ⟨vi_of (by omega) (by omega), q2 _ _ (by rw [f1, ev])⟩)
  unfold qv_grid at q2 a72 a97
  refine ⟨fun c => go_X9_grid_127 (by decide) (q2 _ _ ?_), fun e => a72 0 (by omega) e ?_, fun e => a72 1 (by omega) e ?_, fun e => a72 2 (by omega) e ?_, fun e => go_X9_grid_79 (by decide) (sx_many (d := 6) G2.1 _ (go_X9_grid_83 (by decide) ⟨fun z => go_X9_grid_91 (by decide) (q2 _ _ ?_), fun z => go_X9_grid_90 (by decide) (go_X9_grid_91 (by decide) (q2 _ _ ?_))⟩)), fun e => go_X9_grid_92 (by decide) (xv_un (d := 9) (hc := h) (b := 0) G2.1 F.2 _ (go_X9_grid_96 (by decide) (q2 _ _ ?_))), fun e => a97 5 (by omega) (by omega) e ?_, fun e => a97 6 (by omega) (by omega) e ?_, fun e => a97 7 (by omega) (by omega) e ?_, fun e => a97 8 (by omega) (by omega) e ?_, fun e => go_X9_grid_108 (by decide) (sx_many (d := 6) G2.1 _ (go_X9_grid_112 (by decide) (q2 _ _ ?_))), fun e => go_X9_grid_113 (by decide) (q2 _ _ ?_), fun e => go_X9_grid_122 (by decide) (q2 _ _ ?_), trivial⟩
  · rw [if_neg (by omega), if_neg (by omega), if_neg (by omega), if_neg (by omega), if_neg (by omega), if_neg (by omega), if_neg (by omega), if_neg (by omega), if_neg (by omega), if_neg (by omega), if_neg (by omega), if_neg (by omega)]
  · rw [if_pos e]
    exact r0.trans a0.symm
  · rw [if_neg (by omega), if_pos e]
    exact r1.trans a1.symm
  · rw [if_neg (by omega), if_neg (by omega), if_pos e]
    exact a2.symm
  · rw [if_neg (by omega), if_neg (by omega), if_neg (by omega), if_pos e, if_pos (cm.trans z)]
  · rw [if_neg (by omega), if_neg (by omega), if_neg (by omega), if_pos e, if_neg (fun y => z (cm.symm.trans y))]
  · rw [if_neg (by omega), if_neg (by omega), if_neg (by omega), if_neg (by omega), if_pos e]
  · rw [if_neg (by omega), if_neg (by omega), if_neg (by omega), if_neg (by omega), if_neg (by omega), if_pos e]
    exact b0'.trans b0.symm
  · rw [if_neg (by omega), if_neg (by omega), if_neg (by omega), if_neg (by omega), if_neg (by omega), if_neg (by omega), if_pos e]
    exact b1.symm
  · rw [if_neg (by omega), if_neg (by omega), if_neg (by omega), if_neg (by omega), if_neg (by omega), if_neg (by omega), if_neg (by omega), if_pos e]
    exact b2.symm
  · rw [if_neg (by omega), if_neg (by omega), if_neg (by omega), if_neg (by omega), if_neg (by omega), if_neg (by omega), if_neg (by omega), if_neg (by omega), if_pos e]
    exact b3.symm
  · rw [if_neg (by omega), if_neg (by omega), if_neg (by omega), if_neg (by omega), if_neg (by omega), if_neg (by omega), if_neg (by omega), if_neg (by omega), if_neg (by omega), if_pos e, cm]
  · rw [if_neg (by omega), if_neg (by omega), if_neg (by omega), if_neg (by omega), if_neg (by omega), if_neg (by omega), if_neg (by omega), if_neg (by omega), if_neg (by omega), if_neg (by omega), if_pos e, el]
    show g.1 271 170 = _
    rw [f1]
  · rw [if_neg (by omega), if_neg (by omega), if_neg (by omega), if_neg (by omega), if_neg (by omega), if_neg (by omega), if_neg (by omega), if_neg (by omega), if_neg (by omega), if_neg (by omega), if_neg (by omega), if_pos e, f5, eu]
theorem IZ.u9 (I : IZ h t) : h.1 240 9 = h.1 270 5 := by
  obtain ⟨-, ⟨tt, u, h1, h2, h3, h4, h5, h6⟩, -⟩ := I.1
  exact h4.trans h5.symm
theorem ze_13 (I : IZ h t) (x : Int32) : lk_eq h 194 [.ref 240, .int x] 72 [.ref 270, .int x] (fun g => IZ g (t + 1)) := by
  obtain ⟨n, k, m, hm, H, G, N⟩ := I.1.1
  exact ze_q (iz_13 I x) (pq_grid H.1 x) (xv_grid G N I.2.1.2.2.1 I.u9 x)
/-! past -/
theorem xv_past (G0 : GI h n k M) (A : TA h 0 h m) (hm : m < 2000000000) (x y : Int32) : XV 81 [.int x, .int y] h (nt_ttold h 11 m x y) := by
  intro Q q
  have q2 : ∀ (v : Int32) (g : LH), v = nt_ttold h 11 m x y → Q (.int v) g := fun v g e => q _ g (by rw [e])
  clear q
  obtain ⟨⟨b0, b0'⟩, -, b7, bj⟩ := A
  have v12 : (if m < 12 then m else 12) ≤ 12 := by split <;> omega
  have vm : (if m < 12 then m else 12) ≤ m := by split <;> omega
  have vl : ∀ j, j < 12 → j < m → j < (if m < 12 then m else 12) := fun j h1 h2 => by split <;> omega
  unfold nt_ttold at q2
  generalize (if m < 12 then m else 12) = w at *
  have hin : ∀ j, j < 2000000000 → (rf_in (nI j) 0 (nI w - 1) = true ↔ j < w) := by
    intro j hj
    unfold rf_in
    have e0 : ¬ nI j < 0 := nI_nlt (a := j) (b := 0) (by omega) (by omega)
    rcases Nat.eq_zero_or_pos w with z | z
    · rw [z]
      have : (nI 0 - 1 : Int32) < nI j := by
        rw [Int32.lt_iff_toInt_lt, nI_toInt (by omega), show (nI 0 - 1 : Int32).toInt = -1 by decide]
        omega
      simp [this]
    · have e : nI w - 1 = nI (w - 1) := by
        rw [show w = w - 1 + 1 by omega]
        exact nI_pred _
      rw [e]
      have : (nI (w - 1) < nI j) ↔ w - 1 < j := nI_ltI (by omega) (by omega)
      simp only [e0, this, decide_false, Bool.not_false, Bool.true_and, Bool.not_eq_true', decide_eq_false_iff_not]
      omega
  have f1 : (w1 h 270 0 0).1 271 = h.1 271 := w1_ne (by decide)
  refine en_X9_past (by decide) (go_X9_past_0 (by decide) ?_)
  show tf_Cd 298 10 _ [.int x, .int 0, .int ((w1 h 270 0 0).1 271 7 - 1)] (w1 h 270 0 0) _
  generalize w1 h 270 0 0 = h1 at *
  rw [f1, b7]
  have no : ∀ j, x = nI j → w ≤ j → j < 2000000000 → (if x < 0 then (-1 : Int32) else if 12 ≤ x then -1 else if x < nI m then (let i := (m - 1 - x.toNatClampNeg) % 12
    if y.toInt = 0 then h.1 (11 + 1) i else if y.toInt = 1 then nt_told8 (h.1 (11 + 2) i) else if y.toInt = 2 then h.1 (11 + 3) i else -1) else -1) = -1 := by
    intro j e hj hj2
    rw [if_neg (by rw [e]; exact nI_nlt (a := j) (b := 0) (by omega) (by omega))]
    by_cases c : (12 : Int32) ≤ x
    · rw [if_pos c]
    · rw [if_neg c]
      have j12 : j < 12 := by
        rcases Nat.lt_or_ge j 12 with z | z
        · exact z
        · exact absurd (by rw [e]; exact nI_le (a := 12) z (by omega)) c
      have jm : ¬ j < m := fun z => by
        have := vl j j12 z
        omega
      rw [if_neg]
      rw [e]
      intro z
      exact jm ((nI_ltI (by omega) (by omega)).mp z)
  refine sx_in (d := 9) _ _ _ _ (go_X9_past_19 (by decide) ⟨fun c => go_X9_past_47 (by decide) (go_X9_past_48 (by decide) (q2 _ _ ?_)), fun c => sx_in (d := 9) _ _ _ _ (go_X9_past_28 (by decide) ⟨fun c2 => go_X9_past_47 (by decide) (go_X9_past_48 (by decide) (q2 _ _ ?_)), fun c2 => ?_⟩)⟩)
  · rw [bI_0] at c
    by_cases x0 : x < 0
    · rw [if_pos x0]
    · obtain ⟨j, hj, e⟩ := nI_of x0
      by_cases j9 : j < 2000000000
      · have : ¬ j < w := fun z => by
          have := (hin j j9).mpr z
          rw [← e, c] at this
          cases this
        exact (no j e (by omega) j9).symm
      · rw [if_neg x0, if_pos]
        rw [e]
        exact nI_le (a := 12) (by omega) hj
  · rw [bI_0, Bool.not_eq_false] at c
    rw [bI_0] at c2
    have y012 : ¬ y.toInt = 0 ∧ ¬ y.toInt = 1 ∧ ¬ y.toInt = 2 := by
      refine ⟨fun z => ?_, fun z => ?_, fun z => ?_⟩
      · rw [ti_n (m := 0) (by omega) z] at c2
        exact absurd c2 (by decide)
      · rw [ti_n (m := 1) (by omega) z] at c2
        exact absurd c2 (by decide)
      · rw [ti_n (m := 2) (by omega) z] at c2
        exact absurd c2 (by decide)
    simp only [if_neg y012.1, if_neg y012.2.1, if_neg y012.2.2]
    split
    · rfl
    · split
      · rfl
      · split <;> rfl
  · rw [bI_0, Bool.not_eq_false] at c c2
    have x0 : ¬ x < 0 := fun z => by
      unfold rf_in at c
      simp [z] at c
    obtain ⟨j, hj, ej⟩ := nI_of x0
    have j9 : j < 2000000000 := by
      rcases Nat.lt_or_ge j 2000000000 with z | z
      · exact z
      · exfalso
        unfold rf_in at c
        simp only [Bool.and_eq_true, Bool.not_eq_true', decide_eq_false_iff_not] at c
        refine c.2 ?_
        rcases Nat.eq_zero_or_pos w with y0 | y0
        · rw [y0, ej, Int32.lt_iff_toInt_lt, nI_toInt hj, show (nI 0 - 1 : Int32).toInt = -1 by decide]
          omega
        · have e : nI w - 1 = nI (w - 1) := by
            rw [show w = w - 1 + 1 by omega]
            exact nI_pred _
          rw [e, ej]
          exact nI_lt (by omega) hj
    rw [ej] at c
    have jw := (hin j j9).mp c
    obtain ⟨w2, -, hw, ew⟩ := rf_in_t (l := 0) (u := 2) (by omega) c2 (by omega)
    have e : (8 : Int32) + 3 * x + y = nI (8 + 3 * j + w2) := by
      rw [ej, ew, show (3 : Int32) = nI 3 from rfl, show (8 : Int32) = nI 8 from rfl, nI_mul, nI_add, nI_add]
    rw [e, nI_clamp (by omega)]
    refine ⟨vi_of (by omega) (by omega), go_X9_past_48 (by decide) (q2 _ _ ?_)⟩
    rw [if_neg x0, if_neg (by rw [ej]; exact nI_ge (b := 12) (by omega) (by omega)), if_pos (by rw [ej]; exact nI_lt (by omega) (by omega)), f1, ej, nI_clamp (by omega)]
    obtain ⟨d0, d1, d2⟩ := bj j (by omega) (by omega)
    have w3 : w2 = 0 ∨ w2 = 1 ∨ w2 = 2 := by omega
    rcases w3 with z | z | z
    · rw [ew, z]
      simp only [show (nI 0).toInt = 0 from rfl, if_true]
      exact d0.symm
    · rw [ew, z]
      simp only [show (nI 1).toInt = 1 from rfl, show ¬ (1 : Int) = 0 by omega, if_true, if_false]
      rw [show 8 + 3 * j + 1 = 9 + 3 * j by omega]
      exact d1.symm
    · rw [ew, z]
      simp only [show (nI 2).toInt = 2 from rfl, show ¬ (2 : Int) = 0 by omega, show ¬ (2 : Int) = 1 by omega, if_true, if_false]
      rw [show 8 + 3 * j + 2 = 10 + 3 * j by omega]
      exact d2.symm
theorem ze_19 (I : IZ h t) (ht : t ≤ 511) (x y : Int32) : lk_eq h 198 [.ref 240, .int x, .int y] 81 [.ref 270, .int x, .int y] (fun g => IZ g (t + 1)) := by
  obtain ⟨n, k, m, hm, H, G, N⟩ := I.1.1
  exact ze_q (iz_19 I ht x y) (pq_past H (by omega) x y) (xv_past G N.2.2 (by omega) x y)
end TAK
