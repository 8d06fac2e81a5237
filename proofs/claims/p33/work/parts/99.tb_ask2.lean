/-! ===== bill, apart on both sides ===== -/
section TBK
variable {h g hc r : LH} {t M d n k m b : Nat}
theorem xv_biL (H : RM g n k) (E : ∀ a, a < k → hc.1 (b + 6) a = rm g a 4 ∧ hc.1 (b + 5) a = rm g a 3) {Q : tf_Q} : ∀ (f a : Nat) (s : Int32), a + f = k → Q (.int (nt_spn hc b f a s)) g → lx_X9_billed 298 (tf_Cd 298 (d + 1)) Q 4 [.ref 270, .int s, .int (nI a)] [] g
  | 0, a, s, ha, q => by
    have hn := H.1
    exact go_X9_billed_4 (by decide) ⟨fun _ => go_X9_billed_36 (by decide) q, fun z => absurd (H.k2 (by omega) (by omega)) z⟩
  | f + 1, a, s, ha, q => by
    have hn := H.1
    refine go_X9_billed_4 (by decide) ⟨fun z => absurd z (H.k1 (by omega)), fun _ => sx_of (d := d) a 4 rfl rfl (by omega) (by omega) _ (go_X9_billed_21 (by decide) (sx_of (d := d) a 3 rfl rfl (by omega) (by omega) _ (go_X9_billed_27 (by decide) ?_)))⟩
    rw [nI_1, ← (E a (by omega)).1, ← (E a (by omega)).2]
    exact xv_biL H E f (a + 1) _ (by omega) q
theorem bill_eq (p : Int64) : (if lg_cmp p (-2147483648) < 0 then (-2147483648 : Int32) else if lg_cmp p 2147483647 ≤ 0 then p.toInt32 else -2147483648) = (if lg_cmp p (p.toInt32.toInt64) = 0 then p.toInt32 else -2147483648) := by
  have hm : (-2147483648 : Int64).toInt = -2147483648 := by decide
  have hx : (2147483647 : Int64).toInt = 2147483647 := by decide
  have key : lg_cmp p (p.toInt32.toInt64) = 0 ↔ -2147483648 ≤ p.toInt ∧ p.toInt ≤ 2147483647 := by
    rw [lg_0, ← Int64.toInt_inj, Int32.toInt_toInt64, Int64.toInt_toInt32, Int.bmod_def]
    constructor
    · intro z
      split at z <;> omega
    · rintro ⟨a, b⟩
      split <;> omega
  by_cases c1 : lg_cmp p (-2147483648) < 0
  · rw [if_pos c1, if_neg]
    intro z
    have := key.mp z
    rw [lg_cmp_lt, Int64.lt_iff_toInt_lt, hm] at c1
    omega
  · rw [if_neg c1]
    rw [lg_cmp_lt, Int64.lt_iff_toInt_lt, hm] at c1
    by_cases c2 : lg_cmp p 2147483647 ≤ 0
    · rw [if_pos c2, if_pos]
      rw [lg_cmp_le, Int64.le_iff_toInt_le, hx] at c2
      exact key.mpr ⟨by omega, c2⟩
    · rw [if_neg c2, if_neg]
      intro z
      have := key.mp z
      rw [lg_cmp_le, Int64.le_iff_toInt_le, hx] at c2
      omega
theorem xv_bill (G0 : GI h n k M) (N : NR h 0 h n k m) (x : Int32) : XV 83 [.int x] h (qv_bill (nt_spn h 0 k 0 0) x) := by
  intro Q q
  have q2 : ∀ (v : Int32) (g : LH), v = qv_bill (nt_spn h 0 k 0 0) x → Q (.int v) g := fun v g e => q _ g (by rw [e])
  clear q
  unfold qv_bill at q2
  rw [bill_eq] at q2
  have G : GI (w1 h 270 0 0) n k M := G0.w (by decide)
  obtain ⟨⟨-, -, E0, F0, C0, S0⟩, -, -⟩ := N.w0 (v := 0) (i := 0) G0
  refine en_X9_bill (by decide) (go_X9_bill_0 (by decide) ?_)
  show tf_Cd 298 10 _ _ (w1 h 270 0 0) _
  generalize w1 h 270 0 0 = h1 at *
  refine en_X9_billed (by decide) (go_X9_billed_0 (by decide) (xv_biL (d := 8) (hc := h) (b := 0) G.1 (fun a ha => ⟨(F0.1 a ha).2, C0.1 a ha⟩) k 0 0 (by omega) (go_X9_bill_9 (by decide) ⟨fun c => go_X9_bill_30 (by decide) (q2 _ _ ?_), fun c => go_X9_bill_27 (by decide) (go_X9_bill_30 (by decide) (q2 _ _ ?_))⟩)))
  · rw [if_pos c]
  · rw [if_neg c]
theorem ze_20 (I : IZ h t) (x : Int32) : lk_eq h 199 [.ref 240, .int x] 83 [.ref 270, .int x] (fun g => IZ g (t + 1)) := by
  obtain ⟨n, k, m, hm, H, G, N⟩ := I.1.1
  exact ze_q (iz_20 I x) (pq_bill H.1 x) (xv_bill G N x)
/-! apart -/
theorem xv_fi {s a : Nat} (hs : s ≤ 4) (ha : a < 14) (N : NX hc b (sl h 271 (173 * s)) t) : tf_Rt (d + 1) 92 [.ref 270, .int (nI s), .int (nI a)] h (.int (nt_fl hc b a)) h := by
  intro Q q
  have q : Q (.int (nt_fl hc b a)) h := q
  obtain ⟨n, k, m, -, H, G, NR0⟩ := N
  have k14 := G.1.1.2.2
  refine en_X9_flowIn (by decide) (go_X9_flowIn_0 (by decide) ?_)
  have e1 : (173 : Int32) * nI s + 1 = nI (173 * s + 1) := by rw [show (173 : Int32) = nI 173 from rfl, nI_mul, nI_1]
  have e2 : (173 : Int32) * nI s + 72 + 7 * nI a + 4 = nI (173 * s + 72 + 7 * a + 4) := by
    rw [show (173 : Int32) = nI 173 from rfl, show (72 : Int32) = nI 72 from rfl, show (7 : Int32) = nI 7 from rfl, show (4 : Int32) = nI 4 from rfl, nI_mul, nI_mul, nI_add, nI_add, nI_add]
  have r1 : h.1 271 (173 * s + 1) = nI k := by
    have := G.1.2.2.1
    rw [sl_at] at this
    exact this
  rw [e1, e2, nI_clamp (show 173 * s + 1 < 2 ^ 31 by omega), nI_clamp (show 173 * s + 72 + 7 * a + 4 < 2 ^ 31 by omega)]
  unfold nt_fl at q
  rw [NR0.1.1.2.1] at q
  refine ⟨vi_of (by omega) (by omega), fun c => go_X9_flowIn_37 (by decide) (go_X9_flowIn_38 (by decide) ?_), fun c => ⟨vi_of (by omega) (by omega), go_X9_flowIn_38 (by decide) ?_⟩⟩
  · rw [r1] at c
    rw [if_pos c] at q
    exact q
  · rw [r1] at c
    rw [if_neg c] at q
    have ak : a < k := by
      rcases Nat.lt_or_ge a k with z | z
      · exact z
      · exact absurd (nI_le z (by omega)) c
    have e := (NR0.1.2.2.2.1.1 a ak).2
    unfold rm at e
    rw [sl_at] at e
    rw [show 173 * s + 72 + 7 * a + 4 = 173 * s + (72 + 7 * a + 4) by omega, ← e]
    exact q
theorem xv_apL {j : Nat} (hj : j < 3) (N0 : NX hc 0 (sl h 271 (173 * 0)) t) (N1 : NX hc b (sl h 271 (173 * (j + 1))) t) {Q : tf_Q} : ∀ (f a : Nat) (s : Int32), a + f = 14 → Q (.int (nt_apt hc 0 b f a s)) h → lx_X9_apart 298 (tf_Cd 298 (d + 1)) Q 29 [.ref 270, .int (nI j), .int s, .int (nI a)] [] h
  | 0, a, s, ha, q => by
    have e : a = 14 := by omega
    subst e
    exact go_X9_apart_29 (by decide) ⟨fun _ => go_X9_apart_66 (by decide) q, fun z => absurd (nI_le (a := 14) (b := 14) (by omega) (by omega)) z⟩
  | f + 1, a, s, ha, q => by
    rw [nt_apt] at q
    refine go_X9_apart_29 (by decide) ⟨fun z => absurd z (nI_ge (a := a) (b := 14) (by omega) (by omega)), fun _ => xv_fi (s := 0) (d := d) (by omega) (by omega) N0 _ (go_X9_apart_42 (by decide) ?_)⟩
    rw [nI_1]
    refine xv_fi (s := j + 1) (d := d) (by omega) (by omega) N1 _ (go_X9_apart_50 (by decide) ⟨fun c => go_X9_apart_58 (by decide) ?_, fun c => go_X9_apart_57 (by decide) (go_X9_apart_58 (by decide) ?_)⟩)
    · rw [nI_1, Int32.add_zero]
      rw [if_pos c] at q
      exact xv_apL hj N0 N1 f (a + 1) _ (by omega) q
    · rw [nI_1]
      rw [if_neg c] at q
      exact xv_apL hj N0 N1 f (a + 1) _ (by omega) q
theorem img_eq (x : Int32) (e : ∀ j, j < 3 → h.1 269 j = h.1 273 j) : (rf_in x 0 2 = false → qv_img h x = false) ∧ ∀ j, j < 3 → x = nI j → (qv_img h x = true ↔ h.1 273 j ≠ 0) := by
  constructor
  · intro c
    unfold qv_img
    by_cases x0 : x < 0
    · simp [x0]
    · have x3 : (3 : Int32) ≤ x := by
        unfold rf_in at c
        simp only [x0, decide_false, Bool.not_false, Bool.true_and, Bool.not_eq_false', decide_eq_true_eq] at c
        obtain ⟨j, hj, ej⟩ := nI_of x0
        rw [ej] at c ⊢
        have := (nI_ltI (a := 2) (b := j) (by omega) hj).mp c
        exact nI_le (a := 3) (by omega) hj
      simp [x0, x3]
  · rintro j hj rfl
    unfold qv_img
    have x0 : ¬ nI j < 0 := nI_nlt (a := j) (b := 0) (by omega) (by omega)
    have x3 : ¬ (3 : Int32) ≤ nI j := nI_ge (a := j) (b := 3) (by omega) (by omega)
    rw [nI_clamp (by omega), e j hj]
    simp [x0, x3]
theorem xv_apart (Z : NZ h t) (E : ER h) (x : Int32) : XV 93 [.int x] h (qv_apart h x) := by
  intro Q q
  have q2 : ∀ (v : Int32) (g : LH), v = qv_apart h x → Q (.int v) g := fun v g e => q _ g (by rw [e])
  clear q
  unfold qv_apart at q2
  obtain ⟨i1, i2⟩ := img_eq x E.1
  refine en_X9_apart (by decide) (go_X9_apart_0 (by decide) ?_)
  show tf_Cd 298 10 _ _ (w1 h 270 0 0) _
  have e273 : (w1 h 270 0 0).1 273 = h.1 273 := w1_ne (by decide)
  have e271 : (w1 h 270 0 0).1 271 = h.1 271 := w1_ne (by decide)
  generalize w1 h 270 0 0 = h1 at *
  refine sx_in (d := 9) _ _ _ _ (go_X9_apart_11 (by decide) ⟨fun c => go_X9_apart_23 (by decide) (q2 _ _ ?_), fun c => ?_⟩)
  · rw [bI_0] at c
    rw [if_neg (by rw [i1 c]; decide)]
  · rw [bI_0, Bool.not_eq_false] at c
    obtain ⟨j, -, hj, ej⟩ := rf_in_t (l := 0) (u := 2) (by omega) c (by omega)
    have ii := i2 j (by omega) ej
    subst ej
    rw [nI_clamp (by omega)] at q2 ⊢
    refine ⟨vi_of (by omega) (by omega), fun z => go_X9_apart_23 (by decide) (q2 _ _ ?_), fun z => go_X9_apart_25 (by decide) ?_⟩
    · rw [e273] at z
      rw [if_neg (fun y => (ii.mp y) z)]
    · rw [e273] at z
      have N0 : NX h 0 (sl h1 271 (173 * 0)) t := Z.1.rw (fun i _ => by rw [sl_at, e271, Nat.mul_zero, Nat.zero_add])
      have N1 : NX h (15 * (13 + j)) (sl h1 271 (173 * (j + 1))) t := (Z.2.2 j (by omega) z).rw (fun i _ => by rw [sl_at, sl_at, e271])
      rw [show 13 + j = j + 13 by omega] at N1
      exact xv_apL (d := 9) (by omega) N0 N1 14 0 0 (by omega) (q2 _ _ (by rw [if_pos (ii.mpr z)]))
theorem ze_24 (I : IZ h t) (x : Int32) : lk_eq h 203 [.ref 240, .int x] 93 [.ref 270, .int x] (fun g => IZ g (t + 1)) := ze_q (iz_24 I x) (pq_apart x) (xv_apart I.1 I.2.1.2 x)
end TBK
