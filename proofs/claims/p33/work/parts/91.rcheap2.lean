/-! ===== the reference's cheapest ways: the rounds come to their end ===== -/
section R91
variable {h g : LH} {n k M d : Nat} {P : Nat → Int} {c b : Nat → Int32} {T : Nat → Nat} {N : Nat}
def FX (h : LH) (k : Nat) (c : Nat → Int32) : Prop := ∀ r, r < 2 * k → eR h r ≠ 0 → c (eF h r) ≠ 1000000 → c (eT h r) ≠ 1000000 ∧ (c (eT h r)).toInt ≤ (c (eF h r)).toInt + (eC h r).toInt
/-- S is settled for good, v is the next one; the first x arcs have been looked at in this round -/
def WS (h : LH) (n k : Nat) (P : Nat → Int) (c : Nat → Int32) (S : Nat → Bool) (v x : Nat) : Prop := (∀ p, p < n → S p = true → c p ≠ 1000000) ∧ (v < n ∧ S v = false ∧ c v ≠ 1000000) ∧ (∀ u w, u < n → w < n → S u = true → S w = false → c w ≠ 1000000 → (c u).toInt - P u ≤ (c w).toInt - P w) ∧ (∀ w, w < n → S w = false → c w ≠ 1000000 → (c v).toInt - P v ≤ (c w).toInt - P w) ∧ (∀ r, r < 2 * k → eR h r ≠ 0 → S (eF h r) = true → c (eT h r) ≠ 1000000 ∧ (c (eT h r)).toInt ≤ (c (eF h r)).toInt + (eC h r).toInt) ∧ (∀ r, r < x → r < 2 * k → eR h r ≠ 0 → eF h r = v → c (eT h r) ≠ 1000000 ∧ (c (eT h r)).toInt ≤ (c (eF h r)).toInt + (eC h r).toInt)
theorem rxc_no (B0 : CB h n k) (B : BF h n k P c b T N) (hN : N ≤ 1000) {r : Nat} (hr : r < 2 * k) (X : ¬ rxc h c r) (h1 : eR h r ≠ 0) (h2 : c (eF h r) ≠ 1000000) : c (eT h r) ≠ 1000000 ∧ (c (eT h r)).toInt ≤ (c (eF h r)).toInt + (eC h r).toInt := by
  obtain ⟨⟨-, hF⟩, -, hT⟩ := B0.1.eFT hr
  have kc := B0.eCI hr
  have bF := B.in' hF h2
  have es : (c (eF h r) + eC h r).toInt = (c (eF h r)).toInt + (eC h r).toInt := tia (by omega) (by omega)
  have nl : ¬ (c (eF h r)).toInt + (eC h r).toInt < (c (eT h r)).toInt := by
    intro z
    refine X ⟨h1, h2, ?_⟩
    rw [Int32.lt_iff_toInt_lt, es]
    exact z
  refine ⟨fun z => ?_, by omega⟩
  rw [z, far_ti] at nl
  omega
theorem FX.no (B0 : CB h n k) (B : BF h n k P c b T N) (hN : N ≤ 1000) (F : FX h k c) {r : Nat} (hr : r < 2 * k) : ¬ rxc h c r := by
  intro ⟨x1, x2, x3⟩
  obtain ⟨⟨-, hF⟩, -, hT⟩ := B0.1.eFT hr
  have kc := B0.eCI hr
  have bF := B.in' hF x2
  have es : (c (eF h r) + eC h r).toInt = (c (eF h r)).toInt + (eC h r).toInt := tia (by omega) (by omega)
  rw [Int32.lt_iff_toInt_lt, es] at x3
  have := (F r hr x1 x2).2
  omega
theorem WS.skip (B0 : CB h n k) (B : BF h n k P c b T N) (hN : N ≤ 1000) {S : Nat → Bool} {v x : Nat} (W : WS h n k P c S v x) (X : x < 2 * k → ¬ rxc h c x) : WS h n k P c S v (x + 1) := by
  obtain ⟨w1, w2, w3, w4, w5, w6⟩ := W
  refine ⟨w1, w2, w3, w4, w5, fun r h1 h2 h3 h4 => ?_⟩
  by_cases e : r = x
  · subst e
    exact rxc_no B0 B hN h2 (X h2) h3 (by rw [h4]; exact w2.2.2)
  · exact w6 r (by omega) h2 h3 h4
theorem WS.step (B0 : CB h n k) (Pt : PT h k P) (B : BF h n k P c b T N) (hN : N ≤ 1000) {S : Nat → Bool} {v x : Nat} (W : WS h n k P c S v x) (hx : x < 2 * k) (X : rxc h c x) : WS h n k P (fun p => if p = eT h x then c (eF h x) + eC h x else c p) S v (x + 1) := by
  obtain ⟨w1, w2, w3, w4, w5, w6⟩ := W
  obtain ⟨-, ne, es, lt⟩ := BF.step B0 Pt B hN hx X
  obtain ⟨x1, x2, x3⟩ := X
  obtain ⟨⟨-, hF⟩, -, hT⟩ := B0.1.eFT hx
  have pt := Pt x hx x1
  have bF := B.in' hF x2
  have kc := B0.eCI hx
  have sF : S (eF h x) = false := by
    cases hs : S (eF h x) with
    | false => rfl
    | true =>
      have := (w5 x hx x1 hs).2
      omega
  have sT : S (eT h x) = false := by
    cases hs : S (eT h x) with
    | false => rfl
    | true =>
      have := w3 _ _ hT hF hs sF x2
      omega
  have tv : eT h x ≠ v := by
    intro z
    have := w4 _ hF sF x2
    rw [← z] at this
    omega
  have nf : c (eF h x) + eC h x ≠ 1000000 := ti_far (by rw [es]; omega)
  have down : ∀ p, ((if p = eT h x then c (eF h x) + eC h x else c p).toInt ≤ (c p).toInt) := by
    intro p
    by_cases e : p = eT h x
    · rw [if_pos e, es, e]
      omega
    · rw [if_neg e]
      omega
  have keepS : ∀ p, S p = true → (if p = eT h x then c (eF h x) + eC h x else c p) = c p := by
    intro p hp
    rw [if_neg]
    intro z
    rw [z, sT] at hp
    cases hp
  have keepV : (if v = eT h x then c (eF h x) + eC h x else c v) = c v := if_neg (fun z => tv z.symm)
  refine ⟨fun p hp hs => ?_, ⟨w2.1, w2.2.1, ?_⟩, fun u w hu hw hsu hsw hcw => ?_, fun w hw hsw hcw => ?_, fun r hr h1 h2 => ?_, fun r h0 hr h1 h2 => ?_⟩
  · show (if p = eT h x then _ else _) ≠ _
    rw [keepS p hs]
    exact w1 p hp hs
  · show (if v = eT h x then _ else _) ≠ _
    rw [keepV]
    exact w2.2.2
  · show (if u = eT h x then _ else _ : Int32).toInt - P u ≤ (if w = eT h x then _ else _ : Int32).toInt - P w
    rw [keepS u hsu]
    by_cases e : w = eT h x
    · rw [if_pos e, es, e]
      have := w3 u _ hu hF hsu sF x2
      omega
    · have hcw2 : (if w = eT h x then c (eF h x) + eC h x else c w) ≠ 1000000 := hcw
      rw [if_neg e] at hcw2
      rw [if_neg e]
      exact w3 u w hu hw hsu hsw hcw2
  · show (if v = eT h x then _ else _ : Int32).toInt - P v ≤ (if w = eT h x then _ else _ : Int32).toInt - P w
    rw [keepV]
    by_cases e : w = eT h x
    · rw [if_pos e, es, e]
      have := w4 _ hF sF x2
      omega
    · have hcw2 : (if w = eT h x then c (eF h x) + eC h x else c w) ≠ 1000000 := hcw
      rw [if_neg e] at hcw2
      rw [if_neg e]
      exact w4 w hw hsw hcw2
  · show (if eT h r = eT h x then _ else _) ≠ _ ∧ (if eT h r = eT h x then _ else _ : Int32).toInt ≤ (if eF h r = eT h x then _ else _ : Int32).toInt + _
    rw [keepS _ h2]
    obtain ⟨y1, y2⟩ := w5 r hr h1 h2
    refine ⟨?_, ?_⟩
    · by_cases e : eT h r = eT h x
      · rw [if_pos e]
        exact nf
      · rw [if_neg e]
        exact y1
    · have := down (eT h r)
      omega
  · show (if eT h r = eT h x then _ else _) ≠ _ ∧ (if eT h r = eT h x then _ else _ : Int32).toInt ≤ (if eF h r = eT h x then _ else _ : Int32).toInt + _
    rw [h2, keepV]
    by_cases e : r = x
    · subst e
      rw [if_pos rfl]
      exact ⟨nf, by rw [es, h2]; omega⟩
    · obtain ⟨y1, y2⟩ := w6 r (by omega) hr h1 h2
      rw [h2] at y2
      refine ⟨?_, ?_⟩
      · by_cases e : eT h r = eT h x
        · rw [if_pos e]
          exact nf
        · rw [if_neg e]
          exact y1
      · have := down (eT h r)
        omega
theorem argmin {A : Nat → Prop} {f : Nat → Int} : ∀ m, (∃ w, w < m ∧ A w) → ∃ v, v < m ∧ A v ∧ ∀ w, w < m → A w → f v ≤ f w
  | 0, ⟨w, hw, _⟩ => absurd hw (by omega)
  | m + 1, ex => by
    by_cases c : ∃ w, w < m ∧ A w
    · obtain ⟨v, hv, av, lv⟩ := argmin (A := A) (f := f) m c
      by_cases am : A m ∧ f m < f v
      · refine ⟨m, by omega, am.1, fun w hw aw => ?_⟩
        by_cases e : w = m
        · rw [e]
          exact Int.le_refl _
        · have := lv w (by omega) aw
          omega
      · refine ⟨v, by omega, av, fun w hw aw => ?_⟩
        by_cases e : w = m
        · rw [e] at aw ⊢
          have : ¬ f m < f v := fun z => am ⟨aw, z⟩
          omega
        · exact lv w (by omega) aw
    · obtain ⟨w, hw, aw⟩ := ex
      have e : w = m := by
        rcases Nat.lt_or_ge w m with z | z
        · exact absurd ⟨w, z, aw⟩ c
        · omega
      subst e
      refine ⟨w, by omega, aw, fun w2 h2 a2 => ?_⟩
      by_cases e : w2 = w
      · rw [e]
        exact Int.le_refl _
      · exact absurd ⟨w2, by omega, a2⟩ c
theorem WS.fin (B0 : CB h n k) {S : Nat → Bool} {v : Nat} (W : WS h n k P c S v (2 * k)) : FX h k c ∨ ∃ v2, WS h n k P c (cadd S v) v2 0 := by
  obtain ⟨w1, w2, w3, w4, w5, w6⟩ := W
  have add : ∀ p, cadd S v p = true → p = v ∨ S p = true := by
    intro p hp
    unfold cadd at hp
    simp only [Bool.or_eq_true, decide_eq_true_eq] at hp
    exact hp
  have addf : ∀ p, cadd S v p = false → p ≠ v ∧ S p = false := by
    intro p hp
    unfold cadd at hp
    simp only [Bool.or_eq_false_iff, decide_eq_false_iff_not] at hp
    exact hp
  have three : ∀ r, r < 2 * k → eR h r ≠ 0 → cadd S v (eF h r) = true → c (eT h r) ≠ 1000000 ∧ (c (eT h r)).toInt ≤ (c (eF h r)).toInt + (eC h r).toInt := by
    intro r hr h1 h2
    rcases add _ h2 with z | z
    · exact w6 r hr hr h1 z
    · exact w5 r hr h1 z
  by_cases ex : ∃ w, w < n ∧ (cadd S v w = false ∧ c w ≠ 1000000)
  · obtain ⟨v2, hv, ⟨av, cv2⟩, lv⟩ := argmin (A := fun w => cadd S v w = false ∧ c w ≠ 1000000) (f := fun w => (c w).toInt - P w) n ex
    refine Or.inr ⟨v2, fun p hp hs => ?_, ⟨hv, av, cv2⟩, fun u w hu hw hsu hsw hcw => ?_, fun w hw hsw hcw => lv w hw ⟨hsw, hcw⟩, three, fun r h0 => absurd h0 (by omega)⟩
    · rcases add p hs with z | z
      · rw [z]
        exact w2.2.2
      · exact w1 p hp z
    · obtain ⟨z1, z2⟩ := addf w hsw
      rcases add u hsu with z | z
      · rw [z]
        exact w4 w hw z2 hcw
      · exact w3 u w hu hw z z2 hcw
  · refine Or.inl (fun r hr h1 h2 => three r hr h1 ?_)
    obtain ⟨⟨-, hF⟩, -⟩ := B0.1.eFT hr
    cases hs : cadd S v (eF h r) with
    | true => rfl
    | false => exact absurd ⟨_, hF, hs, h2⟩ ex
/-! the Java -/
def F2c (h g : LH) : Prop := (∀ e, e ≠ 295 → e ≠ 296 → g.1 e = h.1 e) ∧ g.2 = h.2
theorem F2c.e (F : F2c h g) : eF g = eF h ∧ eT g = eT h ∧ eC g = eC h ∧ eR g = eR h := by
  refine ⟨?_, ?_, ?_, ?_⟩
  · funext r
    unfold eF rm
    rw [F.1 271 (by decide) (by decide)]
  · funext r
    unfold eT rm
    rw [F.1 271 (by decide) (by decide)]
  · funext r
    unfold eC
    rw [F.1 292 (by decide) (by decide)]
  · funext r
    unfold eR
    rw [F.1 291 (by decide) (by decide), F.1 293 (by decide) (by decide)]
theorem F2c.cb (F : F2c h g) (B : CB h n k) : CB g n k := by
  refine ⟨B.1.fl (F.1 271 (by decide) (by decide)), fun a ha => ?_, fun a ha => ?_, fun p hp => ?_⟩
  · rw [F.1 291 (by decide) (by decide), F.1 293 (by decide) (by decide)]
    exact B.2.1 a ha
  · rw [F.1 292 (by decide) (by decide)]
    exact B.2.2.1 a ha
  · rw [F.1 294 (by decide) (by decide)]
    exact B.2.2.2 p hp
def LSR (h : LH) (n k : Nat) (P : Nat → Int) (g : LH) (i x : Nat) (x1 : Int32) : Prop := ∃ T N, BF h n k P (g.1 295) (g.1 296) T N ∧ N ≤ 28 * i + x ∧ (FX h k (g.1 295) ∨ ∃ S v, WS h n k P (g.1 295) S v x ∧ cv S n = i) ∧ ((x1 = 0 ∧ ∀ r, r < x → ¬ rxc h (g.1 295) r) ∨ x1 = 1)
theorem lc_in (B0 : CB h n k) (Pt : PT h k P) {i : Nat} (hi : i ≤ 8) {x2 : Int32} {Q : tf_Q} (q : ∀ (x1 x3 : Int32) (g : LH), F2c h g → LSR h n k P g i (2 * k) x1 → lx_X9_laysCheapest 298 (tf_Cd 298 (d + 2)) Q 96 [.ref 270, .int x1, .int x2, .int x3] [] g) : ∀ (f x : Nat) (x1 : Int32) (g : LH), x + f = 2 * k → F2c h g → LSR h n k P g i x x1 → lx_X9_laysCheapest 298 (tf_Cd 298 (d + 2)) Q 65 [.ref 270, .int x1, .int x2, .int (nI x)] [] g
  | 0, x, x1, g, hx, F, L => by
    have hn := B0.1.1
    have e : x = 2 * k := by omega
    subst e
    refine go_X9_laysCheapest_65 (by decide) ⟨fun _ => q _ _ g F L, fun z => absurd ?_ z⟩
    show 2 * g.1 271 1 ≤ nI (2 * k)
    rw [F.1 271 (by decide) (by decide), B0.1.2.2.1, show (2 : Int32) = nI 2 from rfl, nI_mul]
    exact nI_le (Nat.le_refl _) (by omega)
  | f + 1, x, x1, g, hx, F, L => by
    have hn := B0.1.1
    obtain ⟨T, N, BB, hN, W, Z⟩ := L
    obtain ⟨f1, f2, f3, f4⟩ := F.e
    have rxe : rxc g (g.1 295) x ↔ rxc h (g.1 295) x := by
      unfold rxc
      rw [f1, f2, f3, f4]
    have i1 : nI x / 2 = nI (x / 2) := pk_div (d := 2) (by omega) (by omega) (by omega)
    have i2 : nI x - nI x / 2 * 2 = nI (x % 2) := pk_rem (d := 2) (by omega) (by omega) (by omega)
    refine go_X9_laysCheapest_65 (by decide) ⟨fun z => ?_, fun _ => sx_rx (d := d) (F.cb B0) (r := x) (by omega) i1 i2 (fun X => go_X9_laysCheapest_88 (by decide) ?_) (fun X => go_X9_laysCheapest_88 (by decide) ?_)⟩
    · have z2 : 2 * g.1 271 1 ≤ nI x := z
      rw [F.1 271 (by decide) (by decide), B0.1.2.2.1, show (2 : Int32) = nI 2 from rfl, nI_mul] at z2
      exact absurd z2 (nI_ge (by omega) (by omega))
    · rw [rxe] at X
      rw [nI_1]
      obtain ⟨B2, -⟩ := BF.step B0 Pt BB (by omega) (by omega) X
      rw [f1, f2, f3]
      have c2 : (w1 (w1 g 295 (eT h x) (g.1 295 (eF h x) + eC h x)) 296 (eT h x) (nI x)).1 295 = fun p => if p = eT h x then g.1 295 (eF h x) + eC h x else g.1 295 p := by
        funext p
        rw [w1_ne (by decide)]
        by_cases e : p = eT h x
        · rw [if_pos e, e, w1_eq]
        · rw [if_neg e, w1_at e]
      have b2 : (w1 (w1 g 295 (eT h x) (g.1 295 (eF h x) + eC h x)) 296 (eT h x) (nI x)).1 296 = fun p => if p = eT h x then nI x else g.1 296 p := by
        funext p
        by_cases e : p = eT h x
        · rw [if_pos e, e, w1_eq]
        · rw [if_neg e, w1_at e, w1_ne (by decide)]
      refine lc_in B0 Pt hi q f (x + 1) _ _ (by omega) ⟨fun e h1 h2 => by rw [w1_ne h2, w1_ne h1]; exact F.1 e h1 h2, F.2⟩ ⟨_, N + 1, by rw [c2, b2]; exact B2, by omega, ?_, Or.inr ?_⟩
      · rcases W with W | ⟨S, v, W, hS⟩
        · exact absurd X (W.no B0 BB (by omega) (by omega))
        · exact Or.inr ⟨S, v, by rw [c2]; exact W.step B0 Pt BB (by omega) (by omega) X, hS⟩
      · rcases Z with ⟨z, -⟩ | z
        · rw [z]
          rfl
        · rw [z]
          rfl
    · rw [rxe] at X
      rw [nI_1]
      have x0 : x1 ||| 0 = x1 := by
        rcases Z with ⟨z, -⟩ | z
        · rw [z]
          rfl
        · rw [z]
          rfl
      rw [x0]
      refine lc_in B0 Pt hi q f (x + 1) _ _ (by omega) F ⟨T, N, BB, by omega, ?_, ?_⟩
      · rcases W with W | ⟨S, v, W, hS⟩
        · exact Or.inl W
        · exact Or.inr ⟨S, v, W.skip B0 BB (by omega) (fun _ => X), hS⟩
      · rcases Z with ⟨z, z2⟩ | z
        · refine Or.inl ⟨z, fun r hr => ?_⟩
          by_cases e : r = x
          · rw [e]
            exact X
          · exact z2 r (by omega)
        · exact Or.inr z
/-- the cheapest ways found: no step is left to do -/
def CW (h : LH) (n k : Nat) (P : Nat → Int) (g : LH) : Prop := ∃ T N, BF h n k P (g.1 295) (g.1 296) T N ∧ N ≤ 1000 ∧ FX h k (g.1 295)
theorem lc_out (B0 : CB h n k) (Pt : PT h k P) {Q : tf_Q} (q : ∀ g, F2c h g → CW h n k P g → Q tf_z g) : ∀ (f i : Nat) (x1 : Int32) (x3 : Value) (g : LH), i + f = 8 → F2c h g → LSR h n k P g i 0 x1 → (x1 = 0 → FX h k (g.1 295)) → lx_X9_laysCheapest 298 (tf_Cd 298 (d + 2)) Q 51 [.ref 270, .int x1, .int (nI i), x3] [] g
  | 0, i, x1, x3, g, hi, F, L, hz => by
    have hn := B0.1.1
    obtain ⟨T, N, BB, hN, W, Z⟩ := L
    have fx : FX h k (g.1 295) := by
      rcases W with W | ⟨S, v, W, hS⟩
      · exact W
      · have := cv_le (V := S) n
        omega
    have e : i = 8 := by omega
    subst e
    exact go_X9_laysCheapest_51 (by decide) ⟨fun _ => go_X9_laysCheapest_102 (by decide) (q g F ⟨T, N, BB, by omega, fx⟩), fun z => absurd (nI_lt (a := 7) (b := 8) (by omega) (by omega)) z⟩
  | f + 1, i, x1, x3, g, hi, F, L, hz => by
    have hn := B0.1.1
    refine go_X9_laysCheapest_51 (by decide) ⟨fun z => absurd z (nI_nlt (a := 7) (by omega) (by omega)), fun _ => ⟨fun c => go_X9_laysCheapest_102 (by decide) (q g F ?_), fun c => ?_⟩⟩
    · obtain ⟨T, N, BB, hN, W, Z⟩ := L
      exact ⟨T, N, BB, by omega, hz c⟩
    · obtain ⟨T, N, BB, hN, W, Z⟩ := L
      refine lc_in (d := d) (i := i) B0 Pt (by omega) (fun x1 x3 g2 F2 L2 => go_X9_laysCheapest_96 (by decide) ?_) (2 * k) 0 0 g (by omega) F ⟨T, N, BB, hN, W, Or.inl ⟨rfl, fun r hr => absurd hr (by omega)⟩⟩
      rw [nI_1]
      obtain ⟨T2, N2, BB2, hN2, W2, Z2⟩ := L2
      have zfx : x1 = 0 → FX h k (g2.1 295) := by
        intro e
        rcases Z2 with ⟨-, z⟩ | z
        · exact fun r hr h1 h2 => rxc_no B0 BB2 (by omega) hr (z r hr) h1 h2
        · rw [e] at z
          exact absurd z (by decide)
      refine lc_out B0 Pt q f (i + 1) x1 _ g2 (by omega) F2 ⟨T2, N2, BB2, by omega, ?_, ?_⟩ zfx
      · rcases W2 with W2 | ⟨S, v, W2, hS⟩
        · exact Or.inl W2
        · rcases W2.fin B0 with y | ⟨v2, y⟩
          · exact Or.inl y
          · exact Or.inr ⟨cadd S v, v2, y, by rw [(cv_add (V := S) (p := v) n).2 W2.2.1.1 W2.2.1.2.1, hS]⟩
      · rcases Z2 with ⟨z, -⟩ | z
        · exact Or.inl ⟨z, fun r hr => absurd hr (by omega)⟩
        · exact Or.inr z
theorem lc_st (B0 : CB h n k) {Q : tf_Q} (q : ∀ (x1 : Int32) (g : LH), F2c h g → (∀ p, p < n → g.1 295 p = (if h.1 294 p ≤ 0 then 1000000 else 0) ∧ g.1 296 p = -1) → lx_X9_laysCheapest 298 (tf_Cd 298 d) Q 47 [.ref 270, .int x1, tf_z, tf_z] [] g) : ∀ (f p : Nat) (g : LH), p + f = n → F2c h g → (∀ o, o < p → g.1 295 o = (if h.1 294 o ≤ 0 then 1000000 else 0) ∧ g.1 296 o = -1) → lx_X9_laysCheapest 298 (tf_Cd 298 d) Q 2 [.ref 270, .int (nI p), tf_z, tf_z] [] g
  | 0, p, g, hp, F, L => by
    have hn := B0.1.1
    exact go_X9_laysCheapest_2 (by decide) ⟨fun _ => q _ g F (fun o ho => L o (by omega)), fun z => absurd ((F.cb B0).1.n2 (by omega) (by omega)) z⟩
  | f + 1, p, g, hp, F, L => by
    have hn := B0.1.1
    have K : tf_K 295 = 8 := by decide +kernel
    have Nn : tf_N 295 = 7 := by decide +kernel
    have v7 : vp_in (nI p) 7 := vi_of (by omega) (by omega)
    have cp : (nI p).toNatClampNeg = p := nI_clamp (by omega)
    have e33 : ∀ y : Int32, y = (if h.1 294 p ≤ 0 then 1000000 else 0) → lx_X9_laysCheapest 298 (tf_Cd 298 d) Q 33 [.ref 270, .int (nI p), tf_z, tf_z] [.int y, .int (nI p), .ref 295] g := by
      intro y ey
      refine go_X9_laysCheapest_33 (by decide) K (ny0 := 7) Nn (by decide) ⟨v7, v7, ?_⟩
      rw [cp, nI_1]
      refine lc_st B0 q f (p + 1) (w1 (w1 g 295 p y) 296 p (-1)) (by omega) ⟨fun e h1 h2 => by rw [w1_ne h2, w1_ne h1]; exact F.1 e h1 h2, F.2⟩ (fun o ho => ?_)
      by_cases e : o = p
      · exact ⟨by rw [e, w1_ne (by decide), w1_eq]; exact ey, by rw [e, w1_eq]⟩
      · exact ⟨by rw [w1_ne (by decide), w1_at e]; exact (L o (by omega)).1, by rw [w1_at e, w1_ne (by decide)]; exact (L o (by omega)).2⟩
    refine go_X9_laysCheapest_2 (by decide) ⟨fun z => absurd z ((F.cb B0).1.n1 (by omega)), fun _ => ⟨v7, ?_⟩⟩
    rw [cp, F.1 294 (by decide) (by decide)]
    exact ⟨fun c => go_X9_laysCheapest_30 (by decide) K (ny0 := 7) Nn (by decide) (e33 _ (by rw [if_pos c])), fun c => e33 _ (by rw [if_neg c])⟩
theorem sp_lcw (B0 : CB h n k) (Pt : PT h k P) : tf_Sp (d + 3) 97 [.ref 270] h (fun _ g => F2c h g ∧ CW h n k P g) := by
  intro Q q
  refine en_X9_laysCheapest (by decide) (go_X9_laysCheapest_0 (by decide) (lc_st B0 (fun x1 g F L => go_X9_laysCheapest_47 (by decide) ?_) n 0 h (by omega) ⟨fun _ _ _ => rfl, rfl⟩ (fun o ho => absurd ho (by omega))))
  have BB : BF h n k P (g.1 295) (g.1 296) (fun _ => 0) 0 := by
    intro p hp
    obtain ⟨e1, e2⟩ := L p hp
    by_cases c : h.1 294 p ≤ 0
    · rw [if_pos c] at e1
      exact Or.inl ⟨e1, e2⟩
    · rw [if_neg c] at e1
      refine Or.inr ⟨by rw [e1, z_ti]; omega, by rw [e1, z_ti]; omega, Nat.le_refl 0, Or.inl ⟨e2, c⟩⟩
  refine lc_out (d := d) B0 Pt (fun g F W => q _ _ ⟨F, W⟩) 8 0 1 _ g (by omega) F ⟨fun _ => 0, 0, BB, by omega, ?_, Or.inr rfl⟩ (fun z => absurd z (by decide))
  by_cases ex : ∃ w, w < n ∧ g.1 295 w ≠ 1000000
  · obtain ⟨v, hv, av, lv⟩ := argmin (A := fun w => g.1 295 w ≠ 1000000) (f := fun w => (g.1 295 w).toInt - P w) n ex
    refine Or.inr ⟨fun _ => false, v, ⟨fun p _ z => absurd z Bool.false_ne_true, ⟨hv, rfl, av⟩, fun u w _ _ z => absurd z Bool.false_ne_true, fun w hw _ hc => lv w hw hc, fun r _ _ z => absurd z Bool.false_ne_true, fun r z => absurd z (by omega)⟩, ?_⟩
    have z : ∀ m, cv (fun _ => false) m = 0 := by
      intro m
      induction m with
      | zero => rfl
      | succ m ih =>
        unfold cv
        rw [ih]
        rfl
    exact z n
  · refine Or.inl (fun r hr h1 h2 => ?_)
    obtain ⟨⟨-, hF⟩, -⟩ := B0.1.eFT hr
    exact absurd ⟨_, hF, h2⟩ ex
end R91
