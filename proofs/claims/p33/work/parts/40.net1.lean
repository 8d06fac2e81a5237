/-! ===== the class's grid: what is asked of it ===== -/
/-- method kn returns v and leaves the table g -/
def tf_Rt (d kn : Nat) (As : List Value) (h : LH) (v : Value) (g : LH) : Prop := ∀ Q : tf_Q, Q v g → tf_Cd 298 d kn As h Q
theorem vi_mono {x : Int32} {m n : Nat} (h : vp_in x m) (hmn : m ≤ n) : vp_in x n := fun q => h (q.imp id (fun z => Nat.le_trans hmn z))
theorem vi_nI {x : Int32} {m : Nat} (h : vp_in x m) : ∃ j : Nat, j < m ∧ x = nI j := by
  have h0 : ¬ x < 0 := fun q => h (Or.inl q)
  obtain ⟨j, hj, e⟩ := nI_of h0
  subst e
  refine ⟨j, ?_, rfl⟩
  have h1 : ¬ m ≤ (nI j).toNatClampNeg := fun q => h (Or.inr q)
  rw [nI_clamp hj] at h1
  omega
theorem vi_of {j m : Nat} (h : j < m) (hm : m ≤ 100000) : vp_in (nI j) m := pk_in j m h rfl (by omega)
theorem vi_n0 {x : Int32} {m : Nat} (h : vp_in x m) : ¬ x < 0 := fun q => h (Or.inl q)
/-- 1 or 0 -/
def bI (b : Bool) : Int32 := if b = true then 1 else 0
theorem bI_nar (b : Bool) : vp_nar .boolean (bI b) = bI b := by cases b <;> rfl
def nt_hasArc (h : LH) (b : Nat) (a : Int32) : Bool := !decide (a < 0) && !decide (h.1 b 1 ≤ a)
def nt_hasPt (h : LH) (b : Nat) (a : Int32) : Bool := !decide (a < 0) && !decide (h.1 b 0 ≤ a)
def nt_two (h : LH) (b : Nat) (a c : Int32) : Bool := nt_hasPt h b a && (nt_hasPt h b c && !decide (a = c))
def nt_red (h : LH) (b : Nat) (a : Int32) : Int32 := ((h.1 (b + 5) a.toNatClampNeg) + (h.1 (b + 10) (h.1 (b + 2) a.toNatClampNeg).toNatClampNeg)) - (h.1 (b + 10) (h.1 (b + 3) a.toNatClampNeg).toNatClampNeg)
def nt_may (h : LH) (b : Nat) (a : Int32) : Bool := (decide (h.1 (b + 7) a.toNatClampNeg = 0) || decide (h.1 (b + 7) a.toNatClampNeg = 1)) && !decide (h.1 (b + 4) a.toNatClampNeg ≤ 0)
def nt_max0 (x : Int32) : Int32 := if (0 : Int32) < x then x else 0
def nt_off (h : LH) (b : Nat) (a : Int32) : Int32 := if nt_may h b a = true then (if h.1 (b + 7) a.toNatClampNeg = 0 then nt_max0 (-nt_red h b a) else nt_max0 (nt_red h b a)) else 0
/-- an arc's ends are points -/
def nt_ends (h : LH) (b : Nat) (a : Int32) : Prop := vp_in a 21 ∧ vp_in (h.1 (b + 2) a.toNatClampNeg) 8 ∧ vp_in (h.1 (b + 3) a.toNatClampNeg) 8
section NT1
variable {h : LH} {b d : Nat}
theorem sx_hasArc (K : tf_K b = 0) (a : Int32) : tf_Rt (d + 1) 119 [.ref b, .int a] h (.int (bI (nt_hasArc h b a))) h := by
  intro Q q
  refine en_X1_hasArc (by decide) K (go_X1_hasArc_0 (by decide) K ⟨fun c => go_X1_hasArc_16 (by decide) K (go_X1_hasArc_17 (by decide) K ⟨rfl, ?_⟩), fun c => ⟨fun c2 => go_X1_hasArc_16 (by decide) K (go_X1_hasArc_17 (by decide) K ⟨rfl, ?_⟩), fun c2 => go_X1_hasArc_17 (by decide) K ⟨rfl, ?_⟩⟩⟩)
  · simpa [nt_hasArc, c, bI] using q
  · simpa [nt_hasArc, c, c2, bI] using q
  · simpa [nt_hasArc, c, c2, bI] using q
theorem sx_hasPt (K : tf_K b = 0) (a : Int32) : tf_Rt (d + 1) 120 [.ref b, .int a] h (.int (bI (nt_hasPt h b a))) h := by
  intro Q q
  refine en_X1_hasPoint (by decide) K (go_X1_hasPoint_0 (by decide) K ⟨fun c => go_X1_hasPoint_16 (by decide) K (go_X1_hasPoint_17 (by decide) K ⟨rfl, ?_⟩), fun c => ⟨fun c2 => go_X1_hasPoint_16 (by decide) K (go_X1_hasPoint_17 (by decide) K ⟨rfl, ?_⟩), fun c2 => go_X1_hasPoint_17 (by decide) K ⟨rfl, ?_⟩⟩⟩)
  · simpa [nt_hasPt, c, bI] using q
  · simpa [nt_hasPt, c, c2, bI] using q
  · simpa [nt_hasPt, c, c2, bI] using q
theorem bI_0 {x : Bool} : bI x = 0 ↔ x = false := by cases x <;> simp [bI]
theorem sx_two (K : tf_K b = 0) (a c : Int32) : tf_Rt (d + 2) 121 [.ref b, .int a, .int c] h (.int (bI (nt_two h b a c))) h := by
  intro Q q
  refine en_X1_hasTwoPoints (by decide) K (go_X1_hasTwoPoints_0 (by decide) K (sx_hasPt K a _ (go_X1_hasTwoPoints_5 (by decide) K ⟨fun e => ?_, fun e => sx_hasPt K c _ (go_X1_hasTwoPoints_13 (by decide) K ⟨fun e2 => ?_, fun e2 => ⟨fun e3 => ?_, fun e3 => ?_⟩⟩)⟩)))
  · rw [bI_0] at e
    exact go_X1_hasTwoPoints_25 (by decide) K (go_X1_hasTwoPoints_26 (by decide) K ⟨rfl, by simpa [nt_two, e, bI] using q⟩)
  · rw [bI_0] at e e2
    exact go_X1_hasTwoPoints_25 (by decide) K (go_X1_hasTwoPoints_26 (by decide) K ⟨rfl, by simpa [nt_two, e2, bI] using q⟩)
  · exact go_X1_hasTwoPoints_25 (by decide) K (go_X1_hasTwoPoints_26 (by decide) K ⟨rfl, by simpa [nt_two, e3, bI] using q⟩)
  · rw [bI_0, Bool.not_eq_false] at e e2
    exact go_X1_hasTwoPoints_26 (by decide) K ⟨rfl, by simpa [nt_two, e, e2, e3, bI] using q⟩
def nt_told (h : LH) (b : Nat) (a : Int32) : Int32 := if a = 7 then h.1 b 0 else a
theorem sx_toldNode (K : tf_K b = 0) (a : Int32) : tf_Rt (d + 1) 122 [.ref b, .int a] h (.int (nt_told h b a)) h := by
  intro Q q
  refine en_X1_toldNode (by decide) K (go_X1_toldNode_0 (by decide) K ⟨fun c => go_X1_toldNode_14 (by decide) K ?_, fun c => go_X1_toldNode_13 (by decide) K (go_X1_toldNode_14 (by decide) K ?_)⟩)
  · simpa [nt_told, c] using q
  · simpa [nt_told, c] using q
theorem sx_red (K : tf_K b = 0) {a : Int32} (ha : nt_ends h b a) : tf_Rt (d + 1) 131 [.ref b, .int a] h (.int (nt_red h b a)) h :=
  fun Q q => en_X1_reduced (by decide) K (go_X1_reduced_0 (by decide) K ⟨ha.1, ha.1, ha.2.1, ha.1, ha.2.2, q⟩)
theorem sx_may (K : tf_K b = 0) {a : Int32} (ha : vp_in a 21) : tf_Rt (d + 1) 132 [.ref b, .int a] h (.int (bI (nt_may h b a))) h := by
  intro Q q
  have k19 : (h.1 (b + 7) a.toNatClampNeg = 0 ∨ h.1 (b + 7) a.toNatClampNeg = 1) → lx_X1_mayOffer 298 (tf_Cd 298 d) Q 19 [.ref b, .int a] [] h := fun hs =>
    go_X1_mayOffer_19 (by decide) K ⟨ha, fun c => go_X1_mayOffer_32 (by decide) K (go_X1_mayOffer_33 (by decide) K ⟨rfl, by simpa [nt_may, c, bI] using q⟩), fun c => go_X1_mayOffer_33 (by decide) K ⟨rfl, by rcases hs with hs | hs <;> simpa [nt_may, c, hs, bI] using q⟩⟩
  refine en_X1_mayOffer (by decide) K (go_X1_mayOffer_0 (by decide) K ⟨ha, fun c => k19 (Or.inl c), fun c => ⟨ha, fun c2 => k19 (Or.inr c2), fun c2 => go_X1_mayOffer_32 (by decide) K (go_X1_mayOffer_33 (by decide) K ⟨rfl, ?_⟩)⟩⟩)
  simpa [nt_may, c, c2, bI] using q
theorem sx_off (K : tf_K b = 0) {a : Int32} (ha : nt_ends h b a) : tf_Rt (d + 2) 133 [.ref b, .int a] h (.int (nt_off h b a)) h := by
  intro Q q
  refine en_X1_offer (by decide) K (go_X1_offer_0 (by decide) K (sx_may K ha.1 _ (go_X1_offer_5 (by decide) K ⟨fun e => ?_, fun e => go_X1_offer_10 (by decide) K ⟨ha.1, fun c => ?_, fun c => ?_⟩⟩)))
  · rw [bI_0] at e
    simpa [nt_off, e] using q
  · rw [bI_0, Bool.not_eq_false] at e
    refine sx_red K ha _ (go_X1_offer_25 (by decide) K (go_X1_offer_34 (by decide) K ?_))
    rw [tf_Cd_ext (by decide)]
    refine ⟨rfl, go_X1_offer_37 (by decide) K ?_⟩
    simpa [nt_off, e, c, nt_max0] using q
  · rw [bI_0, Bool.not_eq_false] at e
    refine go_X1_offer_29 (by decide) K (sx_red K ha _ (go_X1_offer_34 (by decide) K ?_))
    rw [tf_Cd_ext (by decide)]
    refine ⟨rfl, go_X1_offer_37 (by decide) K ?_⟩
    simpa [nt_off, e, c, nt_max0] using q
/-- how many of the arcs from i on offer -/
def nt_cnt (h : LH) (b : Nat) : Nat → Nat → Int32 → Int32
  | 0, _, s => s
  | f + 1, i, s => nt_cnt h b f (i + 1) (if nt_off h b (nI i) ≤ 0 then s else s + 1)
theorem sx_cntL (K : tf_K b = 0) {k : Nat} (hk : h.1 b 1 = nI k) (hk14 : k ≤ 14) (he : ∀ a, a < k → nt_ends h b (nI a)) {Q : tf_Q} : ∀ (f i : Nat) (s : Int32), i + f = k → Q (.int (nt_cnt h b f i s)) h → lx_X1_countOffers 298 (tf_Cd 298 (d + 2)) Q 4 [.ref b, .int s, .int (nI i)] [] h
  | 0, i, s, hi, q => by
    refine go_X1_countOffers_4 (by decide) K ⟨fun _ => go_X1_countOffers_29 (by decide) K q, fun c => absurd ?_ c⟩
    rw [hk]
    exact nI_le (by omega) (by omega)
  | f + 1, i, s, hi, q => by
    refine go_X1_countOffers_4 (by decide) K ⟨fun c => ?_, fun _ => sx_off K (he i (by omega)) _ (go_X1_countOffers_17 (by decide) K ⟨fun c => go_X1_countOffers_23 (by decide) K ?_, fun c => go_X1_countOffers_23 (by decide) K ?_⟩)⟩
    · rw [hk] at c
      exact absurd c (nI_ge (by omega) (by omega))
    · rw [nI_1]
      exact sx_cntL K hk hk14 he f (i + 1) s (by omega) (by rw [nt_cnt, if_pos c] at q; exact q)
    · rw [nI_1]
      exact sx_cntL K hk hk14 he f (i + 1) (s + 1) (by omega) (by rw [nt_cnt, if_neg c] at q; exact q)
theorem sx_cnt (K : tf_K b = 0) {k : Nat} (hk : h.1 b 1 = nI k) (hk14 : k ≤ 14) (he : ∀ a, a < k → nt_ends h b (nI a)) : tf_Rt (d + 3) 134 [.ref b] h (.int (nt_cnt h b k 0 0)) h :=
  fun _ q => en_X1_countOffers (by decide) K (go_X1_countOffers_0 (by decide) K (sx_cntL K hk hk14 he k 0 0 (by omega) q))
/-- which arc enters: from the i-th look on -/
def nt_pk (h : LH) (b k : Nat) (rule st : Int32) : Nat → Nat → Int32 → Int32 → Int32
  | 0, _, best, _ => best
  | f + 1, i, best, most =>
    let a := (st + nI i) - (st + nI i) / nI k * nI k
    let m := nt_off h b a
    if m ≤ 0 then (if m ≤ most then nt_pk h b k rule st f (i + 1) best most else nt_pk h b k rule st f (i + 1) a m)
    else if rule = 1 then (if m ≤ most then nt_pk h b k rule st f (i + 1) best most else nt_pk h b k rule st f (i + 1) a m) else a
def nt_pick (h : LH) (b k : Nat) (rule : Int32) : Int32 := nt_pk h b k rule (if rule = 2 then h.1 (b + 11) 3 + 1 else 0) k 0 (-1) 0
theorem sx_pickL (K : tf_K b = 0) {k : Nat} (hk : h.1 b 1 = nI k) (hk14 : k ≤ 14) (he : ∀ a, a < k → nt_ends h b (nI a)) {rule st : Int32} (hst : ∀ i, i < k → vp_in ((st + nI i) - (st + nI i) / nI k * nI k) k) {Q : tf_Q} : ∀ (f i : Nat) (best most : Int32) (x6 x7 : Value), i + f = k → Q (.int (nt_pk h b k rule st f i best most)) h → lx_X1_pick 298 (tf_Cd 298 (d + 2)) Q 27 [.ref b, .int rule, .int st, .int best, .int most, .int (nI i), x6, x7] [] h
  | 0, i, best, most, x6, x7, hi, q => by
    refine go_X1_pick_27 (by decide) K ⟨fun _ => go_X1_pick_88 (by decide) K q, fun c => absurd ?_ c⟩
    rw [hk]
    exact nI_le (by omega) (by omega)
  | f + 1, i, best, most, x6, x7, hi, q => by
    have hv := hst i (by omega)
    have hen : nt_ends h b ((st + nI i) - (st + nI i) / nI k * nI k) := by
      obtain ⟨j, hj, e⟩ := vi_nI hv
      rw [e]
      exact he j hj
    refine go_X1_pick_27 (by decide) K ⟨fun c => ?_, fun _ => ⟨?_, ?_⟩⟩
    · rw [hk] at c
      exact absurd c (nI_ge (by omega) (by omega))
    · rw [hk]
      exact nI_ne0 (by omega) (by omega)
    · rw [hk]
      have n68 : (nt_off h b ((st + nI i) - (st + nI i) / nI k * nI k) ≤ 0 ∨ rule = 1) → lx_X1_pick 298 (tf_Cd 298 (d + 2)) Q 68 [.ref b, .int rule, .int st, .int best, .int most, .int (nI i), .int ((st + nI i) - (st + nI i) / nI k * nI k), .int (nt_off h b ((st + nI i) - (st + nI i) / nI k * nI k))] [] h := by
        intro hor
        refine go_X1_pick_68 (by decide) K ⟨fun c => go_X1_pick_82 (by decide) K ?_, fun c => go_X1_pick_82 (by decide) K ?_⟩
        · rw [nI_1]
          refine sx_pickL K hk hk14 he hst f (i + 1) best most _ _ (by omega) ?_
          rw [nt_pk] at q
          by_cases hm : nt_off h b ((st + nI i) - (st + nI i) / nI k * nI k) ≤ 0
          · simpa only [hm, c, if_true] using q
          · rcases hor with hor | hor
            · exact absurd hor hm
            · simpa only [hm, c, hor, if_true, if_false] using q
        · rw [nI_1]
          refine sx_pickL K hk hk14 he hst f (i + 1) _ _ _ _ (by omega) ?_
          rw [nt_pk] at q
          by_cases hm : nt_off h b ((st + nI i) - (st + nI i) / nI k * nI k) ≤ 0
          · simpa only [hm, c, if_true, if_false] using q
          · rcases hor with hor | hor
            · exact absurd hor hm
            · simpa only [hm, c, hor, if_true, if_false] using q
      refine sx_off K hen _ (go_X1_pick_53 (by decide) K ⟨fun c => n68 (Or.inl c), fun c => ⟨fun c2 => n68 (Or.inr c2), fun c2 => ?_⟩⟩)
      rw [nt_pk] at q
      simpa only [c, c2, if_false] using q
theorem sx_pick (K : tf_K b = 0) {k : Nat} (hk : h.1 b 1 = nI k) (hk14 : k ≤ 14) (he : ∀ a, a < k → nt_ends h b (nI a)) {rule : Int32} (hst : ∀ i, i < k → vp_in (((if rule = 2 then h.1 (b + 11) 3 + 1 else 0) + nI i) - ((if rule = 2 then h.1 (b + 11) 3 + 1 else 0) + nI i) / nI k * nI k) k) : tf_Rt (d + 3) 135 [.ref b, .int rule] h (.int (nt_pick h b k rule)) h := by
  intro Q q
  refine en_X1_pick (by decide) K (go_X1_pick_0 (by decide) K ⟨fun c => go_X1_pick_18 (by decide) K ?_, fun c => go_X1_pick_17 (by decide) K (go_X1_pick_18 (by decide) K ?_)⟩)
  · unfold nt_pick at q
    rw [if_pos c] at q hst
    exact sx_pickL K hk hk14 he hst k 0 (-1) 0 _ _ (by omega) q
  · unfold nt_pick at q
    rw [if_neg c] at q hst
    exact sx_pickL K hk hk14 he hst k 0 (-1) 0 _ _ (by omega) q
end NT1
