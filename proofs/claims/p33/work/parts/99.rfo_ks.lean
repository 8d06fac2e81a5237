/-! ===== what a row keeps besides: where all flows, the tree strongly feasible, loans ===== -/
section RFO
variable {h g r T T2 : LH} {n k m M : Nat}
def KSx (T : LH) (n k : Nat) : Prop := CONS T n k ∧ SFT T n k ∧ NLT T n
/-- what a row keeps besides GI -/
def KS (r : LH) (n k : Nat) : Prop := KSx (lt r n k) n k
theorem fz_c {f g : Nat → Int32} : ∀ k, (∀ a, a < k → f a = g a) → fz f k = fz g k
  | 0, _ => rfl
  | k + 1, e => by rw [fz, fz, fz_c k (fun a ha => e a (by omega)), e k (by omega)]
theorem cq_ck {p : Nat} (e : ∀ a w, a < k → (w = 0 ∨ w = 1 ∨ w = 4) → rm T2 a w = rm T a w) (e1 : T2.1 271 (58 + p) = T.1 271 (58 + p)) (e2 : T2.1 271 (65 + p) = T.1 271 (65 + p)) : cq T2 k p = cq T k p := by
  unfold cq dw
  rw [e1, e2, fz_c k (fun a ha => ?_)]
  unfold tlv hdv
  rw [e a 0 ha (Or.inl rfl), e a 1 ha (Or.inr (Or.inl rfl))]
  dsimp only
  rw [e a 4 ha (Or.inr (Or.inr rfl))]
theorem KSx.to (K : KSx T n k) (n7 : n ≤ 7) (k14 : k ≤ 14) (R : ∀ i, 44 ≤ i → i < 170 → (∀ a, i ≠ 72 + 7 * a + 3) → T2.1 271 i = T.1 271 i) (same : ∀ p, p < n → T2.1 282 p = T.1 282 p) : KSx T2 n k := by
  obtain ⟨C, S, N⟩ := K
  have rr : ∀ a w, a < k → w < 7 → w ≠ 3 → rm T2 a w = rm T a w := fun a w ha hw h3 => R _ (by omega) (by omega) (fun c => by omega)
  refine ⟨fun p hp => ?_, fun p hp => ?_, fun p hp => ?_⟩
  · rw [R _ (by omega) (by omega) (fun c => by omega), C p hp]
    exact (cq_ck (fun a w ha hw => rr a w ha (by omega) (by omega)) (R _ (by omega) (by omega) (fun c => by omega)) (R _ (by omega) (by omega) (fun c => by omega))).symm
  · obtain ⟨s1, s2⟩ := S p hp
    rw [same p hp, R (65 + p) (by omega) (by omega) (fun c => by omega), R (58 + p) (by omega) (by omega) (fun c => by omega)]
    refine ⟨fun b hb e => ?_, s2⟩
    rw [rr b 0 hb (by omega) (by omega), rr b 1 hb (by omega) (by omega), rr b 2 hb (by omega) (by omega), rr b 4 hb (by omega) (by omega)]
    exact s1 b hb e
  · rw [R (65 + p) (by omega) (by omega) (fun c => by omega), R (51 + p) (by omega) (by omega) (fun c => by omega)]
    exact N p hp
theorem ksx_beg (B : BI g n k) (w : Int32) : KSx (lt (bgn g n k w) n k) n k := by
  have e : (lt (bgn g n k w) n k).1 271 = (bgn g n k w).1 271 := lt_fl.r
  refine ⟨fun p hp => ?_, sf_beg B w, fun p hp => ?_⟩
  · rw [e, cons_beg B w p hp]
    exact (cq_c (fun c w _ => by unfold rm; rw [e]) (by rw [e]) (by rw [e])).symm
  · rw [e]
    exact nl_beg B w p hp
theorem ksx_piv (L : LT T n k) (GT : GI T n k M) (hM : M ≤ 20000000) {a x y mm : Nat} (ha : a < k) (hx : x < n) (hy : y < n) (ho : rf_off T a = true) (ex : (if rm T a 5 = 0 then rm T a 0 else rm T a 1) = nI x) (ey : (if rm T a 5 = 0 then rm T a 1 else rm T a 0) = nI y) (hm : mm < lc_n T x y) (er : rr (lc T a x y) mm = rlr (lc T a x y) (lc_n T x y) 0 1000000) (em : lvx (lc T a x y) (rlr (lc T a x y) (lc_n T x y) 0 1000000) (lc_n T x y) 0 (-1) = nI mm) (S : TS T n k) (K : KSx T n k) (e5 : T2.1 271 = (tn5 T a x y mm).1 271) (L5 : LT T2 n k) (S5 : TS T2 n k) : KSx T2 n k := by
  have xn := Nat.le_of_lt hx
  have yn := Nat.le_of_lt hy
  have ln16 : lc_n T x y ≤ 16 := (lc_ok L ha xn yn).1.2.1
  have last : ∀ i, mm < i → i < lc_n T x y → rr (lc T a x y) i ≠ rlr (lc T a x y) (lc_n T x y) 0 1000000 := by
    intro i h1 h2 h3
    rcases lvx_last (g := lc T a x y) (dl := rlr (lc T a x y) (lc_n T x y) 0 1000000) (mm := mm) (lc_n T x y) 0 (-1) (by omega) (by omega) with z | z
    · have := z i (Nat.zero_le _) (by omega) h3
      omega
    · exact z em
  refine ⟨fun p hp => ?_, sf_piv L GT hM ha hx hy ho ex ey hm er last S K.2.1 e5 L5 S5, nl_piv L GT hM ha hx hy ho ex ey hm er K.2.2 e5⟩
  rw [e5, cons_piv L GT K.1 ha hx hy ex ey hm p hp]
  exact (cq_c (fun c w _ => by unfold rm; rw [e5]) (by rw [e5]) (by rw [e5])).symm
end RFO
