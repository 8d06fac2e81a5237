/-! ===== phi: what each point gives, the bounds, and how costs differ ===== -/
section VNP
variable {T : LH} {n k M : Nat}
theorem cost_diff {t u : Nat → Nat} {c P φ φ2 Y Y2 W : Nat → Int} (ends : ∀ a, a < k → t a < n ∧ u a < n) (cons : ∀ p, p < n → dv t u φ k p + Y p = dv t u φ2 k p + Y2 p) : (fs (fun a => c a * φ a) k + fs (fun p => W p * Y p) n) - (fs (fun a => c a * φ2 a) k + fs (fun p => W p * Y2 p) n) = fs (fun a => (c a + P (t a) - P (u a)) * (φ a - φ2 a)) k + fs (fun p => (P p + W p) * (Y p - Y2 p)) n := by
  have d1 := dv_dual (f := φ) (P := P) (t := t) (u := u) (n := n) k ends
  have d2 := dv_dual (f := φ2) (P := P) (t := t) (u := u) (n := n) k ends
  have e1 : fs (fun a => (c a + P (t a) - P (u a)) * (φ a - φ2 a)) k = (fs (fun a => c a * φ a) k - fs (fun a => c a * φ2 a) k) + (fs (fun a => (P (t a) - P (u a)) * φ a) k - fs (fun a => (P (t a) - P (u a)) * φ2 a) k) := by
    rw [← fs_sub, ← fs_sub, ← fs_add]
    exact fs_c k (fun a _ => by grind)
  have e2 : fs (fun p => (P p + W p) * (Y p - Y2 p)) n = (fs (fun p => W p * Y p) n - fs (fun p => W p * Y2 p) n) + fs (fun p => P p * (Y p - Y2 p)) n := by
    rw [← fs_sub, ← fs_add]
    exact fs_c n (fun p _ => by grind)
  have e3 : fs (fun p => P p * (Y p - Y2 p)) n = fs (fun p => P p * dv t u φ2 k p) n - fs (fun p => P p * dv t u φ k p) n := by
    rw [← fs_sub]
    refine fs_c n (fun p hp => ?_)
    have := cons p hp
    have e : Y p - Y2 p = dv t u φ2 k p - dv t u φ k p := by omega
    rw [e, Int.mul_sub]
  rw [e1, e2, e3, d1, d2]
  omega
theorem dw_int {t u : Nat → Nat} {f : Nat → Int32} {p : Nat} : ∀ k, k ≤ 14 → (∀ a, a < k → 0 ≤ (f a).toInt ∧ (f a).toInt ≤ 100) → (dw t u f k p).toInt = dv t u (fun a => (f a).toInt) k p ∧ -(100 * (k : Int)) ≤ (dw t u f k p).toInt ∧ (dw t u f k p).toInt ≤ 100 * (k : Int)
  | 0, _, _ => ⟨rfl, by show -(100 * ((0 : Nat) : Int)) ≤ (0 : Int32).toInt; rw [z_ti]; omega, by show (0 : Int32).toInt ≤ _; rw [z_ti]; omega⟩
  | k + 1, hk, h => by
    obtain ⟨i1, i2, i3⟩ := dw_int (t := t) (u := u) (p := p) k (by omega) (fun a ha => h a (by omega))
    have hk2 := h k (by omega)
    have e1 : dw t u f (k + 1) p = dw t u f k p + ((if t k = p then f k else 0) - (if u k = p then f k else 0)) := rfl
    have e2 : dv t u (fun a => (f a).toInt) (k + 1) p = dv t u (fun a => (f a).toInt) k p + ((if t k = p then (f k).toInt else 0) - (if u k = p then (f k).toInt else 0)) := rfl
    rw [e1, e2, ← i1]
    have d : ((if t k = p then f k else 0) - (if u k = p then f k else 0)).toInt = (if t k = p then (f k).toInt else 0) - (if u k = p then (f k).toInt else 0) ∧ -100 ≤ (if t k = p then (f k).toInt else 0) - (if u k = p then (f k).toInt else (0 : Int)) ∧ (if t k = p then (f k).toInt else 0) - (if u k = p then (f k).toInt else (0 : Int)) ≤ 100 := by
      by_cases z1 : t k = p <;> by_cases z2 : u k = p <;> simp only [z1, z2, if_true, if_false]
      · rw [tis (by omega) (by omega)]
        omega
      · rw [tis (by rw [z_ti]; omega) (by rw [z_ti]; omega), z_ti]
        omega
      · rw [tis (by rw [z_ti]; omega) (by rw [z_ti]; omega), z_ti]
        omega
      · rw [tis (by rw [z_ti]; omega) (by rw [z_ti]; omega), z_ti]
        omega
    rw [tia (by omega) (by omega)]
    omega
/-- what each point has, as numbers; and so much it owes at most -/
theorem cons_int (GT : GI T n k M) (hM : M ≤ 20000000) (K : CONS T n k) {p : Nat} (hp : p < n) : (T.1 271 (44 + p)).toInt = dv (tlv T) (hdv T) (fun a => (rm T a 4).toInt) k p + (T.1 271 (58 + p)).toInt * (T.1 271 (65 + p)).toInt ∧ 0 ≤ (T.1 271 (65 + p)).toInt ∧ (T.1 271 (65 + p)).toInt ≤ 1500 := by
  have k14 := GT.1.1.2.2
  obtain ⟨-, -, -, -, ⟨-, A2, -, A4⟩, Db, -⟩ := id GT
  obtain ⟨v, h1, h2, w⟩ := Db p hp
  obtain ⟨s, hs, es⟩ := A4 p hp
  have sb := v99 hs es
  have K := K p hp
  obtain ⟨d1, d2, d3⟩ := dw_int (t := tlv T) (u := hdv T) (f := fun a => rm T a 4) (p := p) k k14 (fun a ha => by
    obtain ⟨v, b, q1, q2, q3, -⟩ := A2 a ha
    rw [q3, nI_toInt (by omega)]
    omega)
  have e : T.1 271 (58 + p) * T.1 271 (65 + p) = T.1 271 (44 + p) - dw (tlv T) (hdv T) (fun a => rm T a 4) k p := by
    unfold cq at K
    rw [K]
    grind
  have vi : (nI v).toInt = (v : Int) := nI_toInt (by omega)
  have t1 : (T.1 271 (58 + p) * T.1 271 (65 + p)).toInt = (T.1 271 (44 + p)).toInt - dv (tlv T) (hdv T) (fun a => (rm T a 4).toInt) k p := by
    rw [e, tis (by omega) (by omega), d1]
  have t2 : (T.1 271 (58 + p) * T.1 271 (65 + p)).toInt = (T.1 271 (58 + p)).toInt * (T.1 271 (65 + p)).toInt := by
    rw [h2]
    rcases w with w | w
    · rw [w, Int32.one_mul, one_ti, Int.one_mul]
    · rw [w, Int32.neg_mul, Int32.one_mul, show (-1 : Int32).toInt = -1 from rfl, Int32.toInt_neg, vi, Int.bmod_eq_of_le (by omega) (by omega)]
      omega
  rw [t2] at t1
  refine ⟨by omega, by rw [h2, vi]; omega, ?_⟩
  rw [h2, vi] at t1 ⊢
  rcases w with w | w
  · rw [w, one_ti] at t1
    omega
  · rw [w, show (-1 : Int32).toInt = -1 from rfl] at t1
    omega
/-- each point gives eight times what it has, and one more -/
theorem ph_out (L : LT T n k) (GT : GI T n k M) (hM : M ≤ 20000000) (K : CONS T n k) {p : Nat} (hp : p < n) : dv (tlv T) (hdv T) (phA T n) k p + phL T n p = 8 * (T.1 271 (44 + p)).toInt + 1 := by
  have c := (cons_int GT hM K hp).1
  have s := s_out L hp
  have l : dv (tlv T) (hdv T) (phA T n) k p = 8 * dv (tlv T) (hdv T) (fun a => (rm T a 4).toInt) k p + dv (tlv T) (hdv T) (sA T n) k p := dv_lin (m := 8) (f := fun a => (rm T a 4).toInt) (g := sA T n) k
  rw [l]
  unfold phL
  rw [c]
  omega
/-- strictly within the bounds on the tree -/
theorem ph_in (L : LT T n k) (GT : GI T n k M) (SF : SFT T n k) {b c : Nat} (hb : b < k) (hc : c < n) (e : T.1 282 c = nI b) : 1 ≤ phA T n b ∧ phA T n b ≤ 8 * (rm T b 2).toInt - 1 := by
  have n7 := L.1.1.2.1
  have k14 := L.1.1.2.2
  obtain ⟨-, -, -, -, ⟨A1, A2, -, -⟩, -, -⟩ := id GT
  obtain ⟨v, bd, q1, q2, q3, q4⟩ := A2 b hb
  obtain ⟨s1, s2⟩ := (SF c hc).1 b hb e
  obtain ⟨u1, u2⟩ := subn_in L hc
  obtain ⟨t1, t2, t3, t4⟩ := L.1.te hb
  unfold phA
  rw [sA_at L hc e, q3, q4, nI_toInt (by omega), nI_toInt (by omega)]
  rw [q3, q4, t1] at s1
  rw [q3, t2] at s2
  have ends : tlv T b = c ∨ hdv T b = c := by
    rcases (L.at hc).2.2.2.2.2 with ⟨-, f2, -⟩ | ⟨-, b2, hb2, f2, -, f4⟩
    · have := (nI_eq (by omega) (by omega)).mp (f2.symm.trans e)
      omega
    · have : b2 = b := (nI_eq (by omega) (by omega)).mp (f2.symm.trans e)
      subst this
      rw [t1, t2] at f4
      rcases f4 with ⟨m1, -⟩ | ⟨m1, -⟩
      · exact Or.inl ((nI_eq (by omega) (by omega)).mp m1)
      · exact Or.inr ((nI_eq (by omega) (by omega)).mp m1)
  by_cases z : tlv T b = c
  · have := (nI_ltI (by omega) (by omega)).mp (s1 (by rw [z]))
    rw [if_pos z]
    omega
  · have := pos_nI (by omega) (s2 (by rw [ends.resolve_left z]))
    rw [if_neg z]
    omega
/-- off the tree: empty or full -/
theorem ph_off (L : LT T n k) {b : Nat} (hb : b < k) (nh : rf_hangs T b = false) : phA T n b = 8 * (rm T b 4).toInt := by
  have n7 := L.1.1.2.1
  have k14 := L.1.1.2.2
  unfold phA
  rw [sA_off (fun c hc z => ?_)]
  · omega
  · rcases (L.at hc).2.2.2.2.2 with ⟨-, f2, -⟩ | ⟨-, b2, hb2, f2, f3, -⟩
    · have := (nI_eq (by omega) (by omega)).mp (f2.symm.trans z)
      omega
    · have : b2 = b := (nI_eq (by omega) (by omega)).mp (f2.symm.trans z)
      rw [this, nh] at f3
      cases f3
end VNP
