/-! ===== shift on fresh objects, all ===== -/
theorem p1_ch_ok {a b : Int × Int} {lo n : Nat} (h : p1_ch a b (p1_up lo n) = true) {x y z : Int32} (hx : a.1 ≤ x.toInt ∧ x.toInt ≤ a.2) (hy : b.1 ≤ y.toInt ∧ y.toInt ≤ b.2) (hz : (lo : Int) ≤ z.toInt) (hz2 : z.toInt < (lo : Int) + n) : lk_two tk_h 188 [.ref 240, .int x, .int y, .int z] 60 [.ref 270, .int x, .int y, .int z] (fun _ => True) := by
  have hm : (((lo + (z.toInt.toNat - lo) : Nat) : Int), ((lo + (z.toInt.toNat - lo) : Nat) : Int)) ∈ p1_up lo n := by
    unfold p1_up
    exact List.mem_map.mpr ⟨z.toInt.toNat - lo, List.mem_range.mpr (by omega), rfl⟩
  have hp := List.all_eq_true.mp h _ hm
  have e3 : tf_g (p1_pv (((lo + (z.toInt.toNat - lo) : Nat) : Int), ((lo + (z.toInt.toNat - lo) : Nat) : Int))) (.int z) := p1_pv_ok ⟨by simp only; omega, by simp only; omega⟩
  exact p1_pair_ok hp ⟨rfl, p1_pv_ok hx, p1_pv_ok hy, e3, trivial⟩ ⟨rfl, p1_pv_ok hx, p1_pv_ok hy, e3, trivial⟩
theorem p1_chs {a b : Int × Int} {x y z : Int32} (h0 : p1_ch a b [(-2147483648, 0), (100, 2147483647)] = true) (h : ∀ k, k < 10 → p1_ch a b (p1_up (1 + 10 * k) (if k = 9 then 9 else 10)) = true) (hx : a.1 ≤ x.toInt ∧ x.toInt ≤ a.2) (hy : b.1 ≤ y.toInt ∧ y.toInt ≤ b.2) : lk_two tk_h 188 [.ref 240, .int x, .int y, .int z] 60 [.ref 270, .int x, .int y, .int z] (fun _ => True) := by
  have hr := tf_i32r z
  by_cases h1 : z.toInt ≤ 0
  · have e3 : tf_g (p1_pv (-2147483648, 0)) (.int z) := p1_pv_ok ⟨hr.1, h1⟩
    exact p1_pair_ok (List.all_eq_true.mp h0 _ List.mem_cons_self) ⟨rfl, p1_pv_ok hx, p1_pv_ok hy, e3, trivial⟩ ⟨rfl, p1_pv_ok hx, p1_pv_ok hy, e3, trivial⟩
  · by_cases h2 : 100 ≤ z.toInt
    · have e3 : tf_g (p1_pv (100, 2147483647)) (.int z) := p1_pv_ok ⟨h2, hr.2⟩
      exact p1_pair_ok (List.all_eq_true.mp h0 _ (List.mem_cons_of_mem _ List.mem_cons_self)) ⟨rfl, p1_pv_ok hx, p1_pv_ok hy, e3, trivial⟩ ⟨rfl, p1_pv_ok hx, p1_pv_ok hy, e3, trivial⟩
    · have hk : (z.toInt.toNat - 1) / 10 < 10 := by omega
      refine p1_ch_ok (h ((z.toInt.toNat - 1) / 10) hk) hx hy (by omega) ?_
      split <;> omega
def p6_oth : Bool := p1_F.all (fun a => p1_F.all (fun b => p1_two a b || p1_pair 188 [p1_X, p1_pv a, p1_pv b, p1_pv (-2147483648, 2147483647)] 60 [p1_M, p1_pv a, p1_pv b, p1_pv (-2147483648, 2147483647)]))
set_option maxRecDepth 1000000 in
theorem p6_oth_ok : p6_oth = true := by decide +kernel
set_option maxRecDepth 1000000 in
theorem p6_f0 : p1_ch (0, 0) (1, 1) [(-2147483648, 0), (100, 2147483647)] = true := by decide +kernel
set_option maxRecDepth 1000000 in
theorem p6_g0 : p1_ch (1, 1) (0, 0) [(-2147483648, 0), (100, 2147483647)] = true := by decide +kernel
theorem p6_f : ∀ k, k < 10 → p1_ch (0, 0) (1, 1) (p1_up (1 + 10 * k) (if k = 9 then 9 else 10)) = true := by
  intro k hk
  match k, hk with
  | 0, _ => exact p6f_0
  | 1, _ => exact p6f_1
  | 2, _ => exact p6f_2
  | 3, _ => exact p6f_3
  | 4, _ => exact p6f_4
  | 5, _ => exact p6f_5
  | 6, _ => exact p6f_6
  | 7, _ => exact p6f_7
  | 8, _ => exact p6f_8
  | 9, _ => exact p6f_9
  | n + 10, hk => omega
theorem p6_g : ∀ k, k < 10 → p1_ch (1, 1) (0, 0) (p1_up (1 + 10 * k) (if k = 9 then 9 else 10)) = true := by
  intro k hk
  match k, hk with
  | 0, _ => exact p6g_0
  | 1, _ => exact p6g_1
  | 2, _ => exact p6g_2
  | 3, _ => exact p6g_3
  | 4, _ => exact p6g_4
  | 5, _ => exact p6g_5
  | 6, _ => exact p6g_6
  | 7, _ => exact p6g_7
  | 8, _ => exact p6g_8
  | 9, _ => exact p6g_9
  | n + 10, hk => omega
theorem p1_cF : p1_cov (-2147483648) p1_F = true := by decide
theorem pk_6 (x y z : Int32) : lk_two tk_h 188 [.ref 240, .int x, .int y, .int z] 60 [.ref 270, .int x, .int y, .int z] (fun _ => True) := by
  obtain ⟨a, ha, hx⟩ := p1_cov_ok (x := x) p1_cF (tf_i32r x).1
  obtain ⟨b, hb, hy⟩ := p1_cov_ok (x := y) p1_cF (tf_i32r y).1
  have h1 := List.all_eq_true.mp (List.all_eq_true.mp p6_oth_ok a ha) b hb
  rcases (Bool.or_eq_true _ _).mp h1 with h1 | h1
  · unfold p1_two at h1
    simp only [Bool.or_eq_true, Bool.and_eq_true, decide_eq_true_eq] at h1
    rcases h1 with ⟨rfl, rfl⟩ | ⟨rfl, rfl⟩
    · exact p1_chs p6_f0 p6_f hx hy
    · exact p1_chs p6_g0 p6_g hx hy
  · have e3 : tf_g (p1_pv (-2147483648, 2147483647)) (.int z) := p1_pv_ok (tf_i32r z)
    exact p1_pair_ok h1 ⟨rfl, p1_pv_ok hx, p1_pv_ok hy, e3, trivial⟩ ⟨rfl, p1_pv_ok hx, p1_pv_ok hy, e3, trivial⟩
