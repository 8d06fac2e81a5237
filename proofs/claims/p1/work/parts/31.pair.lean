/-! ===== one call on a fresh object: both answers, by running them ===== -/
def p1_pair (kx : Nat) (As : List tf_av) (km : Nat) (Bs : List tf_av) : Bool := match tf_yo 100000 11 kx As tk_h with
  | some (.int a, g) => (match tf_yo 100000 11 km Bs g with
    | some (.int b, _) => decide (a = b)
    | _ => false)
  | _ => false
theorem p1_pair_ok {kx : Nat} {As : List tf_av} {km : Nat} {Bs : List tf_av} {As' Bs' : List Value} (h : p1_pair kx As km Bs = true) (ha : tf_gl As As') (hb : tf_gl Bs Bs') : lk_two tk_h kx As' km Bs' (fun _ => True) := by
  unfold p1_pair at h
  split at h
  · rename_i a g hx
    split at h
    · rename_i b g2 hm
      have e := of_decide_eq_true h
      subst e
      exact ⟨a, g, g2, fun Q hq => tf_yo_ok _ _ _ _ _ _ _ hx ha Q hq, fun Q hq => tf_yo_ok _ _ _ _ _ _ _ hm hb Q hq, trivial⟩
    · cases h
  · cases h
def p1_pv (q : Int × Int) : tf_av := if q.1 = q.2 then .inl (.int (Int32.ofInt q.1)) else .inr (.inl q)
theorem p1_pv_ok {q : Int × Int} {x : Int32} (h : q.1 ≤ x.toInt ∧ x.toInt ≤ q.2) : tf_g (p1_pv q) (.int x) := by
  unfold p1_pv
  split
  · rename_i e
    have e2 : x.toInt = q.1 := by omega
    show Value.int x = .int (Int32.ofInt q.1)
    rw [← e2, Int32.ofInt_toInt]
  · exact ⟨x, rfl, h⟩
def p1_cov : Int → List (Int × Int) → Bool
  | lo, [] => decide (2147483647 < lo)
  | lo, q :: r => decide (q.1 = lo) && p1_cov (q.2 + 1) r
theorem p1_cov_ok {x : Int32} : ∀ {l : List (Int × Int)} {lo : Int}, p1_cov lo l = true → lo ≤ x.toInt → ∃ q ∈ l, q.1 ≤ x.toInt ∧ x.toInt ≤ q.2
  | [], lo, h, hx => by
    have := of_decide_eq_true h
    have := (tf_i32r x).2
    omega
  | q :: r, lo, h, hx => by
    simp only [p1_cov, Bool.and_eq_true, decide_eq_true_eq] at h
    by_cases hq : x.toInt ≤ q.2
    · exact ⟨q, List.mem_cons_self, by omega, hq⟩
    · obtain ⟨q2, h1, h2⟩ := p1_cov_ok (x := x) h.2 (by omega)
      exact ⟨q2, List.mem_cons_of_mem _ h1, h2⟩
abbrev p1_X : tf_av := .inl (.ref 240)
abbrev p1_M : tf_av := .inl (.ref 270)
theorem p1_0 {kx km : Nat} (h : p1_pair kx [p1_X] km [p1_M] = true) : lk_two tk_h kx [.ref 240] km [.ref 270] (fun _ => True) := p1_pair_ok h ⟨rfl, trivial⟩ ⟨rfl, trivial⟩
def p1_c1 (P1 : List (Int × Int)) (kx km : Nat) : Bool := p1_cov (-2147483648) P1 && P1.all (fun a => p1_pair kx [p1_X, p1_pv a] km [p1_M, p1_pv a])
theorem p1_1 {P1 : List (Int × Int)} {kx km : Nat} (h : p1_c1 P1 kx km = true) (x : Int32) : lk_two tk_h kx [.ref 240, .int x] km [.ref 270, .int x] (fun _ => True) := by
  simp only [p1_c1, Bool.and_eq_true] at h
  obtain ⟨q, hq, hx⟩ := p1_cov_ok h.1 (tf_i32r x).1
  have := p1_pv_ok hx
  exact p1_pair_ok (List.all_eq_true.mp h.2 q hq) ⟨rfl, this, trivial⟩ ⟨rfl, this, trivial⟩
def p1_c2 (P1 : List (Int × Int)) (P2 : Int × Int → List (Int × Int)) (kx km : Nat) : Bool := p1_cov (-2147483648) P1 && P1.all (fun a => p1_cov (-2147483648) (P2 a) && (P2 a).all (fun b => p1_pair kx [p1_X, p1_pv a, p1_pv b] km [p1_M, p1_pv a, p1_pv b]))
theorem p1_2 {P1 : List (Int × Int)} {P2 : Int × Int → List (Int × Int)} {kx km : Nat} (h : p1_c2 P1 P2 kx km = true) (x y : Int32) : lk_two tk_h kx [.ref 240, .int x, .int y] km [.ref 270, .int x, .int y] (fun _ => True) := by
  simp only [p1_c2, Bool.and_eq_true] at h
  obtain ⟨q, hq, hx⟩ := p1_cov_ok h.1 (tf_i32r x).1
  have h2 := List.all_eq_true.mp h.2 q hq
  simp only [Bool.and_eq_true] at h2
  obtain ⟨q2, hq2, hy⟩ := p1_cov_ok h2.1 (tf_i32r y).1
  have e1 := p1_pv_ok hx
  have e2 := p1_pv_ok hy
  exact p1_pair_ok (List.all_eq_true.mp h2.2 q2 hq2) ⟨rfl, e1, e2, trivial⟩ ⟨rfl, e1, e2, trivial⟩
def p1_c3 (P1 : List (Int × Int)) (P2 : Int × Int → List (Int × Int)) (P3 : Int × Int → Int × Int → List (Int × Int)) (kx km : Nat) : Bool := p1_cov (-2147483648) P1 && P1.all (fun a => p1_cov (-2147483648) (P2 a) && (P2 a).all (fun b => p1_cov (-2147483648) (P3 a b) && (P3 a b).all (fun c => p1_pair kx [p1_X, p1_pv a, p1_pv b, p1_pv c] km [p1_M, p1_pv a, p1_pv b, p1_pv c])))
theorem p1_3 {P1 : List (Int × Int)} {P2 : Int × Int → List (Int × Int)} {P3 : Int × Int → Int × Int → List (Int × Int)} {kx km : Nat} (h : p1_c3 P1 P2 P3 kx km = true) (x y z : Int32) : lk_two tk_h kx [.ref 240, .int x, .int y, .int z] km [.ref 270, .int x, .int y, .int z] (fun _ => True) := by
  simp only [p1_c3, Bool.and_eq_true] at h
  obtain ⟨q, hq, hx⟩ := p1_cov_ok h.1 (tf_i32r x).1
  have h2 := List.all_eq_true.mp h.2 q hq
  simp only [Bool.and_eq_true] at h2
  obtain ⟨q2, hq2, hy⟩ := p1_cov_ok h2.1 (tf_i32r y).1
  have h3 := List.all_eq_true.mp h2.2 q2 hq2
  simp only [Bool.and_eq_true] at h3
  obtain ⟨q3, hq3, hz⟩ := p1_cov_ok h3.1 (tf_i32r z).1
  have e1 := p1_pv_ok hx
  have e2 := p1_pv_ok hy
  have e3 := p1_pv_ok hz
  exact p1_pair_ok (List.all_eq_true.mp h3.2 q3 hq3) ⟨rfl, e1, e2, e3, trivial⟩ ⟨rfl, e1, e2, e3, trivial⟩
theorem p1_b0 {kx km : Nat} (h : (p1_pair kx [p1_X, p1_pv (0, 0)] km [p1_M, p1_pv (0, 0)] && p1_pair kx [p1_X, p1_pv (1, 1)] km [p1_M, p1_pv (1, 1)]) = true) (b : Int32) (hb : b = 0 ∨ b = 1) : lk_two tk_h kx [.ref 240, .int b] km [.ref 270, .int b] (fun _ => True) := by
  simp only [Bool.and_eq_true] at h
  rcases hb with rfl | rfl
  · exact p1_pair_ok h.1 ⟨rfl, rfl, trivial⟩ ⟨rfl, rfl, trivial⟩
  · exact p1_pair_ok h.2 ⟨rfl, rfl, trivial⟩ ⟨rfl, rfl, trivial⟩
def p1_cb (P1 : List (Int × Int)) (kx km : Nat) : Bool := p1_cov (-2147483648) P1 && P1.all (fun a => p1_pair kx [p1_X, p1_pv a, p1_pv (0, 0)] km [p1_M, p1_pv a, p1_pv (0, 0)] && p1_pair kx [p1_X, p1_pv a, p1_pv (1, 1)] km [p1_M, p1_pv a, p1_pv (1, 1)])
theorem p1_b1 {P1 : List (Int × Int)} {kx km : Nat} (h : p1_cb P1 kx km = true) (x b : Int32) (hb : b = 0 ∨ b = 1) : lk_two tk_h kx [.ref 240, .int x, .int b] km [.ref 270, .int x, .int b] (fun _ => True) := by
  simp only [p1_cb, Bool.and_eq_true] at h
  obtain ⟨q, hq, hx⟩ := p1_cov_ok h.1 (tf_i32r x).1
  have h2 := List.all_eq_true.mp h.2 q hq
  simp only [Bool.and_eq_true] at h2
  have e1 := p1_pv_ok hx
  rcases hb with rfl | rfl
  · exact p1_pair_ok h2.1 ⟨rfl, e1, rfl, trivial⟩ ⟨rfl, e1, rfl, trivial⟩
  · exact p1_pair_ok h2.2 ⟨rfl, e1, rfl, trivial⟩ ⟨rfl, e1, rfl, trivial⟩
def p1_F : List (Int × Int) := [(-2147483648, -1), (0, 0), (1, 1), (2, 2147483647)]
def p1_all : List (Int × Int) := [(-2147483648, 2147483647)]
def p1_A : List (Int × Int) := [(-2147483648, -1), (0, 2147483647)]
def p1_R3 : List (Int × Int) := [(-2147483648, -1), (0, 0), (1, 1), (2, 2), (3, 2147483647)]
def p1_up (lo n : Nat) : List (Int × Int) := (List.range n).map (fun i => (((lo + i : Nat) : Int), ((lo + i : Nat) : Int)))
def p1_two (a b : Int × Int) : Bool := (decide (a = (0, 0)) && decide (b = (1, 1))) || (decide (a = (1, 1)) && decide (b = (0, 0)))
