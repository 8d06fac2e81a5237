/-! ===== work: its orders as the text tells them ===== -/
/-- line i of the lines: what it asks, its numbers -/
def lnV (ls : List px_L) (i : Nat) : Nat := (ls.getD i (0, 0, [])).1
def lnA (ls : List px_L) (i j : Nat) : Int32 := (px_no (ls.getD i (0, 0, [])) j).1
theorem ob_in {v : Nat} : ∀ (ns : List (Int32 × Nat)) (j : Nat) (s : Int32), (∀ N, N ∈ ns → N.2 < 1000) → px_ob v j ns s = -1 → s = -1 ∧ ∀ (i : Nat) (N : Int32 × Nat), ns[i]? = some N → px_ov v (j + i) N.1 = N.1
  | [], j, s, ok, e => ⟨e, fun i N hi => by cases hi⟩
  | M :: r, j, s, ok, e => by
    rw [px_ob] at e
    obtain ⟨a, b⟩ := ob_in r (j + 1) _ (fun N hN => ok N (List.mem_cons_of_mem _ hN)) e
    unfold px_bt at a
    by_cases z : rf_in M.1 (px_olo v j) (px_ohi v j) = true
    · rw [if_pos z] at a
      refine ⟨a, fun i N hi => ?_⟩
      cases i with
      | zero =>
        cases hi
        exact px_rd_in z
      | succ i =>
        have := b i N hi
        rw [show j + 1 + i = j + (i + 1) by omega] at this
        exact this
    · rw [if_neg z] at a
      exact absurd a (bd_m1 (ok M (List.mem_cons_self ..)))
theorem oS_in : ∀ (ls : List px_L) (s : Int32), (∀ L, L ∈ ls → ∀ N, N ∈ L.2.2 → N.2 < 1000) → px_oS ls s = -1 → s = -1 ∧ ∀ L, L ∈ ls → ∀ (i : Nat) (N : Int32 × Nat), L.2.2[i]? = some N → px_ov L.1 i N.1 = N.1
  | [], s, ok, e => ⟨e, fun L hL => by cases hL⟩
  | M :: r, s, ok, e => by
    rw [px_oS] at e
    obtain ⟨a, b⟩ := oS_in r _ (fun L hL => ok L (List.mem_cons_of_mem _ hL)) e
    obtain ⟨a1, b1⟩ := ob_in M.2.2 0 s (ok M (List.mem_cons_self ..)) a
    refine ⟨a1, fun L hL i N hi => ?_⟩
    rcases List.mem_cons.mp hL with rfl | hL
    · have := b1 i N hi
      rw [Nat.zero_add] at this
      exact this
    · exact b L hL i N hi
/-- nothing is at fault -/
theorem wrk_0 {c : Nat → Int32} {l : Nat} (hl : l ≤ 400) (z : (px_wrk c l).1 = 0) : (px_all c l 1 80 (px_p c l 0)).2 = none ∧ px_oS (px_all c l 1 80 (px_p c l 0)).1 (-1) = -1 ∧ (px_os (px_all c l 1 80 (px_p c l 0)).1 (0, -1)).1 = 0 := by
  have z2 := z
  rw [px_wrk_eq hl] at z2
  unfold px_rwrk at z2
  unfold px_wrk at z
  cases e : (px_all c l 1 80 (px_p c l 0)).2 with
  | some p =>
    rw [e] at z
    exact absurd (show (1 : Int32) = 0 from z) (by decide)
  | none =>
    rw [e] at z z2
    refine ⟨rfl, ?_, z⟩
    by_cases y : px_oS (px_all c l 1 80 (px_p c l 0)).1 (-1) = -1
    · exact y
    · exfalso
      have z3 : (if px_oS (px_all c l 1 80 (px_p c l 0)).1 (-1) ≠ -1 then ((2 : Int32), px_oS (px_all c l 1 80 (px_p c l 0)).1 (-1)) else (0, -1)).1 = 0 := z2
      rw [if_pos y] at z3
      exact absurd (show (2 : Int32) = 0 from z3) (by decide)
section SMW
variable {h g r : LH} {n k m M d : Nat}
/-- an order that was refused leaves the grid -/
theorem od_no {v : Nat} {a b c : Int32} (z : (od h n k m v a b c).2.2 = false) : (od h n k m v a b c).1 = h ∧ (od h n k m v a b c).2.1 = m := by
  unfold od at z ⊢
  by_cases v9 : v = 9
  · rw [if_pos v9] at z ⊢
    obtain ⟨-, -, r3, r4⟩ := run_m (b := 0) (n := n) (k := k) (ru := h.1 0 2) (f := 0) (i := 0) a.toNatClampNeg 0 m h
    have z0 : ¬ 0 < (rt_run 0 n k (h.1 0 2) a.toNatClampNeg 0 m h).1 := of_decide_eq_false z
    have e : rt_run 0 n k (h.1 0 2) a.toNatClampNeg 0 m h = (0, h) := by
      by_cases p : nt_pick h 0 k (h.1 0 2) = -1
      · exact r3 p
      · cases f : a.toNatClampNeg with
        | zero => rfl
        | succ f =>
          rw [f] at r4 z0
          exact absurd (r4 (by omega) p) z0
    rw [e]
    exact ⟨rfl, rfl⟩
  rw [if_neg v9] at z ⊢
  have key : ∀ (q : Bool) (g : LH), ((if q = true then g else h, m, q) : LH × Nat × Bool).2.2 = false → ((if q = true then g else h, m, q) : LH × Nat × Bool).1 = h ∧ ((if q = true then g else h, m, q) : LH × Nat × Bool).2.1 = m := by
    intro q g z
    have z : q = false := z
    subst z
    exact ⟨rfl, rfl⟩
  by_cases v10 : v = 10
  · rw [if_pos v10] at z ⊢
    exact key _ _ z
  rw [if_neg v10] at z ⊢
  by_cases v5 : v = 5
  · rw [if_pos v5] at z ⊢
    exact key _ _ z
  rw [if_neg v5] at z ⊢
  by_cases v11 : v = 11
  · rw [if_pos v11] at z ⊢
    exact key _ _ z
  rw [if_neg v11] at z ⊢
  by_cases v12 : v = 12
  · rw [if_pos v12] at z ⊢
    exact key _ _ z
  rw [if_neg v12] at z ⊢
  by_cases v13 : v = 13
  · rw [if_pos v13] at z ⊢
    exact key _ _ z
  rw [if_neg v13] at z ⊢
  by_cases v2 : v = 2
  · rw [if_pos v2] at z ⊢
    exact key _ _ z
  rw [if_neg v2] at z ⊢
  by_cases v14 : v = 14
  · rw [if_pos v14] at z
    exact absurd (show true = false from z) (by decide)
  · rw [if_neg v14] at z
    exact absurd (show true = false from z) (by decide)
theorem odf_i {V : Nat → Nat} {A : Nat → Nat → Int32} : ∀ (f i : Nat) (g : LH) (m : Nat), i ≤ (odf n k V A f i g m).2.2 ∧ (odf n k V A f i g m).2.2 ≤ i + f
  | 0, i, g, m => ⟨Nat.le_refl _, Nat.le_refl _⟩
  | f + 1, i, g, m => by
    rw [odf]
    split
    · obtain ⟨a, b⟩ := odf_i (V := V) (A := A) f (i + 1) (od g n k m (V i) (A i 0) (A i 1) (A i 2)).1 (od g n k m (V i) (A i 0) (A i 1) (A i 2)).2.1
      exact ⟨by omega, by omega⟩
    · exact ⟨Nat.le_refl _, Nat.le_add_right _ _⟩
theorem odf_0 {V : Nat → Nat} {A : Nat → Nat → Int32} : ∀ (f : Nat) (g : LH) (m : Nat), (odf n k V A f 0 g m).2.2 = 0 → (odf n k V A f 0 g m).1 = g ∧ (odf n k V A f 0 g m).2.1 = m
  | 0, g, m, _ => ⟨rfl, rfl⟩
  | f + 1, g, m, z => by
    rw [odf] at z ⊢
    by_cases c : (od g n k m (V 0) (A 0 0) (A 0 1) (A 0 2)).2.2 = true
    · rw [if_pos c] at z
      have := (odf_i (n := n) (k := k) (V := V) (A := A) f (0 + 1) (od g n k m (V 0) (A 0 0) (A 0 1) (A 0 2)).1 (od g n k m (V 0) (A 0 0) (A 0 1) (A 0 2)).2.1).1
      omega
    · rw [if_neg c]
      exact od_no (Bool.not_eq_true _ ▸ c)
/-- only the numbers that stand in the line count -/
theorem od_ln {l : Nat} {L : px_L} {A B : Nat → Int32} (K : LnOK 1 l L) (e : ∀ j, j < L.2.2.length → A j = B j) : od h n k m L.1 (A 0) (A 1) (A 2) = od h n k m L.1 (B 0) (B 1) (B 2) := by
  obtain ⟨v, p, ns⟩ := L
  obtain ⟨-, -, hn, -, -⟩ := K
  have hn : ns.length = (tv_o.getD v 0).toNatClampNeg := hn
  have e : ∀ j, j < ns.length → A j = B j := e
  obtain ⟨k9, k10, k5, k11, k2, k12, k13⟩ := px_oN
  show od h n k m v (A 0) (A 1) (A 2) = od h n k m v (B 0) (B 1) (B 2)
  refine od_cg (fun y => e 0 ?_) (fun y => e 1 ?_) (fun y => e 2 ?_)
  · rw [hn]
    rcases y with rfl | rfl | rfl | rfl | rfl | rfl | rfl
    · omega
    · omega
    · omega
    · omega
    · omega
    · omega
    · omega
  · rw [hn]
    rcases y with rfl | rfl | rfl | rfl
    · omega
    · omega
    · omega
    · omega
  · rw [hn]
    subst y
    omega
theorem lnV_v {l : Nat} {L : px_L} (K : LnOK 1 l L) : L.1 = 2 ∨ (5 ≤ L.1 ∧ L.1 < 15) := by
  have := px_oL L.1 K.1 K.2.1
  omega
theorem ln_at {ls : List px_L} {i : Nat} (hi : i < ls.length) : ls[i]? = some (ls.getD i (0, 0, [])) ∧ ls.getD i (0, 0, []) ∈ ls := by
  have e : ls[i]? = some ls[i] := List.getElem?_eq_getElem hi
  have e2 : ls.getD i (0, 0, []) = ls[i] := by rw [List.getD_eq_getElem?_getD, e]; rfl
  rw [e2]
  exact ⟨e, List.getElem_mem hi⟩
theorem no_at {L : px_L} {j : Nat} (hj : j < L.2.2.length) : L.2.2[j]? = some (px_no L j) := by
  have e : L.2.2[j]? = some L.2.2[j] := List.getElem?_eq_getElem hj
  rw [e]
  unfold px_no
  rw [List.getD_eq_getElem?_getD, e]
  rfl
/-- the class's orders are the text's -/
theorem odf_c {l : Nat} {ls : List px_L} (K : ∀ L, L ∈ ls → LnOK 1 l L) (S : LSo h 0 ls) : odf n k (vbn h) (nb h) ls.length 0 g m = odf n k (lnV ls) (lnA ls) ls.length 0 g m := by
  refine odf_cg ls.length 0 g m (fun j _ hj q w => ?_)
  obtain ⟨a, b⟩ := ln_at (ls := ls) (i := j) (by omega)
  have A := S j _ a
  rw [Nat.zero_add] at A
  have KL := K _ b
  have ev : vbn h j = lnV ls j := A.1.vb KL.1
  rw [ev]
  exact od_ln (A := fun i => nb h j i) (B := fun i => lnA ls j i) KL (fun i hi => (A.1.no hi).1)
/-- the reference's orders are the text's -/
theorem odf_r {l : Nat} {ls : List px_L} (K : ∀ L, L ∈ ls → LnOK 1 l L) (O : ONs r ls) (e : px_oS ls (-1) = -1) (hl : l ≤ 400) : odf n k (lnV ls) (fun i j => r.1 280 (4 * i + j)) ls.length 0 g m = odf n k (lnV ls) (lnA ls) ls.length 0 g m := by
  obtain ⟨-, ok⟩ := oS_in ls (-1) (fun L hL N hN => by have := ((K L hL).2.2.2.2 N hN).2; omega) e
  refine odf_cg ls.length 0 g m (fun j _ hj q w => ?_)
  obtain ⟨a, b⟩ := ln_at (ls := ls) (i := j) (by omega)
  have KL := K _ b
  have l3 : (ls.getD j (0, 0, [])).2.2.length ≤ 3 := by
    obtain ⟨k9, k10, k5, k11, k2, k12, k13⟩ := px_oN
    obtain ⟨k6, k7, k8, k14⟩ := px_oZ
    have hn : (ls.getD j (0, 0, [])).2.2.length = (tv_o.getD (ls.getD j (0, 0, [])).1 0).toNatClampNeg := KL.2.2.1
    have := px_oL _ KL.1 KL.2.1
    rw [hn]
    rcases this with z | z | z | z | z | z | z | z | z | z | z <;> rw [z] <;> omega
  refine od_ln (A := fun i => r.1 280 (4 * j + i)) (B := fun i => lnA ls j i) KL (fun i hi => ?_)
  have en := no_at hi
  show r.1 280 (4 * j + i) = (px_no (ls.getD j (0, 0, [])) i).1
  rw [O j _ a i _ (by omega) en]
  exact ok _ b i _ en
end SMW
