/-! ===== both find the same at fault: orders ===== -/
section PQ1
variable {c : Nat → Int32}
theorem px_ns_k {l : Nat} : ∀ (k p : Nat), p ≤ l → ∀ N, N ∈ (px_ns c l k p).1 → (∃ m, m ≤ 99 ∧ N.1 = nI m) ∧ N.2 ≤ l
  | 0, p, hp, N, hN => by cases hN
  | k + 1, p, hp, N, hN => by
    by_cases t : px_t c l p = 2
    · rw [px_nsS t] at hN
      rcases List.mem_cons.mp hN with rfl | hN
      · exact ⟨px_num99 t, hp⟩
      · exact px_ns_k k (px_nx c l p) (px_nx_s hp).2 N hN
    · rw [px_nsF t] at hN
      cases hN
/-- a line as it is read -/
def LnOK (o : Int32) (l : Nat) (L : px_L) : Prop := L.1 < 15 ∧ px_ar o L.1 ≠ -1 ∧ L.2.2.length = (px_ar o L.1).toNatClampNeg ∧ L.2.1 ≤ l ∧ ∀ N, N ∈ L.2.2 → (∃ m, m ≤ 99 ∧ N.1 = nI m) ∧ N.2 ≤ l
theorem px_ln_ok {l p : Nat} {o : Int32} {L : px_L} (hp : p ≤ l) (e : (px_ln c l o p).1 = some L) : LnOK o l L ∧ L.2.1 = p ∧ ∃ k, L.2.2 = (px_ns c l k (px_nx c l p)).1 ∧ (px_ns c l k (px_nx c l p)).2.2 = true ∧ px_t c l p = 1 ∧ px_t c l (px_ns c l k (px_nx c l p)).2.1 = 3 ∧ (px_ln c l o p).2 = px_nx c l (px_ns c l k (px_nx c l p)).2.1 := by
  by_cases t : px_t c l p = 1
  · cases z : px_vb c o p (px_e c l p) 15 0 with
    | none =>
      rw [px_lnN t z] at e
      cases e
    | some v =>
      obtain ⟨hv, ha, hi⟩ := px_vb_lt 15 0 (by omega) z
      by_cases n : (px_ns c l (px_ar o v).toNatClampNeg (px_nx c l p)).2.2 = true ∧ px_t c l (px_ns c l (px_ar o v).toNatClampNeg (px_nx c l p)).2.1 = 3
      · rw [px_lnT t z n] at e ⊢
        cases e
        have nx := (px_nx_s (c := c) hp).2
        exact ⟨⟨hv, ha, ((px_ns_s (c := c) _ _ nx).2.2 n.1).2, hp, px_ns_k _ _ nx⟩, rfl, _, rfl, n.1, t, n.2, rfl⟩
      · rw [px_lnF t z n] at e
        cases e
  · rw [px_lnW t] at e
    cases e
theorem px_all_ok {l : Nat} {o : Int32} : ∀ (f p : Nat), p ≤ l → ∀ L, L ∈ (px_all c l o f p).1 → LnOK o l L
  | 0, p, hp, L, hL => by
    rw [px_all] at hL
    split at hL <;> cases hL
  | f + 1, p, hp, L, hL => by
    by_cases t0 : px_t c l p = 0
    · rw [px_all0 t0] at hL
      cases hL
    · cases z : (px_ln c l o p).1 with
      | none =>
        rw [px_all, if_neg t0, z] at hL
        cases hL
      | some M =>
        rw [px_all, if_neg t0, z] at hL
        rcases List.mem_cons.mp hL with rfl | hL
        · exact (px_ln_ok hp z).1
        · exact px_all_ok f _ (px_ln5 hp z).2 L hL
end PQ1
/-- the class's way to say what is bad first -/
def fb (b : Int32) : Int32 × Int32 := if b = -1 then (0, -1) else (2, b)
theorem fb_bm {b : Int32} {p : Nat} (hp : p < 1000) : bm (fb b) 2 (nI p) = fb (bd b p) := by
  unfold fb bd bm
  by_cases z : b = -1
  · rw [if_pos z, if_pos z, if_pos rfl, if_neg (nI_m1 hp)]
  · rw [if_neg z, if_neg z, if_neg (show ¬ (2 : Int32) = 0 by decide), if_neg z]
theorem fb_bad {b : Int32} (h : b ≠ -1) : (fb b).1 ≠ 0 := by
  unfold fb
  rw [if_neg h]
  exact (show ¬ (2 : Int32) = 0 by decide)
theorem px_rfi {x lo hi : Int32} : (x < lo ∨ ¬ x ≤ hi) ↔ ¬ rf_in x lo hi = true := by
  unfold rf_in
  rw [Bool.and_eq_true, Bool.not_eq_true', Bool.not_eq_true', decide_eq_false_iff_not, decide_eq_false_iff_not]
  constructor
  · rintro (a | a) ⟨b, e⟩
    · exact b a
    · exact a (Int32.not_lt.mp e)
  · intro a
    by_cases b : x < lo
    · exact Or.inl b
    · exact Or.inr (fun e => a ⟨b, Int32.not_lt.mpr e⟩)
theorem fb_wt {L : px_L} {i : Nat} {lo hi b : Int32} (hp : (px_no L i).2 < 1000) : px_wt L i lo hi 2 (fb b) = fb (px_bt (px_no L i).1 lo hi (px_no L i).2 b) := by
  unfold px_wt px_bt
  by_cases z : rf_in (px_no L i).1 lo hi = true
  · rw [if_neg (fun y => px_rfi.mp y z), if_pos z]
  · rw [if_pos (px_rfi.mpr z), if_neg z, fb_bm hp]
theorem px_bt99 {x b : Int32} {p : Nat} (h : ∃ m, m ≤ 99 ∧ x = nI m) : px_bt x 0 99 p b = b := by
  obtain ⟨m, hm, rfl⟩ := h
  unfold px_bt
  rw [if_pos]
  unfold rf_in
  have a : ¬ nI m < 0 := nI_pos (by omega)
  have e : ¬ (99 : Int32) < nI m := nI_nlt (a := 99) (by omega) (by omega)
  simp [a, e]
theorem px_oL : ∀ v, v < 15 → tv_o.getD v 0 ≠ -1 → v = 9 ∨ v = 10 ∨ v = 5 ∨ v = 11 ∨ v = 2 ∨ v = 12 ∨ v = 13 ∨ v = 6 ∨ v = 7 ∨ v = 8 ∨ v = 14 := by decide
theorem px_oN : (tv_o.getD 9 0).toNatClampNeg = 1 ∧ (tv_o.getD 10 0).toNatClampNeg = 3 ∧ (tv_o.getD 5 0).toNatClampNeg = 1 ∧ (tv_o.getD 11 0).toNatClampNeg = 1 ∧ (tv_o.getD 2 0).toNatClampNeg = 2 ∧ (tv_o.getD 12 0).toNatClampNeg = 2 ∧ (tv_o.getD 13 0).toNatClampNeg = 2 := by decide
theorem px_oZ : (tv_o.getD 6 0).toNatClampNeg = 0 ∧ (tv_o.getD 7 0).toNatClampNeg = 0 ∧ (tv_o.getD 8 0).toNatClampNeg = 0 ∧ (tv_o.getD 14 0).toNatClampNeg = 0 := by decide
theorem px_l1 {α : Type} {l : List α} (h : l.length = 1) : ∃ a, l = [a] := by
  cases l with
  | nil => cases h
  | cons a r => cases r with
    | nil => exact ⟨a, rfl⟩
    | cons b r => cases h
theorem px_l2 {α : Type} {l : List α} (h : l.length = 2) : ∃ a b, l = [a, b] := by
  cases l with
  | nil => cases h
  | cons a r =>
    obtain ⟨b, rfl⟩ := px_l1 (l := r) (Nat.succ.inj h)
    exact ⟨a, b, rfl⟩
theorem px_l3 {α : Type} {l : List α} (h : l.length = 3) : ∃ a b c, l = [a, b, c] := by
  cases l with
  | nil => cases h
  | cons a r =>
    obtain ⟨b, c, rfl⟩ := px_l2 (l := r) (Nat.succ.inj h)
    exact ⟨a, b, c, rfl⟩
theorem px_l4 {α : Type} {l : List α} (h : l.length = 4) : ∃ a b c d, l = [a, b, c, d] := by
  cases l with
  | nil => cases h
  | cons a r =>
    obtain ⟨b, c, d, rfl⟩ := px_l3 (l := r) (Nat.succ.inj h)
    exact ⟨a, b, c, d, rfl⟩
theorem px_ol_13 {v p : Nat} {ns : List (Int32 × Nat)} {s : Int32 × Int32} (n9 : v ≠ 9) (n10 : v ≠ 10) (y : v = 2 ∨ v = 5 ∨ v = 11 ∨ v = 12 ∨ v = 13) : px_ol (v, p, ns) s = px_wt (v, p, ns) 0 0 13 2 s := by
  unfold px_ol
  rw [if_neg n9, if_neg n10, if_pos y]
theorem px_ol_0 {v p : Nat} {ns : List (Int32 × Nat)} {s : Int32 × Int32} (n9 : v ≠ 9) (n10 : v ≠ 10) (y : ¬ (v = 2 ∨ v = 5 ∨ v = 11 ∨ v = 12 ∨ v = 13)) : px_ol (v, p, ns) s = s := by
  unfold px_ol
  rw [if_neg n9, if_neg n10, if_neg y]
theorem px_oh13 {v : Nat} (n9 : v ≠ 9) (n10 : v ≠ 10) : px_olo v 0 = 0 ∧ px_ohi v 0 = 13 ∧ px_olo v 1 = 0 ∧ px_ohi v 1 = 99 := by
  unfold px_olo px_ohi
  rw [if_neg n9, if_neg (fun y => n10 y.1), if_neg n9, if_neg n10, if_pos rfl, if_neg n9, if_neg (fun y => n10 y.1), if_neg n9, if_neg n10, if_neg (by decide)]
  exact ⟨rfl, rfl, rfl, rfl⟩
theorem px_ol_1 {v p l : Nat} {ns : List (Int32 × Nat)} {b : Int32} (hl : l ≤ 400) (ok : ∀ N, N ∈ ns → (∃ m, m ≤ 99 ∧ N.1 = nI m) ∧ N.2 ≤ l) (n9 : v ≠ 9) (n10 : v ≠ 10) (y : v = 2 ∨ v = 5 ∨ v = 11 ∨ v = 12 ∨ v = 13) (hn : ns.length = 1 ∨ ns.length = 2) : px_ol (v, p, ns) (fb b) = fb (px_ob v 0 ns b) := by
  obtain ⟨e1, e2, e3, e4⟩ := px_oh13 n9 n10
  rw [px_ol_13 n9 n10 y]
  rcases hn with hn | hn
  · obtain ⟨N, rfl⟩ := px_l1 hn
    have o0 := ok N (List.mem_cons_self ..)
    rw [px_ob, px_ob, e1, e2]
    exact fb_wt (L := (v, p, [N])) (i := 0) (show N.2 < 1000 by omega)
  · obtain ⟨N, K, rfl⟩ := px_l2 hn
    have o0 := ok N (List.mem_cons_self ..)
    have o1 := ok K (List.mem_cons_of_mem _ (List.mem_cons_self ..))
    rw [px_ob, px_ob, px_ob, e1, e2, e3, e4, px_bt99 o1.1]
    exact fb_wt (L := (v, p, [N, K])) (i := 0) (show N.2 < 1000 by omega)
theorem px_ol_eq {l : Nat} {L : px_L} {b : Int32} (hl : l ≤ 400) (K : LnOK 1 l L) : px_ol L (fb b) = fb (px_ob L.1 0 L.2.2 b) := by
  obtain ⟨v, p, ns⟩ := L
  obtain ⟨hv, ha, hn, hp, ok⟩ := K
  have hv : v < 15 := hv
  have ha : tv_o.getD v 0 ≠ -1 := ha
  have hn : ns.length = (tv_o.getD v 0).toNatClampNeg := hn
  have ok : ∀ N, N ∈ ns → (∃ m, m ≤ 99 ∧ N.1 = nI m) ∧ N.2 ≤ l := ok
  show px_ol (v, p, ns) (fb b) = fb (px_ob v 0 ns b)
  obtain ⟨k9, k10, k5, k11, k2, k12, k13⟩ := px_oN
  obtain ⟨k6, k7, k8, k14⟩ := px_oZ
  have z0 : ns.length = 0 → v ≠ 9 → v ≠ 10 → ¬ (v = 2 ∨ v = 5 ∨ v = 11 ∨ v = 12 ∨ v = 13) → px_ol (v, p, ns) (fb b) = fb (px_ob v 0 ns b) := by
    intro n0 a e y
    have : ns = [] := List.length_eq_zero_iff.mp n0
    subst this
    rw [px_ol_0 a e y, px_ob]
  rcases px_oL v hv ha with rfl | rfl | rfl | rfl | rfl | rfl | rfl | rfl | rfl | rfl | rfl
  · rw [k9] at hn
    obtain ⟨N, rfl⟩ := px_l1 hn
    have o0 := ok N (List.mem_cons_self ..)
    rw [px_ob, px_ob]
    unfold px_ol
    rw [if_pos rfl]
    exact fb_wt (L := (9, p, [N])) (i := 0) (show N.2 < 1000 by omega)
  · rw [k10] at hn
    obtain ⟨N0, N1, N2, rfl⟩ := px_l3 hn
    have o0 := ok N0 (List.mem_cons_self ..)
    have o1 := ok N1 (List.mem_cons_of_mem _ (List.mem_cons_self ..))
    have o2 := ok N2 (List.mem_cons_of_mem _ (List.mem_cons_of_mem _ (List.mem_cons_self ..)))
    rw [px_ob, px_ob, px_ob, px_ob]
    unfold px_ol
    rw [if_neg (show ¬ 10 = 9 by omega), if_pos rfl, fb_wt (L := (10, p, [N0, N1, N2])) (i := 0) (show N0.2 < 1000 by omega), fb_wt (L := (10, p, [N0, N1, N2])) (i := 1) (show N1.2 < 1000 by omega), fb_wt (L := (10, p, [N0, N1, N2])) (i := 2) (show N2.2 < 1000 by omega)]
    rfl
  · rw [k5] at hn
    exact px_ol_1 hl ok (by omega) (by omega) (by omega) (Or.inl hn)
  · rw [k11] at hn
    exact px_ol_1 hl ok (by omega) (by omega) (by omega) (Or.inl hn)
  · rw [k2] at hn
    exact px_ol_1 hl ok (by omega) (by omega) (by omega) (Or.inr hn)
  · rw [k12] at hn
    exact px_ol_1 hl ok (by omega) (by omega) (by omega) (Or.inr hn)
  · rw [k13] at hn
    exact px_ol_1 hl ok (by omega) (by omega) (by omega) (Or.inr hn)
  · exact z0 (hn.trans k6) (by omega) (by omega) (by omega)
  · exact z0 (hn.trans k7) (by omega) (by omega) (by omega)
  · exact z0 (hn.trans k8) (by omega) (by omega) (by omega)
  · exact z0 (hn.trans k14) (by omega) (by omega) (by omega)
theorem px_os_eq {l : Nat} (hl : l ≤ 400) : ∀ (ls : List px_L) (b : Int32), (∀ L, L ∈ ls → LnOK 1 l L) → px_os ls (fb b) = fb (px_oS ls b)
  | [], b, _ => rfl
  | L :: r, b, K => by
    rw [px_os, px_oS, px_ol_eq hl (K L (List.mem_cons_self ..))]
    exact px_os_eq hl r _ (fun M hM => K M (List.mem_cons_of_mem _ hM))
/-- work finds the same at fault on both sides -/
theorem px_wrk_eq {c : Nat → Int32} {l : Nat} (hl : l ≤ 400) : px_wrk c l = px_rwrk c l := by
  unfold px_wrk px_rwrk
  cases (px_all c l 1 80 (px_p c l 0)).2 with
  | some p => rfl
  | none =>
    have e := px_os_eq hl (px_all c l 1 80 (px_p c l 0)).1 (-1) (px_all_ok 80 _ (px_p_le (Nat.zero_le _)).2)
    have f0 : fb (-1) = (0, -1) := rfl
    rw [f0] at e
    simp only
    rw [e]
    unfold fb
    by_cases z : px_oS (px_all c l 1 80 (px_p c l 0)).1 (-1) = -1
    · rw [if_pos z, if_neg (fun y => y z)]
    · rw [if_neg z, if_pos z]
