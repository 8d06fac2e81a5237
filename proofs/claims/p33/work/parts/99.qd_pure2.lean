/-! ===== both find the same at fault: a grid's text, what is bad ===== -/
theorem bd_m1 {b : Int32} {p : Nat} (hp : p < 1000) : bd b p ≠ -1 := by
  unfold bd
  split
  · exact nI_m1 hp
  · assumption
theorem bd_k {b : Int32} {p : Nat} (h : b ≠ -1) : bd b p = b := by
  unfold bd
  rw [if_neg h]
theorem bt_k {x lo hi b : Int32} {p : Nat} (h : b ≠ -1) : px_bt x lo hi p b = b := by
  unfold px_bt
  rw [bd_k h]
  split <;> rfl
theorem bt_m1 {x lo hi b : Int32} {p : Nat} (hp : p < 1000) (e : px_bt x lo hi p b = -1) : rf_in x lo hi = true ∧ b = -1 := by
  unfold px_bt at e
  split at e
  · rename_i z
    exact ⟨z, e⟩
  · exact absurd e (bd_m1 hp)
theorem bm_k {s : Int32 × Int32} {k p : Int32} (h : s.1 ≠ 0) : bm s k p = s := by
  unfold bm
  rw [if_neg h]
theorem wt_k {L : px_L} {i : Nat} {lo hi k : Int32} {s : Int32 × Int32} (h : s.1 ≠ 0) : px_wt L i lo hi k s = s := by
  unfold px_wt
  rw [bm_k h]
  split <;> rfl
theorem gl_k {L : px_L} {t : Nat} {s : Int32 × Int32} (h : s.1 ≠ 0) : px_gl L t s = s := by
  have a : (if t = 14 then bm s 2 (nI L.2.1) else s) = s := by
    rw [bm_k h]
    split <;> rfl
  unfold px_gl
  rw [a, wt_k h, wt_k h, wt_k h, wt_k h, bm_k h]
  split
  · rfl
  · split
    · split <;> rfl
    · split
      · rfl
      · split <;> rfl
theorem ab_k {n b b1 b2 : Nat} {n0 n1 s : Int32} (h : s ≠ -1) : px_ab n b n0 n1 b1 b2 s = s := by
  have a : (if n = 14 then bd s b else s) = s := by
    rw [bd_k h]
    split <;> rfl
  unfold px_ab
  rw [a, bt_k h, bt_k h, bd_k h]
  split <;> rfl
theorem sl_k {v b : Nat} {l : List (Int32 × Nat)} {s : px_S} (h : s.bad ≠ -1) : (px_sl v b l s).bad = s.bad := by
  unfold px_sl
  split
  · exact bt_k h
  · split
    · exact ab_k h
    · split
      · exact bt_k h
      · split
        · exact bt_k h
        · rfl
theorem sS_k : ∀ (ls : List px_L) (s : px_S), s.bad ≠ -1 → (px_sS ls s).bad = s.bad
  | [], s, h => rfl
  | L :: r, s, h => by
    rw [px_sS, sS_k r _ (by rw [sl_k h]; exact h), sl_k h]
theorem sS_m1 {L : px_L} {r : List px_L} {s : px_S} (h : (px_sS (L :: r) s).bad = -1) : (px_sl L.1 L.2.1 L.2.2 s).bad = -1 := by
  by_cases z : (px_sl L.1 L.2.1 L.2.2 s).bad = -1
  · exact z
  · rw [px_sS, sS_k r _ z] at h
    exact h
theorem px_gvA {l : Nat} {L : px_L} (K : LnOK 0 l L) : (∃ p N, L = (0, p, [N])) ∨ (∃ v p N0 N1 N2 N3, (v = 1 ∨ v = 2) ∧ L = (v, p, [N0, N1, N2, N3])) ∨ (∃ v p N0 N1, (v = 3 ∨ v = 4) ∧ L = (v, p, [N0, N1])) ∨ (∃ p N, L = (5, p, [N])) ∨ (∃ v p, (v = 6 ∨ v = 7 ∨ v = 8) ∧ L = (v, p, [])) := by
  obtain ⟨v, p, ns⟩ := L
  obtain ⟨hv, ha, hn, -, -⟩ := K
  have hv : v < 15 := hv
  have ha : tv_g.getD v 0 ≠ -1 := ha
  have hn : ns.length = (tv_g.getD v 0).toNatClampNeg := hn
  rcases px_gv v hv ha with ⟨rfl, e⟩ | ⟨y, e⟩ | ⟨y, e⟩ | ⟨rfl, e⟩ | ⟨y, e⟩
  · obtain ⟨N, rfl⟩ := px_l1 (hn.trans e)
    exact Or.inl ⟨p, N, rfl⟩
  · obtain ⟨N0, N1, N2, N3, rfl⟩ := px_l4 (hn.trans e)
    exact Or.inr (Or.inl ⟨v, p, N0, N1, N2, N3, y, rfl⟩)
  · obtain ⟨N0, N1, rfl⟩ := px_l2 (hn.trans e)
    exact Or.inr (Or.inr (Or.inl ⟨v, p, N0, N1, y, rfl⟩))
  · obtain ⟨N, rfl⟩ := px_l1 (hn.trans e)
    exact Or.inr (Or.inr (Or.inr (Or.inl ⟨p, N, rfl⟩)))
  · have : ns = [] := List.length_eq_zero_iff.mp (hn.trans e)
    subst this
    exact Or.inr (Or.inr (Or.inr (Or.inr ⟨v, p, y, rfl⟩)))
theorem px_sl_0 {b : Nat} {l : List (Int32 × Nat)} {s : px_S} : px_sl 0 b l s = (px_bt (l.getD 0 (0, 0)).1 2 7 (l.getD 0 (0, 0)).2 s.bad, s.fa, px_rd (l.getD 0 (0, 0)).1 2 7, s.n, s.ru, s.su, s.tl) := by
  unfold px_sl
  rw [if_pos rfl]
theorem px_sl_1 {v b : Nat} {l : List (Int32 × Nat)} {s : px_S} (y : v = 1 ∨ v = 2) : px_sl v b l s = (px_ab s.n b (l.getD 0 (0, 0)).1 (l.getD 1 (0, 0)).1 (l.getD 0 (0, 0)).2 (l.getD 1 (0, 0)).2 s.bad, px_fa (px_fa s.fa (l.getD 0 (0, 0)).1 (l.getD 0 (0, 0)).2) (l.getD 1 (0, 0)).1 (l.getD 1 (0, 0)).2, s.pts, if s.n < 14 then s.n + 1 else s.n, s.ru, s.su, if s.n < 14 then px_tl s.tl s.n (px_rd (l.getD 0 (0, 0)).1 0 6) (px_rd (l.getD 1 (0, 0)).1 0 6) (l.getD 2 (0, 0)).1 ((if v = 1 then 1 else -1) * (l.getD 3 (0, 0)).1) else s.tl) := by
  unfold px_sl
  rw [if_neg (show ¬ v = 0 by omega), if_pos y]
theorem px_sl_3 {v b : Nat} {l : List (Int32 × Nat)} {s : px_S} (y : v = 3 ∨ v = 4) : px_sl v b l s = (px_bt (l.getD 0 (0, 0)).1 0 6 (l.getD 0 (0, 0)).2 s.bad, px_fa s.fa (l.getD 0 (0, 0)).1 (l.getD 0 (0, 0)).2, s.pts, s.n, s.ru, px_pw s.su (px_rd (l.getD 0 (0, 0)).1 0 6).toNatClampNeg (if v = 3 then (l.getD 1 (0, 0)).1 else -(l.getD 1 (0, 0)).1), s.tl) := by
  unfold px_sl
  rw [if_neg (show ¬ v = 0 by omega), if_neg (show ¬ (v = 1 ∨ v = 2) by omega), if_pos y]
theorem px_sl_5 {b : Nat} {l : List (Int32 × Nat)} {s : px_S} : px_sl 5 b l s = (px_bt (l.getD 0 (0, 0)).1 0 (nI s.n - 1) (l.getD 0 (0, 0)).2 s.bad, s.fa, s.pts, s.n, s.ru, s.su, if rf_in (px_rd (l.getD 0 (0, 0)).1 0 (nI s.n - 1)) 0 (nI s.n - 1) = true then px_pw s.tl (7 * (px_rd (l.getD 0 (0, 0)).1 0 (nI s.n - 1)).toNatClampNeg + 6) 1 else s.tl) := by
  unfold px_sl
  rw [if_neg (show ¬ 5 = 0 by omega), if_neg (show ¬ (5 = 1 ∨ 5 = 2) by omega), if_neg (show ¬ (5 = 3 ∨ 5 = 4) by omega), if_pos rfl]
theorem px_sl_6 {v b : Nat} {l : List (Int32 × Nat)} {s : px_S} (y : v = 6 ∨ v = 7 ∨ v = 8) : px_sl v b l s = (s.bad, s.fa, s.pts, s.n, nI (v - 6), s.su, s.tl) := by
  unfold px_sl
  rw [if_neg (show ¬ v = 0 by omega), if_neg (show ¬ (v = 1 ∨ v = 2) by omega), if_neg (show ¬ (v = 3 ∨ v = 4) by omega), if_neg (show ¬ v = 5 by omega)]
theorem px_gl_0' {p t : Nat} {l : List (Int32 × Nat)} {s : Int32 × Int32} : px_gl (0, p, l) t s = px_wt (0, p, l) 0 2 7 2 s := by
  unfold px_gl
  rw [if_pos rfl]
theorem px_gl_1' {v p t : Nat} {l : List (Int32 × Nat)} {s : Int32 × Int32} (y : v = 1 ∨ v = 2) : px_gl (v, p, l) t s = (if (px_no (v, p, l) 0).1 = (px_no (v, p, l) 1).1 then bm (px_wt (v, p, l) 1 0 6 2 (px_wt (v, p, l) 0 0 6 2 (if t = 14 then bm s 2 (nI p) else s))) 2 (nI (px_no (v, p, l) 1).2) else px_wt (v, p, l) 1 0 6 2 (px_wt (v, p, l) 0 0 6 2 (if t = 14 then bm s 2 (nI p) else s))) := by
  unfold px_gl
  rw [if_neg (show ¬ v = 0 by omega), if_pos y]
theorem px_gl_3' {v p t : Nat} {l : List (Int32 × Nat)} {s : Int32 × Int32} (y : v = 3 ∨ v = 4) : px_gl (v, p, l) t s = px_wt (v, p, l) 0 0 6 2 s := by
  unfold px_gl
  rw [if_neg (show ¬ v = 0 by omega), if_neg (show ¬ (v = 1 ∨ v = 2) by omega), if_pos y]
theorem px_gl_5' {p t : Nat} {l : List (Int32 × Nat)} {s : Int32 × Int32} : px_gl (5, p, l) t s = px_wt (5, p, l) 0 0 (nI t - 1) 2 s := by
  unfold px_gl
  rw [if_neg (show ¬ 5 = 0 by omega), if_neg (show ¬ (5 = 1 ∨ 5 = 2) by omega), if_neg (show ¬ (5 = 3 ∨ 5 = 4) by omega), if_pos rfl]
theorem px_gl_6' {v p t : Nat} {l : List (Int32 × Nat)} {s : Int32 × Int32} (y : v = 6 ∨ v = 7 ∨ v = 8) : px_gl (v, p, l) t s = s := by
  unfold px_gl
  rw [if_neg (show ¬ v = 0 by omega), if_neg (show ¬ (v = 1 ∨ v = 2) by omega), if_neg (show ¬ (v = 3 ∨ v = 4) by omega), if_neg (show ¬ v = 5 by omega)]
theorem px_rd_in {x lo hi : Int32} (h : rf_in x lo hi = true) : px_rd x lo hi = x := by
  unfold px_rd
  rw [if_pos h]
/-- one line: the same is bad -/
theorem gl_bad {l t : Nat} {L : px_L} {s : px_S} (hl : l ≤ 400) (K : LnOK 0 l L) (hn : s.n = t) : px_gl L t (fb s.bad) = fb (px_sl L.1 L.2.1 L.2.2 s).bad := by
  have ok := K.2.2.2.2
  have hp := K.2.2.2.1
  rcases px_gvA K with ⟨p, N, rfl⟩ | ⟨v, p, N0, N1, N2, N3, y, rfl⟩ | ⟨v, p, N0, N1, y, rfl⟩ | ⟨p, N, rfl⟩ | ⟨v, p, y, rfl⟩
  · have o0 := ok N (List.mem_cons_self ..)
    rw [px_gl_0', px_sl_0]
    exact fb_wt (L := (0, p, [N])) (i := 0) (show N.2 < 1000 by omega)
  · have o0 := ok N0 (List.mem_cons_self ..)
    have o1 := ok N1 (List.mem_cons_of_mem _ (List.mem_cons_self ..))
    have hp : p ≤ l := hp
    have e1 : (if t = 14 then bm (fb s.bad) 2 (nI p) else fb s.bad) = fb (if s.n = 14 then bd s.bad p else s.bad) := by
      rw [hn]
      split
      · exact fb_bm (by omega)
      · rfl
    rw [px_gl_1' y, px_sl_1 y, e1, fb_wt (L := (v, p, [N0, N1, N2, N3])) (i := 0) (show N0.2 < 1000 by omega), fb_wt (L := (v, p, [N0, N1, N2, N3])) (i := 1) (show N1.2 < 1000 by omega)]
    show (if N0.1 = N1.1 then bm (fb (px_bt N1.1 0 6 N1.2 (px_bt N0.1 0 6 N0.2 (if s.n = 14 then bd s.bad p else s.bad)))) 2 (nI N1.2) else fb (px_bt N1.1 0 6 N1.2 (px_bt N0.1 0 6 N0.2 (if s.n = 14 then bd s.bad p else s.bad)))) = fb (px_ab s.n p N0.1 N1.1 N0.2 N1.2 s.bad)
    unfold px_ab
    generalize eX : px_bt N1.1 0 6 N1.2 (px_bt N0.1 0 6 N0.2 (if s.n = 14 then bd s.bad p else s.bad)) = X
    by_cases x1 : X = -1
    · rw [x1] at eX
      obtain ⟨r1, eX2⟩ := bt_m1 (by omega) eX
      obtain ⟨r0, -⟩ := bt_m1 (by omega) eX2
      rw [px_rd_in r1, px_rd_in r0]
      by_cases z : N0.1 = N1.1
      · rw [if_pos z, if_pos z.symm]
        exact fb_bm (by omega)
      · rw [if_neg z, if_neg (fun y => z y.symm)]
    · rw [bm_k (fb_bad x1), bd_k x1]
      split <;> split <;> rfl
  · have o0 := ok N0 (List.mem_cons_self ..)
    rw [px_gl_3' y, px_sl_3 y]
    exact fb_wt (L := (v, p, [N0, N1])) (i := 0) (show N0.2 < 1000 by omega)
  · have o0 := ok N (List.mem_cons_self ..)
    rw [px_gl_5', px_sl_5, ← hn]
    exact fb_wt (L := (5, p, [N])) (i := 0) (show N.2 < 1000 by omega)
  · rw [px_gl_6' y, px_sl_6 y]
theorem ab_14 {b b1 b2 : Nat} {n0 n1 s : Int32} (hb : b < 1000) : px_ab 14 b n0 n1 b1 b2 s ≠ -1 := by
  have a : (if 14 = 14 then bd s b else s) = bd s b := if_pos rfl
  unfold px_ab
  rw [a, bt_k (bd_m1 hb), bt_k (bd_m1 hb), bd_k (bd_m1 hb)]
  split <;> exact bd_m1 hb
theorem px_ia_n {v p : Nat} {l : List (Int32 × Nat)} (h1 : v ≠ 1) (h2 : v ≠ 2) : ¬ px_ia (v, p, l) = true := by
  unfold px_ia
  rw [Bool.or_eq_true, decide_eq_true_eq, decide_eq_true_eq]
  rintro (a | a)
  · exact h1 a
  · exact h2 a
/-- how many arcs stand behind a line -/
theorem gl_n {l t : Nat} {L : px_L} {s : px_S} (hl : l ≤ 400) (K : LnOK 0 l L) (ht : t ≤ 14) (hn : s.n = t) : ((if px_ia L = true then t + 1 else t) ≤ 14 ∧ (px_sl L.1 L.2.1 L.2.2 s).n = (if px_ia L = true then t + 1 else t)) ∨ (px_sl L.1 L.2.1 L.2.2 s).bad ≠ -1 := by
  have hp := K.2.2.2.1
  rcases px_gvA K with ⟨p, N, rfl⟩ | ⟨v, p, N0, N1, N2, N3, y, rfl⟩ | ⟨v, p, N0, N1, y, rfl⟩ | ⟨p, N, rfl⟩ | ⟨v, p, y, rfl⟩
  · rw [if_neg (px_ia_n (by omega) (by omega)), px_sl_0]
    exact Or.inl ⟨ht, hn⟩
  · have ia : px_ia (v, p, [N0, N1, N2, N3]) = true := by
      unfold px_ia
      rcases y with rfl | rfl <;> rfl
    have hp : p ≤ l := hp
    rw [if_pos ia, px_sl_1 y]
    by_cases t14 : t = 14
    · refine Or.inr ?_
      show px_ab s.n p N0.1 N1.1 N0.2 N1.2 s.bad ≠ -1
      rw [hn, t14]
      exact ab_14 (by omega)
    · refine Or.inl ⟨by omega, ?_⟩
      show (if s.n < 14 then s.n + 1 else s.n) = t + 1
      rw [if_pos (by omega), hn]
  · have ia : ¬ px_ia (v, p, [N0, N1]) = true := px_ia_n (by omega) (by omega)
    rw [if_neg ia, px_sl_3 y]
    exact Or.inl ⟨ht, hn⟩
  · rw [if_neg (px_ia_n (by omega) (by omega)), px_sl_5]
    exact Or.inl ⟨ht, hn⟩
  · have ia : ¬ px_ia (v, p, []) = true := px_ia_n (by omega) (by omega)
    rw [if_neg ia, px_sl_6 y]
    exact Or.inl ⟨ht, hn⟩
theorem gs_bad {l : Nat} (hl : l ≤ 400) : ∀ (ls : List px_L) (t : Nat) (s : px_S), (∀ L, L ∈ ls → LnOK 0 l L) → ((t ≤ 14 ∧ s.n = t) ∨ s.bad ≠ -1) → px_gs ls t (fb s.bad) = fb (px_sS ls s).bad
  | [], t, s, _, _ => rfl
  | L :: r, t, s, K, h => by
    have K1 := K L (List.mem_cons_self ..)
    have K2 : ∀ M, M ∈ r → LnOK 0 l M := fun M hM => K M (List.mem_cons_of_mem _ hM)
    rw [px_gs, px_sS]
    by_cases b : s.bad = -1
    · obtain ⟨ht, hn⟩ := h.resolve_right (fun y => y b)
      rw [gl_bad hl K1 hn]
      exact gs_bad hl r _ _ K2 (gl_n hl K1 ht hn)
    · have e := sl_k (v := L.1) (b := L.2.1) (l := L.2.2) b
      rw [gl_k (fb_bad b), ← e]
      exact gs_bad hl r _ _ K2 (Or.inr (by rw [e]; exact b))
/-- how many arcs there are, where nothing is bad -/
def px_na : List px_L → Nat
  | [] => 0
  | L :: r => (if px_ia L = true then 1 else 0) + px_na r
theorem sS_n {l : Nat} (hl : l ≤ 400) : ∀ (ls : List px_L) (t : Nat) (s : px_S), (∀ L, L ∈ ls → LnOK 0 l L) → t ≤ 14 → s.n = t → (px_sS ls s).bad = -1 → (px_sS ls s).n = t + px_na ls ∧ t + px_na ls ≤ 14
  | [], t, s, _, ht, hn, _ => ⟨hn, ht⟩
  | L :: r, t, s, K, ht, hn, hb => by
    have K1 := K L (List.mem_cons_self ..)
    have K2 : ∀ M, M ∈ r → LnOK 0 l M := fun M hM => K M (List.mem_cons_of_mem _ hM)
    have b := sS_m1 hb
    obtain ⟨a, e⟩ := (gl_n hl K1 ht hn).resolve_right (fun y => y b)
    rw [px_sS] at hb ⊢
    obtain ⟨i1, i2⟩ := sS_n hl r _ _ K2 a e hb
    rw [px_na, i1]
    by_cases z : px_ia L = true
    · rw [if_pos z] at i2 ⊢
      rw [if_pos z]
      omega
    · rw [if_neg z] at i2 ⊢
      rw [if_neg z]
      omega
