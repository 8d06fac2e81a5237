/-! ===== one order on both sides ===== -/
section SCO
variable {h g r : LH} {n k m M d : Nat}
/-- what order v does to the class's grid: the heap, the count of pivots, whether it was done -/
def od (h : LH) (n k m v : Nat) (a b c : Int32) : LH × Nat × Bool :=
  if v = 9 then ((rt_run 0 n k (h.1 0 2) a.toNatClampNeg 0 m h).2, m + (rt_run 0 n k (h.1 0 2) a.toNatClampNeg 0 m h).1, decide (0 < (rt_run 0 n k (h.1 0 2) a.toNatClampNeg 0 m h).1))
  else if v = 10 then (if nt_canMove h 0 a b c = true then nt_beg (nt_mv h 0 a b c) 0 n k 1 else h, m, nt_canMove h 0 a b c)
  else if v = 5 then (if nt_canOpen h 0 a 0 = true then nt_beg (nt_op h 0 a 0) 0 n k 1 else h, m, nt_canOpen h 0 a 0)
  else if v = 11 then (if nt_canOpen h 0 a 1 = true then nt_beg (nt_op h 0 a 1) 0 n k 1 else h, m, nt_canOpen h 0 a 1)
  else if v = 12 then (if nt_canB h 0 a b = true then nt_beg (w1 h (0 + 4) a.toNatClampNeg b) 0 n k 1 else h, m, nt_canB h 0 a b)
  else if v = 13 then (if nt_canC h 0 a b = true then nt_prs (w1 h (0 + 5) a.toNatClampNeg b) 0 n else h, m, nt_canC h 0 a b)
  else if v = 2 then (if nt_canC h 0 a (-b) = true then nt_prs (w1 h (0 + 5) a.toNatClampNeg (-b)) 0 n else h, m, nt_canC h 0 a (-b))
  else if v = 14 then (nt_beg h 0 n k 0, m, true)
  else (w1 h 0 2 (nI (v - 6)), m, true)
theorem rx_od {v : Nat} {a b c : Int32} (hv : v = 2 ∨ (5 ≤ v ∧ v < 15)) (ha : v = 9 → ∃ NN, NN ≤ 60 ∧ a = nI NN) (hM : M ≤ 18000000) (G : GI r n k M) (N : NR h 0 r n k m) : tf_Sp (d + 8) 68 [.ref 270, .long (px_W.getD v 0), .int a, .int b, .int c] r (fun x g => x = .int (bI (od h n k m v a b c).2.2) ∧ NR (od h n k m v a b c).1 0 g n k (od h n k m v a b c).2.1) := by
  unfold od
  by_cases v9 : v = 9
  · obtain ⟨NN, h60, rfl⟩ := ha v9
    subst v9
    rw [if_pos rfl, nI_clamp (by omega)]
    exact rx_id9 (by omega) hM G N
  rw [if_neg v9]
  by_cases v10 : v = 10
  · subst v10
    exact rx_id10 G N
  rw [if_neg v10]
  by_cases v5 : v = 5
  · subst v5
    exact rx_id5 (Or.inl ⟨rfl, rfl⟩) G N
  rw [if_neg v5]
  by_cases v11 : v = 11
  · subst v11
    exact rx_id5 (Or.inr ⟨rfl, rfl⟩) G N
  rw [if_neg v11]
  by_cases v12 : v = 12
  · subst v12
    exact rx_id12 G N
  rw [if_neg v12]
  by_cases v13 : v = 13
  · subst v13
    exact rx_id13 (Or.inl ⟨rfl, rfl⟩) G N
  rw [if_neg v13]
  by_cases v2 : v = 2
  · subst v2
    exact rx_id13 (Or.inr ⟨rfl, rfl⟩) G N
  rw [if_neg v2]
  by_cases v14 : v = 14
  · subst v14
    exact rx_id14 G N
  rw [if_neg v14]
  have v678 : v = 6 ∨ v = 7 ∨ v = 8 := by
    clear ha G N
    omega
  exact rx_id6 v678 G N
theorem tv_so4 : ∀ v, v < 15 → ((tv_sm.getD v 0).toInt = 12 → v = 6) ∧ ((tv_sm.getD v 0).toInt = 13 → v = 7) ∧ ((tv_sm.getD v 0).toInt = 14 → v = 8) ∧ ((tv_sm.getD v 0).toInt = 15 → v = 14) := by decide +kernel
theorem tv_so5 : ∀ v, v < 15 → ((tv_sm.getD v 0).toInt < 3 ∨ 15 < (tv_sm.getD v 0).toInt) → ¬ (v = 2 ∨ (5 ≤ v ∧ v < 15)) := by decide +kernel
/-- the class obeys a line -/
theorem cx_od {cc line : Nat} {c0 : Nat} (H : NT h 0 n k m) (R : RO h c0) (hm : m < 1900000000) (hc : cc ≤ 80) (hl : line < cc) (V : VB h cc) (O : OGr h cc) (hv : vbn h line = 2 ∨ (5 ≤ vbn h line ∧ vbn h line < 15)) : tf_Sp (d + 6) 241 [.ref 259, .int (nI line), .ref 0, .ref 241] h (fun x g => x = .int (bI (od h n k m (vbn h line) (nb h line 0) (nb h line 1) (nb h line 2)).2.2) ∧ g = (od h n k m (vbn h line) (nb h line 0) (nb h line 1) (nb h line 2)).1) := by
  intro Q q
  have e : (nI line).toNatClampNeg = line := nI_clamp (by omega)
  have vv : vp_in (h.1 260 (nI line).toNatClampNeg) 15 := by rw [e]; exact V line hl
  have ev : (h.1 260 (nI line).toNatClampNeg).toNatClampNeg = vbn h line := by rw [e]; rfl
  have v15 : vbn h line < 15 := by rw [← ev]; exact tv_lt vv
  have cv : (nI (vbn h line)).toNatClampNeg = vbn h line := nI_clamp (by omega)
  have l80 : line < 80 := by omega
  obtain ⟨s3, s4, s5, s6, s7⟩ := tv_so1 (vbn h line) v15
  obtain ⟨s8, s9, s10, s11⟩ := tv_so2 (vbn h line) v15
  obtain ⟨s12, s13, s14, s15⟩ := tv_so4 (vbn h line) v15
  have s0 := tv_so5 (vbn h line) v15
  have n0 := sx_nb (d := d + 4) (h := h) (line := line) (i := 0) (y := 0) l80 (by decide) rfl
  have n1 := sx_nb (d := d + 4) (h := h) (line := line) (i := 1) (y := 1) l80 (by decide) rfl
  have n2 := sx_nb (d := d + 4) (h := h) (line := line) (i := 2) (y := 2) l80 (by decide) rfl
  have Ol := O line hl
  refine en_X4_obey k000 (go_X4_obey_0 k000 ⟨⟨vi_of l80 (by omega), vv⟩, ?_⟩)
  rw [ev]
  refine go_X4_obey_12 k000 ?_
  rw [cv]
  generalize vbn h line = v at *
  refine ⟨vi_of v15 (by omega), fun z => absurd hv (s0 z), fun z => ?_, fun z => absurd (s4 z) (by omega), fun z => absurd (s5 z) (by omega), fun z => ?_, fun z => ?_, fun z => ?_, fun z => ?_, fun z => ?_, fun z => ?_, fun z => ?_, fun z => ?_, fun z => ?_, fun z => ?_, trivial⟩
  · have := s3 z
    subst this
    exact go_X4_obey_185 k000 (n0 _ (go_X4_obey_192 k000 k000 (n1 _ (go_X4_obey_198 k000 k000 (sx_cost (d := d + 3) H.1 _ _ _ (go_X4_obey_202 k000 ⟨bI_nar _, q _ _ ⟨rfl, rfl⟩⟩))))))
  · have := s6 z
    subst this
    exact go_X4_obey_127 k000 (n0 _ (go_X4_obey_134 k000 k000 (sx_open (d := d + 2) H.1 _ _ _ (go_X4_obey_138 k000 ⟨bI_nar _, q _ _ ⟨rfl, rfl⟩⟩))))
  · have := s7 z
    subst this
    obtain ⟨NN, m1, m60, em⟩ := Ol rfl
    refine go_X4_obey_80 k000 (n0 _ (go_X4_obey_92 k000 k000 ?_))
    rw [em] at q ⊢
    have od9 : ∀ b c : Int32, od h n k m 9 (nI NN) b c = ((rt_run 0 n k (h.1 0 2) NN 0 m h).2, m + (rt_run 0 n k (h.1 0 2) NN 0 m h).1, decide (0 < (rt_run 0 n k (h.1 0 2) NN 0 m h).1)) := fun b c => by
      unfold od
      rw [if_pos rfl, nI_clamp (by omega)]
    rw [od9] at q
    obtain ⟨-, p2, -, -⟩ := run_m (b := 0) (n := n) (k := k) (ru := h.1 0 2) (f := 0) (i := 0) NN 0 m h
    have sr := sx_run (d := d) (M := NN) H (by omega) (by omega) R (h.1 0 2)
    generalize rt_run 0 n k (h.1 0 2) NN 0 m h = P at sr q p2
    refine sr _ (go_X4_obey_95 k000 ⟨fun z => go_X4_obey_102 k000 (go_X4_obey_103 k000 ⟨rfl, q _ _ ⟨?_, rfl⟩⟩), fun z => go_X4_obey_103 k000 ⟨rfl, q _ _ ⟨?_, rfl⟩⟩⟩)
    · have z := (nI_leI (a := P.1) (b := 0) (by omega) (by omega)).mp z
      show Value.int 0 = .int (bI (decide (0 < P.1)))
      rw [decide_eq_false (by omega)]
      rfl
    · have : 0 < P.1 := by
        rcases Nat.eq_zero_or_pos P.1 with y | y
        · rw [y] at z
          exact absurd (show (nI 0) ≤ (0 : Int32) by decide) z
        · exact y
      show Value.int 1 = .int (bI (decide (0 < P.1)))
      rw [decide_eq_true this]
      rfl
  · have := s8 z
    subst this
    exact go_X4_obey_104 k000 (n0 _ (go_X4_obey_111 k000 k000 (n1 _ (go_X4_obey_117 k000 k000 (n2 _ (go_X4_obey_123 k000 k000 (sx_move (d := d + 2) H.1 _ _ _ _ (go_X4_obey_126 k000 ⟨bI_nar _, q _ _ ⟨rfl, rfl⟩⟩))))))))
  · have := s9 z
    subst this
    exact go_X4_obey_139 k000 (n0 _ (go_X4_obey_146 k000 k000 (sx_open (d := d + 2) H.1 _ _ _ (go_X4_obey_150 k000 ⟨bI_nar _, q _ _ ⟨rfl, rfl⟩⟩))))
  · have := s10 z
    subst this
    exact go_X4_obey_151 k000 (n0 _ (go_X4_obey_158 k000 k000 (n1 _ (go_X4_obey_164 k000 k000 (sx_bound (d := d + 2) H.1 _ _ _ (go_X4_obey_167 k000 ⟨bI_nar _, q _ _ ⟨rfl, rfl⟩⟩))))))
  · have := s11 z
    subst this
    exact go_X4_obey_168 k000 (n0 _ (go_X4_obey_175 k000 k000 (n1 _ (go_X4_obey_181 k000 k000 (sx_cost (d := d + 3) H.1 _ _ _ (go_X4_obey_184 k000 ⟨bI_nar _, q _ _ ⟨rfl, rfl⟩⟩))))))
  · have := s12 z
    subst this
    exact go_X4_obey_210 k000 (sx_setRule (d := d + 3) (h := h) (b := 0) (by decide +kernel) 0 _ (go_X4_obey_215 k000 ⟨bI_nar _, q (.int (bI true)) _ ⟨rfl, rfl⟩⟩))
  · have := s13 z
    subst this
    exact go_X4_obey_216 k000 (sx_setRule (d := d + 3) (h := h) (b := 0) (by decide +kernel) 1 _ (go_X4_obey_221 k000 ⟨bI_nar _, q (.int (bI true)) _ ⟨rfl, rfl⟩⟩))
  · have := s14 z
    subst this
    exact go_X4_obey_222 k000 (sx_setRule (d := d + 3) (h := h) (b := 0) (by decide +kernel) 2 _ (go_X4_obey_227 k000 ⟨bI_nar _, q (.int (bI true)) _ ⟨rfl, rfl⟩⟩))
  · have := s15 z
    subst this
    exact go_X4_obey_203 k000 (sx_beg (d := d + 3) H.1 0 _ (go_X4_obey_208 k000 (q _ _ ⟨rfl, rfl⟩)))
end SCO
